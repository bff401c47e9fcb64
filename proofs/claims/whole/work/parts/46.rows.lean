/-! rows of a matrix, one or two at once -/
theorem lp_r1 {b : Int32 × (Nat → Int32) → Option ((Int32 × (Nat → Int32)) ⊕ (Nat → Int32))} (n fu r : Nat) (hn : n ≤ 12) (hfu : n < fu) (v : Nat → Int32) (hb : ∀ s a, s < n → b (nI s, a) = some (.inl (nI (s + 1), upd a (12 * r + s) (v s)))) (he : ∀ a, b (nI n, a) = some (.inr a)) (a : Nat → Int32) :
    ∃ a', lpG b fu ((0 : Int32), a) = some a' ∧ ∀ r' s', s' < 12 → a' (12 * r' + s') = if r' = r ∧ s' < n then v s' else a (12 * r' + s') := by
  refine lp_e (em := fun i x => (nI i, x)) (N := n) (I := fun s a' => ∀ r' s', s' < 12 → a' (12 * r' + s') = if r' = r ∧ s' < s then v s' else a (12 * r' + s')) (Q := fun a' => ∀ r' s', s' < 12 → a' (12 * r' + s') = if r' = r ∧ s' < n then v s' else a (12 * r' + s')) (fun s a' hs hI => ⟨_, hb s a' hs, fun r' s' hs' => ?_⟩) (fun a' hI => ⟨a', he a', hI⟩) n 0 fu a (by omega) hfu (fun r' s' hs' => by simp)
  rw [updm (by omega) hs', hI r' s' hs']
  by_cases h : r' = r ∧ s' = s
  · rw [if_pos h, if_pos ⟨h.1, by omega⟩, h.2]
  · rw [if_neg h]
    by_cases h2 : r' = r ∧ s' < s
    · rw [if_pos h2, if_pos ⟨h2.1, by omega⟩]
    · rw [if_neg h2, if_neg (by omega)]
theorem lp_r2 {b : Int32 × (Nat → Int32) × (Nat → Int32) → Option ((Int32 × (Nat → Int32) × (Nat → Int32)) ⊕ ((Nat → Int32) × (Nat → Int32)))} (n fu r : Nat) (hn : n ≤ 12) (hfu : n < fu) (v v2 : Nat → Int32) (hb : ∀ s a a2, s < n → b (nI s, a, a2) = some (.inl (nI (s + 1), upd a (12 * r + s) (v s), upd a2 (12 * r + s) (v2 s)))) (he : ∀ a a2, b (nI n, a, a2) = some (.inr (a, a2))) (a a2 : Nat → Int32) :
    ∃ a' a2', lpG b fu ((0 : Int32), a, a2) = some (a', a2') ∧ (∀ r' s', s' < 12 → a' (12 * r' + s') = if r' = r ∧ s' < n then v s' else a (12 * r' + s')) ∧ ∀ r' s', s' < 12 → a2' (12 * r' + s') = if r' = r ∧ s' < n then v2 s' else a2 (12 * r' + s') := by
  have key := lp_e (em := fun i (x : (Nat → Int32) × (Nat → Int32)) => (nI i, x)) (b := b) (N := n) (I := fun s x => (∀ r' s', s' < 12 → x.1 (12 * r' + s') = if r' = r ∧ s' < s then v s' else a (12 * r' + s')) ∧ ∀ r' s', s' < 12 → x.2 (12 * r' + s') = if r' = r ∧ s' < s then v2 s' else a2 (12 * r' + s')) (Q := fun x => (∀ r' s', s' < 12 → x.1 (12 * r' + s') = if r' = r ∧ s' < n then v s' else a (12 * r' + s')) ∧ ∀ r' s', s' < 12 → x.2 (12 * r' + s') = if r' = r ∧ s' < n then v2 s' else a2 (12 * r' + s')) (fun s x hs hI => ⟨_, hb s x.1 x.2 hs, fun r' s' hs' => ?_, fun r' s' hs' => ?_⟩) (fun x hI => ⟨x, he x.1 x.2, hI⟩) n 0 fu (a, a2) (by omega) hfu ⟨fun r' s' hs' => by simp, fun r' s' hs' => by simp⟩
  · obtain ⟨⟨a', a2'⟩, e1, e2, e3⟩ := key
    exact ⟨a', a2', e1, e2, e3⟩
  · dsimp only
    rw [updm (by omega) hs', hI.1 r' s' hs']
    by_cases h : r' = r ∧ s' = s
    · rw [if_pos h, if_pos ⟨h.1, by omega⟩, h.2]
    · rw [if_neg h]
      by_cases h2 : r' = r ∧ s' < s
      · rw [if_pos h2, if_pos ⟨h2.1, by omega⟩]
      · rw [if_neg h2, if_neg (by omega)]
  · dsimp only
    rw [updm (by omega) hs', hI.2 r' s' hs']
    by_cases h : r' = r ∧ s' = s
    · rw [if_pos h, if_pos ⟨h.1, by omega⟩, h.2]
    · rw [if_neg h]
      by_cases h2 : r' = r ∧ s' < s
      · rw [if_pos h2, if_pos ⟨h2.1, by omega⟩]
      · rw [if_neg h2, if_neg (by omega)]
theorem laySteps_s {n fu : Nat} {c l a m : Nat → Int32} {tc : Nat → Nat → Nat} {len : Nat → Nat} (hn : n ≤ 12) (hfu : n < fu) (h : RpC n cM c tc) (hl : Rp1 n l len) : ∃ a' m', f8_laySteps fu (nI n) c l a m = some (a', m') ∧ Rep n a' (stp len tc) ∧ ∀ r s, r < n → s < n → m' (12 * r + s) = -1 := by
  have hrow : ∀ r a m, r < n → ∃ a' m', f8_laySteps_b1 fu (nI n) c l (nI r) a m = some (.inl (nI (r + 1), a', m')) ∧ (∀ r' s', s' < 12 → a' (12 * r' + s') = if r' = r ∧ s' < n then nI (stp len tc r s') else a (12 * r' + s')) ∧ ∀ r' s', s' < 12 → m' (12 * r' + s') = if r' = r ∧ s' < n then -1 else m (12 * r' + s') := by
    intro r a m hr
    obtain ⟨a', m', e1, e2, e3⟩ := lp_r2 (b := fun z => f8_laySteps_b2 (nI n) (nI r) c l z.1 z.2.1 z.2.2) n fu r hn hfu (fun s => nI (stp len tc r s)) (fun _ => -1) (fun s a a2 hs => by
        show f8_laySteps_b2 (nI n) (nI r) c l (nI s) a a2 = _
        unfold f8_laySteps_b2 stp
        rw [if_neg (nI_ge hs (by omega)), isStep_s hn h hr hs, bnd1_s, nx_m, nI_add]
        by_cases hc : tc r s ≤ 50
        · rw [if_pos hc, if_neg i10, ckN (by omega), ckN (by omega), bnd1_s, ckN (by omega), bd_s, ckN (by omega), bd_s, bd_s, nI_1, clN (by omega), clN (by omega), h r s hr hs, cM_le hc, hl s hs, nI_add, if_pos hc]
        · rw [if_neg hc, if_pos rfl, bnd1_s, ckN (by omega), bd_s, ckN (by omega), bd_s, bd_s, nI_1, clN (by omega), if_neg hc]
          rfl) (fun a a2 => by
        show f8_laySteps_b2 (nI n) (nI r) c l (nI n) a a2 = _
        unfold f8_laySteps_b2
        rw [if_pos (nI_le (Nat.le_refl n) (by omega))]) a m
    refine ⟨a', m', ?_, e2, e3⟩
    unfold f8_laySteps_b1
    rw [if_neg (nI_ge hr (by omega)), e1, bnd2_s, bd_s, nI_1]
  have key := lp_e (em := fun i (x : (Nat → Int32) × (Nat → Int32)) => (nI i, x)) (b := fun z => f8_laySteps_b1 fu (nI n) c l z.1 z.2.1 z.2.2) (N := n) (I := fun r x => (∀ r' s', r' < r → s' < n → x.1 (12 * r' + s') = nI (stp len tc r' s')) ∧ ∀ r' s', r' < r → s' < n → x.2 (12 * r' + s') = -1) (Q := fun x => (∀ r' s', r' < n → s' < n → x.1 (12 * r' + s') = nI (stp len tc r' s')) ∧ ∀ r' s', r' < n → s' < n → x.2 (12 * r' + s') = -1) (fun r x hr hI => ?_) (fun x hI => ⟨x, ?_, hI⟩) n 0 fu (a, m) (by omega) hfu ⟨fun r' s' h => by omega, fun r' s' h => by omega⟩
  · obtain ⟨⟨a', m'⟩, e1, e2, e3⟩ := key
    refine ⟨a', m', ?_, fun r s hr hs => e2 r s hr hs, fun r s hr hs => e3 r s hr hs⟩
    unfold f8_laySteps
    have e1 : lpG (fun z => f8_laySteps_b1 fu (nI n) c l z.1 z.2.1 z.2.2) fu ((0 : Int32), a, m) = some (a', m') := e1
    rw [e1, bnd2_s]
  · obtain ⟨a', m', f1, f2, f3⟩ := hrow r x.1 x.2 hr
    refine ⟨(a', m'), f1, fun r' s' hr' hs' => ?_, fun r' s' hr' hs' => ?_⟩
    · show a' _ = _
      rw [f2 r' s' (by omega)]
      by_cases e : r' = r
      · rw [if_pos ⟨e, hs'⟩, e]
      · rw [if_neg (fun q => e q.1)]; exact hI.1 r' s' (by omega) hs'
    · show m' _ = _
      rw [f3 r' s' (by omega)]
      by_cases e : r' = r
      · rw [if_pos ⟨e, hs'⟩]
      · rw [if_neg (fun q => e q.1)]; exact hI.2 r' s' (by omega) hs'
  · show f8_laySteps_b1 fu (nI n) c l (nI n) x.1 x.2 = _
    unfold f8_laySteps_b1
    rw [if_pos (nI_le (Nat.le_refl n) (by omega))]
theorem startAnew_s {n fu : Nat} {c l a m rk : Nat → Int32} {tc : Nat → Nat → Nat} {len : Nat → Nat} (hn : n ≤ 12) (hfu : n < fu) (h : RpC n cB c tc) (hl : Rp1 n l len) : ∃ a' m' rk', f2_startAnew fu (nI n) c l a m rk = some (nI n, a', m', rk') ∧ Rep n a' (stp len tc) ∧ (∀ r s, r < n → s < n → m' (12 * r + s) = -1) ∧ ∀ r, r < n → rk' r = -1 := by
  have hrow : ∀ r a m rk, r < n → ∃ a' m', f2_startAnew_b1 fu (nI n) c l (nI r) a m rk = some (.inl (nI (r + 1), a', m', upd rk r (-1))) ∧ (∀ r' s', s' < 12 → a' (12 * r' + s') = if r' = r ∧ s' < n then nI (stp len tc r s') else a (12 * r' + s')) ∧ ∀ r' s', s' < 12 → m' (12 * r' + s') = if r' = r ∧ s' < n then -1 else m (12 * r' + s') := by
    intro r a m rk hr
    obtain ⟨a', m', e1, e2, e3⟩ := lp_r2 (b := fun z => f2_startAnew_b2 (nI n) (nI r) c l z.1 z.2.1 z.2.2) n fu r hn hfu (fun s => nI (stp len tc r s)) (fun _ => -1) (fun s a a2 hs => by
        show f2_startAnew_b2 (nI n) (nI r) c l (nI s) a a2 = _
        unfold f2_startAnew_b2
        rw [if_neg (nI_ge hs (by omega)), stepWorth_s hn h hl hr hs, bnd1_s, set_s (by omega) (by omega), bnd1_s, set_s (by omega) (by omega), bnd1_s, bd_s, nI_1]) (fun a a2 => by
        show f2_startAnew_b2 (nI n) (nI r) c l (nI n) a a2 = _
        unfold f2_startAnew_b2
        rw [if_pos (nI_le (Nat.le_refl n) (by omega))]) a m
    refine ⟨a', m', ?_, e2, e3⟩
    unfold f2_startAnew_b1
    rw [if_neg (nI_ge hr (by omega)), ckN (by omega), clN (by omega), bd_s, e1, bnd2_s, bd_s, nI_1]
  have key := lp_e (em := fun i (x : (Nat → Int32) × (Nat → Int32) × (Nat → Int32)) => (nI i, x)) (b := fun z => f2_startAnew_b1 fu (nI n) c l z.1 z.2.1 z.2.2.1 z.2.2.2) (N := n) (I := fun r x => (∀ r' s', r' < r → s' < n → x.1 (12 * r' + s') = nI (stp len tc r' s')) ∧ (∀ r' s', r' < r → s' < n → x.2.1 (12 * r' + s') = -1) ∧ ∀ r', r' < r → x.2.2 r' = -1) (Q := fun x => (∀ r' s', r' < n → s' < n → x.1 (12 * r' + s') = nI (stp len tc r' s')) ∧ (∀ r' s', r' < n → s' < n → x.2.1 (12 * r' + s') = -1) ∧ ∀ r', r' < n → x.2.2 r' = -1) (fun r x hr hI => ?_) (fun x hI => ⟨x, ?_, hI⟩) n 0 fu (a, m, rk) (by omega) hfu ⟨fun r' s' h => by omega, fun r' s' h => by omega, fun r' h => by omega⟩
  · obtain ⟨⟨a', m', rk'⟩, e1, e2, e3, e4⟩ := key
    refine ⟨a', m', rk', ?_, fun r s hr hs => e2 r s hr hs, fun r s hr hs => e3 r s hr hs, e4⟩
    unfold f2_startAnew
    have e1 : lpG (fun z => f2_startAnew_b1 fu (nI n) c l z.1 z.2.1 z.2.2.1 z.2.2.2) fu ((0 : Int32), a, m, rk) = some (a', m', rk') := e1
    rw [e1, bnd3_s]
  · obtain ⟨a', m', f1, f2, f3⟩ := hrow r x.1 x.2.1 x.2.2 hr
    refine ⟨(a', m', upd x.2.2 r (-1)), f1, fun r' s' hr' hs' => ?_, fun r' s' hr' hs' => ?_, fun r' hr' => ?_⟩
    · show a' _ = _
      rw [f2 r' s' (by omega)]
      by_cases e : r' = r
      · rw [if_pos ⟨e, hs'⟩, e]
      · rw [if_neg (fun q => e q.1)]; exact hI.1 r' s' (by omega) hs'
    · show m' _ = _
      rw [f3 r' s' (by omega)]
      by_cases e : r' = r
      · rw [if_pos ⟨e, hs'⟩]
      · rw [if_neg (fun q => e q.1)]; exact hI.2.1 r' s' (by omega) hs'
    · show upd x.2.2 r (-1) r' = _
      rw [upds]
      by_cases e : r' = r
      · rw [if_pos e]
      · rw [if_neg e]; exact hI.2.2 r' (by omega)
  · show f2_startAnew_b1 fu (nI n) c l (nI n) x.1 x.2.1 x.2.2 = _
    unfold f2_startAnew_b1
    rw [if_pos (nI_le (Nat.le_refl n) (by omega))]
/-- who is left: the reference's booleans, the class's ranks -/
def LM (n : Nat) (a : Nat → Int32) (L : Nat → Bool) : Prop := ∀ r, r < n → a r = if L r = true then 1 else 0
def LB (n : Nat) (a : Nat → Int32) (L : Nat → Bool) : Prop := ∀ r, r < n → (a r = -1 ↔ L r = true)
theorem allLeft_s {n fu : Nat} {c l a m il : Nat → Int32} {tc : Nat → Nat → Nat} {len : Nat → Nat} (hn : n ≤ 12) (hfu : n < fu) (h : RpC n cM c tc) (hl : Rp1 n l len) : ∃ a' m' il', f8_allLeft fu (nI n) il c l a m = some (a', m', il') ∧ Rep n a' (stp len tc) ∧ (∀ r s, r < n → s < n → m' (12 * r + s) = -1) ∧ LM n il' (fun _ => true) := by
  have key := lp_e (em := fun i (x : Nat → Int32) => (nI i, x)) (b := fun z => f8_allLeft_b1 (nI n) z.1 z.2) (N := n) (I := fun r x => ∀ r', r' < r → x r' = 1) (Q := fun x => ∀ r', r' < n → x r' = 1) (fun r x hr hI => ?_) (fun x hI => ⟨x, ?_, hI⟩) n 0 fu il (by omega) hfu (fun r' h => by omega)
  · obtain ⟨il', e1, e2⟩ := key
    obtain ⟨a', m', f1, f2, f3⟩ := laySteps_s (a := a) (m := m) hn hfu h hl
    refine ⟨a', m', il', ?_, f2, f3, fun r hr => e2 r hr⟩
    unfold f8_allLeft
    have e1 : lpG (fun z => f8_allLeft_b1 (nI n) z.1 z.2) fu ((0 : Int32), il) = some il' := e1
    rw [e1, bnd1_s, f1, bnd2_s]
  · refine ⟨upd x r 1, ?_, fun r' hr' => ?_⟩
    · show f8_allLeft_b1 (nI n) (nI r) x = _
      unfold f8_allLeft_b1
      rw [if_neg (nI_ge hr (by omega)), ckN (by omega), clN (by omega), bd_s, bd_s, nI_1, nb1]
    · rw [upds]
      by_cases e : r' = r
      · rw [if_pos e]
      · rw [if_neg e]; exact hI r' (by omega)
  · show f8_allLeft_b1 (nI n) (nI n) x = _
    unfold f8_allLeft_b1
    rw [if_pos (nI_le (Nat.le_refl n) (by omega))]
