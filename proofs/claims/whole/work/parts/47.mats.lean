/-! matrices without a road; of roads that are left -/
def wst (v : Nat) (w : Nat → Nat → Nat) : Nat → Nat → Nat := fun r s => if r ≠ v ∧ s ≠ v then w r s else FA
theorem wst_1 {n v : Nat} {w : Nat → Nat → Nat} (h : Stp1 n w) : Stp1 n (wst v w) := by
  intro r s hr hs
  unfold wst
  split
  · exact h r s hr hs
  · right; rfl
theorem stp_lt {n : Nat} {len : Nat → Nat} {tc : Nat → Nat → Nat} (h : LenOK n len) {r s : Nat} (hs : s < n) : stp len tc r s < FA ↔ tc r s ≤ 50 := by
  have hFA := FAe
  have := h s hs
  unfold stp
  by_cases hc : tc r s ≤ 50
  · rw [if_pos hc]; exact ⟨fun _ => hc, fun _ => by omega⟩
  · rw [if_neg hc]; exact ⟨fun q => absurd q (Nat.lt_irrefl _), fun q => absurd q hc⟩
theorem layTried_s {n fu v : Nat} {c l a : Nat → Int32} {tc : Nat → Nat → Nat} {len : Nat → Nat} (hn : n ≤ 12) (hfu : n < fu) (h : RpC n cM c tc) (hl : Rp1 n l len) (hlo : LenOK n len) : ∃ a', f8_layTried fu (nI n) c (oI v) l a = some a' ∧ Rpb n a' (fw (scl 1 (wst v (stp len tc))) n) := by
  have hFA := FAe
  have hw : Stp1 n (wst v (stp len tc)) := wst_1 (stp_1 hlo)
  obtain ⟨a1, e1, e2⟩ := lp_fill (bo := fun z => f8_layTried_b1 fu (nI n) c (oI v) l z.1 z.2) (fun r => fun z => f8_layTried_b2 (nI n) (nI r) c (oI v) l z.1 z.2) n fu hn hfu (fun r x hr => by
      show f8_layTried_b1 fu (nI n) c (oI v) l (nI r) x = _
      unfold f8_layTried_b1
      rw [if_neg (nI_ge hr (by omega)), nI_1]
      rfl) (fun x => by
      show f8_layTried_b1 fu (nI n) c (oI v) l (nI n) x = _
      unfold f8_layTried_b1
      rw [if_pos (nI_le (Nat.le_refl n) (by omega))]) (fun r s => nI (scl 1 (wst v (stp len tc)) r s)) (fun r s a hr hs => by
      show f8_layTried_b2 (nI n) (nI r) c (oI v) l (nI s) a = _
      unfold f8_layTried_b2
      rw [if_neg (nI_ge hs (by omega)), isStep_s hn h hr hs, bnd1_s, nx_m, nI_add, clN (by omega), clN (by omega), nI_1]
      have hfin : ∀ y : Int32, y = nI (scl 1 (wst v (stp len tc)) r s) → ckin (nI (12 * r + s)) 144 (bd (upd a (12 * r + s) y) fun aTried_25 => bd (nI (s + 1)) fun x3_26 => some (Sum.inl (β := Nat → Int32) (x3_26, aTried_25))) = some (.inl (nI (s + 1), upd a (12 * r + s) (nI (scl 1 (wst v (stp len tc)) r s)))) := fun y hy => by
        rw [ckN (by omega), bd_s, bd_s, hy]
      have h1 : bnd1 (if (if tc r s ≤ 50 then (1 : Int32) else 0) = 0 then some 0 else if nI r = oI v then some 0 else if nI s = oI v then some 0 else some 1) (fun (y : Int32) => some y) = some (if tc r s ≤ 50 ∧ r ≠ v ∧ s ≠ v then 1 else 0) := by
        by_cases hc : tc r s ≤ 50
        · rw [if_pos hc, if_neg i10]
          by_cases c1 : r = v
          · rw [if_pos ((oI_eq (by omega)).mpr c1), if_neg (fun q => q.2.1 c1), bnd1_s]
          · rw [if_neg (fun q => c1 ((oI_eq (by omega)).mp q))]
            by_cases c2 : s = v
            · rw [if_pos ((oI_eq (by omega)).mpr c2), if_neg (fun q => q.2.2 c2), bnd1_s]
            · rw [if_neg (fun q => c2 ((oI_eq (by omega)).mp q)), if_pos ⟨hc, c1, c2⟩, bnd1_s]
        · rw [if_neg hc, if_pos rfl, if_neg (fun q => hc q.1), bnd1_s]
      have h2 : (if (if tc r s ≤ 50 then (1 : Int32) else 0) = 0 then some 0 else if nI r = oI v then some 0 else if nI s = oI v then some 0 else some 1) = some (if tc r s ≤ 50 ∧ r ≠ v ∧ s ≠ v then (1 : Int32) else 0) := by
        revert h1
        cases hq : (if (if tc r s ≤ 50 then (1 : Int32) else 0) = 0 then some 0 else if nI r = oI v then some 0 else if nI s = oI v then some 0 else some (1 : Int32)) with
        | none => intro q; cases q
        | some z => intro q; exact q
      rw [h2, bnd1_s]
      by_cases hrs : r = s
      · subst hrs
        rw [if_pos rfl, bnd1_s]
        exact hfin 0 (by rw [scl_diag]; rfl)
      · rw [if_neg (fun q => hrs ((nI_inj (by omega) (by omega)).mp q))]
        by_cases hc : tc r s ≤ 50 ∧ r ≠ v ∧ s ≠ v
        · rw [if_pos hc, if_neg i10, ckN (by omega), ckN (by omega), bnd1_s]
          refine hfin _ ?_
          have h9 := hlo s hs
          rw [h r s hr hs, cM_le hc.1, hl s hs, nI_add]
          unfold scl wst stp
          rw [if_neg hrs, if_pos hc.2, if_pos hc.1, if_pos (by omega), if_pos rfl, Nat.one_mul, Nat.add_zero]
        · rw [if_neg hc, if_pos rfl, bnd1_s]
          refine hfin _ ?_
          have e : wst v (stp len tc) r s = FA := by
            unfold wst stp
            by_cases c1 : r ≠ v ∧ s ≠ v
            · rw [if_pos c1, if_neg (fun q => hc ⟨q, c1⟩)]
            · rw [if_neg c1]
          unfold scl
          rw [if_neg hrs, e, if_neg (Nat.lt_irrefl _)]
          rfl) (fun r x hr => by
      show f8_layTried_b2 (nI n) (nI r) c (oI v) l (nI n) x = _
      unfold f8_layTried_b2
      rw [if_pos (nI_le (Nat.le_refl n) (by omega))]) a
  obtain ⟨a2, e3, e4⟩ := layTried_fw hn hfu (a := a1) (E := scl 1 (wst v (stp len tc))) (fun r s hr hs => ⟨e2 r s hr hs, scl_FA 1 (by omega) hw r s hr hs⟩)
  exact ⟨a2, by unfold f8_layTried; rw [e1, bnd1_s, e3, bnd1_s], e4⟩
theorem stepKey_s {n r s : Nat} {a l : Nat → Int32} {tc : Nat → Nat → Nat} {len : Nat → Nat} (hn : n ≤ 12) (h : RpC n cB a tc) (hl : Rp1 n l len) (hr : r < n) (hs : s < n) : f3_stepKey (nI r) (nI s) a l = some (nI (if tc r s ≤ 50 then 64 * (tc r s + len s) + 1 else FA)) := by
  unfold f3_stepKey
  rw [hasStep_s hn h hr hs, bnd1_s]
  by_cases hc : tc r s ≤ 50
  · rw [if_pos hc, if_neg i10, stepWorth_s hn h hl hr hs, bnd1_s, bnd1_s, if_pos hc]
    unfold stp
    rw [if_pos hc, show (64 : Int32) = nI 64 from rfl, pk_mul, nI_1, Nat.mul_comm]
  · rw [if_neg hc, if_pos rfl, bnd1_s, if_neg hc]
    rfl
theorem fillLeastKeys_s {n fu v : Nat} {c l a : Nat → Int32} {tc : Nat → Nat → Nat} {len : Nat → Nat} (hn : n ≤ 12) (hfu : n < fu) (h : RpC n cB c tc) (hl : Rp1 n l len) (hlo : LenOK n len) : ∃ a', f3_fillLeastKeys fu (nI n) (oI v) c l a = some a' ∧ Rpb n a' (fw (scl 64 (wst v (stp len tc))) n) := by
  have hFA := FAe
  have hw : Stp1 n (wst v (stp len tc)) := wst_1 (stp_1 hlo)
  have hrow : ∀ r a, r < n → ∃ a', f3_fillLeastKeys_b1 fu (nI n) (oI v) c l (nI r) a = some (.inl (nI (r + 1), a')) ∧ ∀ r' s', s' < 12 → a' (12 * r' + s') = if r' = r ∧ s' < n then nI (scl 64 (wst v (stp len tc)) r s') else a (12 * r' + s') := by
    intro r a hr
    obtain ⟨a', e1, e2⟩ := lp_r1 (b := fun z => f3_fillLeastKeys_b2 (nI n) (nI r) (oI v) c l z.1 z.2) n fu r hn hfu (fun s => nI (if r ≠ v ∧ s ≠ v ∧ tc r s ≤ 50 then 64 * (tc r s + len s) + 1 else FA)) (fun s a hs => by
        show f3_fillLeastKeys_b2 (nI n) (nI r) (oI v) c l (nI s) a = _
        unfold f3_fillLeastKeys_b2
        rw [if_neg (nI_ge hs (by omega))]
        by_cases c1 : r = v
        · rw [if_pos ((oI_eq (by omega)).mpr c1), bnd1_s, if_pos rfl, bnd1_s, set_s (by omega) (by omega), bnd1_s, bd_s, nI_1, if_neg (fun q => q.1 c1)]
          rfl
        · rw [if_neg (fun q => c1 ((oI_eq (by omega)).mp q))]
          by_cases c2 : s = v
          · rw [if_pos ((oI_eq (by omega)).mpr c2), bnd1_s, if_pos rfl, bnd1_s, set_s (by omega) (by omega), bnd1_s, bd_s, nI_1, if_neg (fun q => q.2.1 c2)]
            rfl
          · rw [if_neg (fun q => c2 ((oI_eq (by omega)).mp q)), bnd1_s, if_neg i10, stepKey_s hn h hl hr hs, bnd1_s, bnd1_s, set_s (by omega) (by omega), bnd1_s, bd_s, nI_1]
            by_cases hc : tc r s ≤ 50
            · rw [if_pos hc, if_pos ⟨c1, c2, hc⟩]
            · rw [if_neg hc, if_neg (fun q => hc q.2.2)]) (fun a => by
        show f3_fillLeastKeys_b2 (nI n) (nI r) (oI v) c l (nI n) a = _
        unfold f3_fillLeastKeys_b2
        rw [if_pos (nI_le (Nat.le_refl n) (by omega))]) a
    refine ⟨upd a' (12 * r + r) 0, ?_, fun r' s' hs' => ?_⟩
    · unfold f3_fillLeastKeys_b1
      rw [if_neg (nI_ge hr (by omega)), e1, bnd1_s, set_s (by omega) (by omega), bnd1_s, bd_s, nI_1]
    · rw [updm (by omega) hs', e2 r' s' hs']
      by_cases hc : r' = r ∧ s' < n
      · have hR : (if r' = r ∧ s' < n then nI (scl 64 (wst v (stp len tc)) r s') else a (12 * r' + s')) = nI (scl 64 (wst v (stp len tc)) r s') := if_pos hc
        have hL : (if r' = r ∧ s' < n then nI (if r ≠ v ∧ s' ≠ v ∧ tc r s' ≤ 50 then 64 * (tc r s' + len s') + 1 else FA) else a (12 * r' + s')) = nI (if r ≠ v ∧ s' ≠ v ∧ tc r s' ≤ 50 then 64 * (tc r s' + len s') + 1 else FA) := if_pos hc
        rw [hR, hL]
        by_cases hd : s' = r
        · rw [if_pos ⟨hc.1, hd⟩, hd, scl_diag]; rfl
        · rw [if_neg (fun q => hd q.2)]
          have h9 := hlo s' hc.2
          have e : scl 64 (wst v (stp len tc)) r s' = if r ≠ v ∧ s' ≠ v ∧ tc r s' ≤ 50 then 64 * (tc r s' + len s') + 1 else FA := by
            unfold scl wst stp
            rw [if_neg (show ¬ r = s' from fun q => hd q.symm)]
            by_cases c1 : r ≠ v ∧ s' ≠ v
            · rw [if_pos c1]
              by_cases c2 : tc r s' ≤ 50
              · rw [if_pos c2, if_pos (show tc r s' + len s' < FA by omega), if_pos (show r ≠ v ∧ s' ≠ v ∧ tc r s' ≤ 50 from ⟨c1.1, c1.2, c2⟩)]
                rfl
              · rw [if_neg c2, if_neg (Nat.lt_irrefl _), if_neg (show ¬ (r ≠ v ∧ s' ≠ v ∧ tc r s' ≤ 50) from fun q => c2 q.2.2)]
            · rw [if_neg c1, if_neg (Nat.lt_irrefl _), if_neg (show ¬ (r ≠ v ∧ s' ≠ v ∧ tc r s' ≤ 50) from fun q => c1 ⟨q.1, q.2.1⟩)]
          rw [e]
      · rw [if_neg hc, if_neg (fun q => hc ⟨q.1, by omega⟩), if_neg hc]
  have key := lp_e (em := fun i (x : Nat → Int32) => (nI i, x)) (b := fun z => f3_fillLeastKeys_b1 fu (nI n) (oI v) c l z.1 z.2) (N := n) (I := fun r x => ∀ r' s', r' < r → s' < n → x (12 * r' + s') = nI (scl 64 (wst v (stp len tc)) r' s')) (Q := fun x => ∀ r' s', r' < n → s' < n → x (12 * r' + s') = nI (scl 64 (wst v (stp len tc)) r' s')) (fun r x hr hI => ?_) (fun x hI => ⟨x, ?_, hI⟩) n 0 fu a (by omega) hfu (fun r' s' h => by omega)
  · obtain ⟨a1, e1, e2⟩ := key
    obtain ⟨a2, e3, e4⟩ := shorten_s hn hfu (a := a1) (E := scl 64 (wst v (stp len tc))) (fun r s hr hs => ⟨e2 r s hr hs, scl_FA 64 (by omega) hw r s hr hs⟩)
    refine ⟨a2, ?_, e4⟩
    unfold f3_fillLeastKeys
    have e1 : lpG (fun z => f3_fillLeastKeys_b1 fu (nI n) (oI v) c l z.1 z.2) fu ((0 : Int32), a) = some a1 := e1
    rw [e1, bnd1_s, e3, bnd1_s]
  · obtain ⟨a', f1, f2⟩ := hrow r x hr
    refine ⟨a', f1, fun r' s' hr' hs' => ?_⟩
    rw [f2 r' s' (by omega)]
    by_cases e : r' = r
    · rw [if_pos ⟨e, hs'⟩, e]
    · rw [if_neg (fun q => e q.1)]; exact hI r' s' (by omega) hs'
  · show f3_fillLeastKeys_b1 fu (nI n) (oI v) c l (nI n) x = _
    unfold f3_fillLeastKeys_b1
    rw [if_pos (nI_le (Nat.le_refl n) (by omega))]
theorem isFree_s {n r : Nat} {rk : Nat → Int32} {L : Nat → Bool} (hn : n ≤ 12) (h : LB n rk L) (hr : r < n) : f2_isFree (nI r) rk = some (if L r = true then 1 else 0) := by
  unfold f2_isFree
  rw [ckN (by omega), clN (by omega)]
  by_cases hc : L r = true
  · rw [if_pos ((h r hr).mpr hc), if_pos hc, bnd1_s, ckb1]
  · rw [if_neg (fun q => hc ((h r hr).mp q)), if_neg hc, bnd1_s, ckb0]
theorem measureFree_s {n fu v : Nat} {rk w a : Nat → Int32} {L : Nat → Bool} {W : Nat → Nat → Nat} (hn : n ≤ 12) (hfu : n < fu) (hL : LB n rk L) (hW : Rpb n w W) : ∃ a', f2_measureFree fu (nI n) rk (oI v) w a = some a' ∧ Rpb n a' (fw (arM L W v) n) := by
  have hFA := FAe
  obtain ⟨a1, e1, e2⟩ := lp_fill (bo := fun z => f2_measureFree_b1 fu (nI n) rk (oI v) w z.1 z.2) (fun r => fun z => f2_measureFree_b2 (nI n) (nI r) rk (oI v) w z.1 z.2) n fu hn hfu (fun r x hr => by
      show f2_measureFree_b1 fu (nI n) rk (oI v) w (nI r) x = _
      unfold f2_measureFree_b1
      rw [if_neg (nI_ge hr (by omega)), nI_1]
      rfl) (fun x => by
      show f2_measureFree_b1 fu (nI n) rk (oI v) w (nI n) x = _
      unfold f2_measureFree_b1
      rw [if_pos (nI_le (Nat.le_refl n) (by omega))]) (fun r s => nI (arM L W v r s)) (fun r s a hr hs => by
      show f2_measureFree_b2 (nI n) (nI r) rk (oI v) w (nI s) a = _
      unfold f2_measureFree_b2
      rw [if_neg (nI_ge hs (by omega)), isFree_s hn hL hr, bnd1_s, isFree_s hn hL hs, bnd1_s, nI_1]
      unfold arM
      by_cases c1 : L r = true
      · rw [if_pos c1, if_neg i10]
        by_cases c2 : L s = true
        · rw [if_pos c2, if_neg i10]
          by_cases c3 : r = v
          · rw [if_pos ((oI_eq (by omega)).mpr c3), bnd1_s, if_pos rfl, bnd1_s, set_s (by omega) (by omega), bnd1_s, bd_s, if_neg (fun q => q.2.2.1 c3)]; rfl
          · rw [if_neg (fun q => c3 ((oI_eq (by omega)).mp q))]
            by_cases c4 : s = v
            · rw [if_pos ((oI_eq (by omega)).mpr c4), bnd1_s, if_pos rfl, bnd1_s, set_s (by omega) (by omega), bnd1_s, bd_s, if_neg (fun q => q.2.2.2 c4)]; rfl
            · rw [if_neg (fun q => c4 ((oI_eq (by omega)).mp q)), bnd1_s, if_neg i10, get_s (by omega) (by omega), bnd1_s, bnd1_s, set_s (by omega) (by omega), bnd1_s, bd_s, if_pos ⟨c1, c2, c3, c4⟩, (hW r s hr hs).1]
        · rw [if_neg c2, if_pos rfl, bnd1_s, if_pos rfl, bnd1_s, set_s (by omega) (by omega), bnd1_s, bd_s, if_neg (fun q => c2 q.2.1)]; rfl
      · rw [if_neg c1, if_pos rfl, bnd1_s, if_pos rfl, bnd1_s, set_s (by omega) (by omega), bnd1_s, bd_s, if_neg (fun q => c1 q.1)]; rfl) (fun r x hr => by
      show f2_measureFree_b2 (nI n) (nI r) rk (oI v) w (nI n) x = _
      unfold f2_measureFree_b2
      rw [if_pos (nI_le (Nat.le_refl n) (by omega))]) a
  obtain ⟨a2, e3, e4⟩ := shorten_s hn hfu (a := a1) (E := arM L W v) (fun r s hr hs => ⟨e2 r s hr hs, arM_FA (fun u x hu hx => (hW u x hu hx).2) r s hr hs⟩)
  exact ⟨a2, by unfold f2_measureFree; rw [e1, bnd1_s, e3, bnd1_s], e4⟩
theorem fill144_s {fu : Nat} (hfu : 144 < fu) (a : Nat → Int32) : ∃ a', lpG (fun z => f8_layAround_b1 z.1 z.2) fu ((0 : Int32), a) = some a' := by
  have key := lp_e (em := fun i (x : Nat → Int32) => (nI i, x)) (b := fun z => f8_layAround_b1 z.1 z.2) (N := 144) (I := fun _ _ => True) (Q := fun _ => True) (fun r x hr _ => ⟨_, (by
      show f8_layAround_b1 (nI r) x = some (.inl (nI (r + 1), upd x r 268435456))
      unfold f8_layAround_b1
      rw [if_neg (show ¬ (144 : Int32) ≤ nI r from nI_ge hr (by decide)), ckN hr, clN (by omega), bd_s, bd_s, nI_1]), trivial⟩) (fun x _ => ⟨x, (by
      show f8_layAround_b1 (nI 144) x = _
      unfold f8_layAround_b1
      rw [if_pos (show (144 : Int32) ≤ nI 144 from nI_le (Nat.le_refl 144) (by decide))]), trivial⟩) 144 0 fu a (by omega) hfu trivial
  obtain ⟨a', e, _⟩ := key
  exact ⟨a', e⟩
theorem layAround_s {n fu v : Nat} {il w a : Nat → Int32} {L : Nat → Bool} {W : Nat → Nat → Nat} (hn : n ≤ 12) (hfu : 144 < fu) (hL : LM n il L) (hW : Rpb n w W) : ∃ a', f8_layAround fu a (nI n) il (oI v) w = some a' ∧ Rpb n a' (fw (arM L W v) n) := by
  have hFA := FAe
  obtain ⟨a0, e0⟩ := fill144_s hfu a
  obtain ⟨a1, e1, e2⟩ := lp_fill (bo := fun z => f8_layAround_b2 fu (nI n) il (oI v) w z.1 z.2) (fun r => fun z => f8_layAround_b3 (nI n) (nI r) il (oI v) w z.1 z.2) n fu hn (by omega) (fun r x hr => by
      show f8_layAround_b2 fu (nI n) il (oI v) w (nI r) x = _
      unfold f8_layAround_b2
      rw [if_neg (nI_ge hr (by omega)), nI_1]
      rfl) (fun x => by
      show f8_layAround_b2 fu (nI n) il (oI v) w (nI n) x = _
      unfold f8_layAround_b2
      rw [if_pos (nI_le (Nat.le_refl n) (by omega))]) (fun r s => nI (arM L W v r s)) (fun r s a hr hs => by
      show f8_layAround_b3 (nI n) (nI r) il (oI v) w (nI s) a = _
      unfold f8_layAround_b3
      rw [if_neg (nI_ge hs (by omega)), ckN (by omega), clN (by omega), clN (by omega), hL r hr, hL s hs, nx_m, nI_add, clN (by omega), nI_1]
      unfold arM
      by_cases c1 : L r = true
      · rw [if_pos c1, if_neg i10, ckN (by omega)]
        by_cases c2 : L s = true
        · rw [if_pos c2, if_neg i10]
          by_cases c3 : r = v
          · rw [if_pos ((oI_eq (by omega)).mpr c3), bnd1_s, if_pos rfl, bnd1_s, ckN (by omega), bd_s, bd_s, if_neg (fun q => q.2.2.1 c3)]; rfl
          · rw [if_neg (fun q => c3 ((oI_eq (by omega)).mp q))]
            by_cases c4 : s = v
            · rw [if_pos ((oI_eq (by omega)).mpr c4), bnd1_s, if_pos rfl, bnd1_s, ckN (by omega), bd_s, bd_s, if_neg (fun q => q.2.2.2 c4)]; rfl
            · rw [if_neg (fun q => c4 ((oI_eq (by omega)).mp q)), bnd1_s, if_neg i10, ckN (by omega), bnd1_s, ckN (by omega), bd_s, bd_s, if_pos ⟨c1, c2, c3, c4⟩, (hW r s hr hs).1]
        · rw [if_neg c2, if_pos rfl, bnd1_s, if_pos rfl, bnd1_s, ckN (by omega), bd_s, bd_s, if_neg (fun q => c2 q.2.1)]; rfl
      · rw [if_neg c1, if_pos rfl, bnd1_s, if_pos rfl, bnd1_s, ckN (by omega), bd_s, bd_s, if_neg (fun q => c1 q.1)]; rfl) (fun r x hr => by
      show f8_layAround_b3 (nI n) (nI r) il (oI v) w (nI n) x = _
      unfold f8_layAround_b3
      rw [if_pos (nI_le (Nat.le_refl n) (by omega))]) a0
  obtain ⟨a2, e3, e4⟩ := layAround_fw hn (fu := fu) (by omega) (a := a1) (E := arM L W v) (fun r s hr hs => ⟨e2 r s hr hs, arM_FA (fun u x hu hx => (hW u x hu hx).2) r s hr hs⟩)
  exact ⟨a2, by unfold f8_layAround; rw [e0, bnd1_s, e1, bnd1_s, e3, bnd1_s], e4⟩
