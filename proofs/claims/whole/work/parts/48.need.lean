/-! which shortcuts a road needs: counted and marked; the next road; a rank given -/
theorem sumN_s (f : Nat → Nat) (n : Nat) : sumN f (n + 1) = sumN f n + f n := rfl
theorem lp_cr {b : Int32 × Int32 × (Nat → Int32) → Option ((Int32 × Int32 × (Nat → Int32)) ⊕ (Int32 × (Nat → Int32)))} (n fu r : Nat) (hn : n ≤ 12) (hfu : n < fu) (f : Nat → Bool) (hb : ∀ s m a, s < n → b (nI m, nI s, a) = some (.inl (nI (m + if f s = true then 1 else 0), nI (s + 1), upd a (12 * r + s) (if f s = true then 1 else 0)))) (he : ∀ m a, b (nI m, nI n, a) = some (.inr (nI m, a))) (m : Nat) (a : Nat → Int32) :
    ∃ a', lpG b fu (nI m, (0 : Int32), a) = some (nI (m + sumN (fun s => if f s = true then 1 else 0) n), a') ∧ ∀ r' s', s' < 12 → a' (12 * r' + s') = if r' = r ∧ s' < n then (if f s' = true then 1 else 0) else a (12 * r' + s') := by
  have key := lp_e (em := fun i (x : Int32 × (Nat → Int32)) => (x.1, nI i, x.2)) (b := b) (N := n) (I := fun s x => x.1 = nI (m + sumN (fun s => if f s = true then 1 else 0) s) ∧ ∀ r' s', s' < 12 → x.2 (12 * r' + s') = if r' = r ∧ s' < s then (if f s' = true then 1 else 0) else a (12 * r' + s')) (Q := fun x => x.1 = nI (m + sumN (fun s => if f s = true then 1 else 0) n) ∧ ∀ r' s', s' < 12 → x.2 (12 * r' + s') = if r' = r ∧ s' < n then (if f s' = true then 1 else 0) else a (12 * r' + s')) (fun s x hs hI => ?_) (fun x hI => ⟨x, ?_, hI⟩) n 0 fu (nI m, a) (by omega) hfu ⟨rfl, fun r' s' hs' => by simp⟩
  · obtain ⟨⟨m', a'⟩, e1, e2, e3⟩ := key
    dsimp only at e2 e3
    subst e2
    exact ⟨a', e1, e3⟩
  · obtain ⟨m', a'⟩ := x
    obtain ⟨h1, h2⟩ := hI
    dsimp only at h1 h2
    subst h1
    refine ⟨(nI (m + sumN (fun s => if f s = true then 1 else 0) s + if f s = true then 1 else 0), upd a' (12 * r + s) (if f s = true then 1 else 0)), hb s _ a' hs, ?_, fun r' s' hs' => ?_⟩
    · dsimp only; rw [sumN_s, Nat.add_assoc]
    · dsimp only
      rw [updm (by omega) hs', h2 r' s' hs']
      by_cases h : r' = r ∧ s' = s
      · rw [if_pos h, if_pos (show r' = r ∧ s' < s + 1 from ⟨h.1, by omega⟩), h.2]
      · rw [if_neg h]
        by_cases h3 : r' = r ∧ s' < s
        · rw [if_pos h3, if_pos (show r' = r ∧ s' < s + 1 from ⟨h3.1, by omega⟩)]
        · rw [if_neg h3, if_neg (show ¬ (r' = r ∧ s' < s + 1) by omega)]
  · obtain ⟨m', a'⟩ := x
    obtain ⟨h1, h2⟩ := hI
    dsimp only at h1
    subst h1
    exact he _ a'
theorem lp_cm {bo : Int32 × Int32 × (Nat → Int32) → Option ((Int32 × Int32 × (Nat → Int32)) ⊕ (Int32 × (Nat → Int32)))} (bi : Nat → Int32 × Int32 × (Nat → Int32) → Option ((Int32 × Int32 × (Nat → Int32)) ⊕ (Int32 × (Nat → Int32)))) (n fu : Nat) (hn : n ≤ 12) (hfu : n < fu) (f : Nat → Nat → Bool)
    (ho : ∀ r m a, r < n → bo (nI m, nI r, a) = bnd2 (lpG (bi r) fu (nI m, (0 : Int32), a)) fun m' a' => some (.inl (m', nI (r + 1), a'))) (hoe : ∀ m a, bo (nI m, nI n, a) = some (.inr (nI m, a)))
    (hb : ∀ r s m a, r < n → s < n → bi r (nI m, nI s, a) = some (.inl (nI (m + if f r s = true then 1 else 0), nI (s + 1), upd a (12 * r + s) (if f r s = true then 1 else 0)))) (he : ∀ r m a, r < n → bi r (nI m, nI n, a) = some (.inr (nI m, a))) (a : Nat → Int32) :
    ∃ a', lpG bo fu ((0 : Int32), (0 : Int32), a) = some (nI (sumN (fun r => sumN (fun s => if f r s = true then 1 else 0) n) n), a') ∧ ∀ r s, r < n → s < n → a' (12 * r + s) = if f r s = true then 1 else 0 := by
  have key := lp_e (em := fun i (x : Int32 × (Nat → Int32)) => (x.1, nI i, x.2)) (b := bo) (N := n) (I := fun r x => x.1 = nI (sumN (fun r => sumN (fun s => if f r s = true then 1 else 0) n) r) ∧ ∀ r' s', r' < r → s' < n → x.2 (12 * r' + s') = if f r' s' = true then 1 else 0) (Q := fun x => x.1 = nI (sumN (fun r => sumN (fun s => if f r s = true then 1 else 0) n) n) ∧ ∀ r' s', r' < n → s' < n → x.2 (12 * r' + s') = if f r' s' = true then 1 else 0) (fun r x hr hI => ?_) (fun x hI => ⟨x, ?_, hI⟩) n 0 fu (nI 0, a) (by omega) hfu ⟨rfl, fun r' s' h => by omega⟩
  · obtain ⟨⟨m', a'⟩, e1, e2, e3⟩ := key
    dsimp only at e2 e3
    subst e2
    exact ⟨a', e1, e3⟩
  · obtain ⟨m', a0⟩ := x
    obtain ⟨h1, h2⟩ := hI
    dsimp only at h1 h2
    subst h1
    obtain ⟨a', e1, e2⟩ := lp_cr (b := bi r) n fu r hn hfu (f r) (fun s m a hs => hb r s m a hr hs) (fun m a => he r m a hr) (sumN (fun r => sumN (fun s => if f r s = true then 1 else 0) n) r) a0
    refine ⟨(nI (sumN (fun r => sumN (fun s => if f r s = true then 1 else 0) n) r + sumN (fun s => if f r s = true then 1 else 0) n), a'), ?_, rfl, fun r' s' hr' hs' => ?_⟩
    · dsimp only
      rw [ho r _ a0 hr, e1, bnd2_s]
    · dsimp only
      rw [e2 r' s' (by omega)]
      by_cases e : r' = r
      · rw [if_pos ⟨e, hs'⟩, e]
      · rw [if_neg (fun q => e q.1)]; exact h2 r' s' (by omega) hs'
  · obtain ⟨m', a'⟩ := x
    obtain ⟨h1, h2⟩ := hI
    dsimp only at h1
    subst h1
    exact hoe _ a'
def ndc (n : Nat) (L : Nat → Bool) (W : Nat → Nat → Nat) (v : Nat) : Nat := sumN (fun u => sumN (fun x => if nd n L W v u x = true then 1 else 0) n) n
theorem hasArc_s {n r s : Nat} {w : Nat → Int32} {W : Nat → Nat → Nat} (hn : n ≤ 12) (h : Rpb n w W) (hr : r < n) (hs : s < n) : f2_hasArc (nI r) (nI s) w = some (if W r s < FA then 1 else 0) := by
  have hFA := FAe
  have h1 := h r s hr hs
  unfold f2_hasArc
  rw [get_s (by omega) (by omega), bnd1_s, h1.1]
  by_cases hc : W r s < FA
  · rw [if_neg (fun q => by rw [FA_nI, nI_leB (by omega) (by omega)] at q; omega), if_pos hc, bnd1_s, ckb1]
  · rw [if_pos (by rw [FA_nI, nI_leB (by omega) (by omega)]; omega), if_neg hc, bnd1_s, ckb0]
theorem isNeeded_s {n k v u x : Nat} {rk w a1 a2 : Nat → Int32} {L : Nat → Bool} {W : Nat → Nat → Nat} (hn : n ≤ 12) (hk : k ≤ 12) (hL : LB n rk L) (hW : Rpb n w W) (hB : CB n k W) (h1 : Rpb n a1 (fw (arM L W 99) n)) (h2 : Rpb n a2 (fw (arM L W v) n)) (hu : u < n) (hv : v < n) (hx : x < n) : f2_isNeeded (nI u) (nI v) (nI x) rk w a1 a2 = some (if nd n L W v u x = true then 1 else 0) := by
  have hFA := FAe
  have hp := pow12 hk
  have b1 := hB.1 u v hu hv
  have b2 := hB.1 v x hv hx
  have c1 := h1 u v hu hv
  have c2 := h1 v x hv hx
  have c3 := h2 u x hu hx
  unfold f2_isNeeded
  by_cases d1 : u = v
  · rw [if_pos (by rw [d1]), if_neg (fun q => (of_decide_eq_true q).2.1 d1)]
  · rw [if_neg (fun q => d1 ((nI_inj (by omega) (by omega)).mp q))]
    by_cases d2 : v = x
    · rw [if_pos (by rw [d2]), if_neg (fun q => (of_decide_eq_true q).2.2.1 d2.symm)]
    · rw [if_neg (fun q => d2 ((nI_inj (by omega) (by omega)).mp q))]
      by_cases d3 : u = x
      · rw [if_pos (by rw [d3]), if_neg (fun q => (of_decide_eq_true q).1 d3)]
      · rw [if_neg (fun q => d3 ((nI_inj (by omega) (by omega)).mp q)), isFree_s hn hL hu, bnd1_s]
        by_cases d4 : L u = true
        · rw [if_pos d4, if_neg i10, isFree_s hn hL hx, bnd1_s]
          by_cases d5 : L x = true
          · rw [if_pos d5, if_neg i10, hasArc_s hn hW hu hv, bnd1_s]
            by_cases d6 : W u v < FA
            · rw [if_pos d6, if_neg i10, hasArc_s hn hW hv hx, bnd1_s]
              by_cases d7 : W v x < FA
              · rw [if_pos d7, if_neg i10, get_s (by omega) (by omega), bnd1_s, get_s (by omega) (by omega), bnd1_s, bd_s, get_s (by omega) (by omega), bnd1_s, get_s (by omega) (by omega), bnd1_s, (hW u v hu hv).1, (hW v x hv hx).1, nI_add, c1.1, c2.1, nI_add]
                have hlt : W u v + W v x < FA := by
                  rcases b1.2 with q | q
                  · omega
                  · rcases b2.2 with q2 | q2
                    · omega
                    · omega
                by_cases d8 : fw (arM L W 99) n u v + fw (arM L W 99) n v x < W u v + W v x
                · rw [if_pos ((nI_ltB (by omega) (by omega)).mpr d8), bnd1_s, ckb0, if_neg (fun q => by have := (of_decide_eq_true q).2.2.2.2.2.2.1; omega)]
                · rw [if_neg (fun q => d8 ((nI_ltB (by omega) (by omega)).mp q)), get_s (by omega) (by omega), bnd1_s, c3.1]
                  by_cases d9 : fw (arM L W v) n u x ≤ W u v + W v x
                  · rw [if_pos ((nI_leB (by omega) (by omega)).mpr d9), bnd1_s, ckb0, if_neg (fun q => by have := (of_decide_eq_true q).2.2.2.2.2.2.2; omega)]
                  · rw [if_neg (fun q => d9 ((nI_leB (by omega) (by omega)).mp q)), bnd1_s, ckb1, if_pos (show nd n L W v u x = true from decide_eq_true ⟨d3, d1, fun q => d2 q.symm, d4, d5, hlt, by omega, by omega⟩)]
              · rw [if_neg d7, if_pos rfl, if_neg (fun q => by have := (of_decide_eq_true q).2.2.2.2.2.1; omega)]
            · rw [if_neg d6, if_pos rfl, if_neg (fun q => by have := (of_decide_eq_true q).2.2.2.2.2.1; omega)]
          · rw [if_neg d5, if_pos rfl, if_neg (fun q => d5 (of_decide_eq_true q).2.2.2.2.1)]
        · rw [if_neg d4, if_pos rfl, if_neg (fun q => d4 (of_decide_eq_true q).2.2.2.1)]
theorem markNeeded_s {n k fu v : Nat} {rk w a1 a2 ne : Nat → Int32} {L : Nat → Bool} {W : Nat → Nat → Nat} (hn : n ≤ 12) (hk : k ≤ 12) (hfu : n < fu) (hL : LB n rk L) (hW : Rpb n w W) (hB : CB n k W) (h1 : Rpb n a1 (fw (arM L W 99) n)) (hv : v < n) : ∃ a2' ne', f2_markNeeded fu (nI n) rk (nI v) w a2 a1 ne = some (nI (ndc n L W v), a2', ne') ∧ ∀ u x, u < n → x < n → ne' (12 * u + x) = if nd n L W v u x = true then 1 else 0 := by
  obtain ⟨a2', e1, e2⟩ := measureFree_s (v := v) (a := a2) hn hfu hL hW
  rw [oI_lt (by omega)] at e1
  obtain ⟨ne', e3, e4⟩ := lp_cm (bo := fun z => f2_markNeeded_b1 fu (nI n) (nI v) rk w a1 a2' z.1 z.2.1 z.2.2) (fun u => fun z => f2_markNeeded_b2 (nI n) (nI u) (nI v) rk w a1 a2' z.1 z.2.1 z.2.2) n fu hn hfu (nd n L W v) (fun r m a hr => by
      show f2_markNeeded_b1 fu (nI n) (nI v) rk w a1 a2' (nI m) (nI r) a = _
      unfold f2_markNeeded_b1
      rw [if_neg (nI_ge hr (by omega)), nI_1]
      rfl) (fun m a => by
      show f2_markNeeded_b1 fu (nI n) (nI v) rk w a1 a2' (nI m) (nI n) a = _
      unfold f2_markNeeded_b1
      rw [if_pos (nI_le (Nat.le_refl n) (by omega))]) (fun u x m a hu hx => by
      show f2_markNeeded_b2 (nI n) (nI u) (nI v) rk w a1 a2' (nI m) (nI x) a = _
      unfold f2_markNeeded_b2
      rw [if_neg (nI_ge hx (by omega)), isNeeded_s hn hk hL hW hB h1 e2 hu hv hx, bnd1_s]
      by_cases hc : nd n L W v u x = true
      · rw [if_pos hc, if_pos hc, if_neg i10, bnd1_s, set_s (by omega) (by omega), bnd1_s, bd_s, bd_s, nI_1, nI_1]
      · rw [if_neg hc, if_neg hc, if_pos rfl, bnd1_s, set_s (by omega) (by omega), bnd1_s, bd_s, bd_s, nI_1, show (0 : Int32) = nI 0 from rfl, nI_add]) (fun u m a hu => by
      show f2_markNeeded_b2 (nI n) (nI u) (nI v) rk w a1 a2' (nI m) (nI n) a = _
      unfold f2_markNeeded_b2
      rw [if_pos (nI_le (Nat.le_refl n) (by omega))]) ne
  refine ⟨a2', ne', ?_, e4⟩
  unfold f2_markNeeded
  rw [e1, bnd1_s, e3, bnd2_s]
  rfl
theorem copy144_s {fu : Nat} (hfu : 144 < fu) (ar wh : Nat → Int32) : ∃ wh', lpG (fun z => f8_layNeeds_b1 ar z.1 z.2) fu ((0 : Int32), wh) = some wh' ∧ ∀ k, k < 144 → wh' k = ar k := by
  have key := lp_e (em := fun i (x : Nat → Int32) => (nI i, x)) (b := fun z => f8_layNeeds_b1 ar z.1 z.2) (N := 144) (I := fun i x => ∀ k, k < i → x k = ar k) (Q := fun x => ∀ k, k < 144 → x k = ar k) (fun r x hr hI => ⟨upd x r (ar r), (by
      show f8_layNeeds_b1 ar (nI r) x = some (.inl (nI (r + 1), upd x r (ar r)))
      unfold f8_layNeeds_b1
      rw [if_neg (show ¬ (144 : Int32) ≤ nI r from nI_ge hr (by decide)), ckN hr, ckN hr, clN (by omega), bd_s, bd_s, nI_1]), fun k hk => by
      rw [upds]
      by_cases e : k = r
      · rw [if_pos e, e]
      · rw [if_neg e]; exact hI k (by omega)⟩) (fun x hI => ⟨x, (by
      show f8_layNeeds_b1 ar (nI 144) x = _
      unfold f8_layNeeds_b1
      rw [if_pos (show (144 : Int32) ≤ nI 144 from nI_le (Nat.le_refl 144) (by decide))]), hI⟩) 144 0 fu wh (by omega) hfu (fun k hk => by omega)
  exact key
theorem layNeeds_s {n k fu v : Nat} {il w ar wh ne : Nat → Int32} {L : Nat → Bool} {W : Nat → Nat → Nat} (hn : n ≤ 12) (hk : k ≤ 12) (hfu : 144 < fu) (hL : LM n il L) (hW : Rpb n w W) (hv : v < n) : ∃ ar' wh' ne', f8_layNeeds fu ar (nI n) il w wh (nI v) ne = some (nI (ndc n L W v), ar', wh', ne') ∧ ∀ u x, u < n → x < n → ne' (12 * u + x) = if nd n L W v u x = true then 1 else 0 := by
  have hFA := FAe
  obtain ⟨a1, e1, e2⟩ := layAround_s (v := 99) (a := ar) hn hfu hL hW
  rw [oI_none (by decide)] at e1
  obtain ⟨wh', e3, e4⟩ := copy144_s hfu a1 wh
  obtain ⟨a2, e5, e6⟩ := layAround_s (v := v) (a := a1) hn hfu hL hW
  rw [oI_lt (by omega)] at e5
  have hwh : Rpb n wh' (fw (arM L W 99) n) := fun r s hr hs => by rw [e4 _ (by omega)]; exact e2 r s hr hs
  obtain ⟨ne', e7, e8⟩ := lp_cm (bo := fun z => f8_layNeeds_b2 fu (nI n) (nI v) il w wh' a2 z.1 z.2.1 z.2.2) (fun u => fun z => f8_layNeeds_b3 (nI n) (nI u) (nI v) il w wh' a2 z.1 z.2.1 z.2.2) n fu hn (by omega) (nd n L W v) (fun r m a hr => by
      show f8_layNeeds_b2 fu (nI n) (nI v) il w wh' a2 (nI m) (nI r) a = _
      unfold f8_layNeeds_b2
      rw [if_neg (nI_ge hr (by omega)), nI_1]
      rfl) (fun m a => by
      show f8_layNeeds_b2 fu (nI n) (nI v) il w wh' a2 (nI m) (nI n) a = _
      unfold f8_layNeeds_b2
      rw [if_pos (nI_le (Nat.le_refl n) (by omega))]) (fun u x m a hu hx => by
      show f8_layNeeds_b3 (nI n) (nI u) (nI v) il w wh' a2 (nI m) (nI x) a = _
      have w1 := hW u v hu hv
      have w2 := hW v x hv hx
      have w3 := hwh u v hu hv
      have w4 := hwh v x hv hx
      have w5 := e6 u x hu hx
      unfold f8_layNeeds_b3
      have hare : (if nI u = nI x then some (0 : Int32) else if nI u = nI v then some 0 else if nI x = nI v then some 0 else ckin (nI u) 12 (if il (nI u).toNatClampNeg = 0 then some 0 else ckin (nI x) 12 (if il (nI x).toNatClampNeg = 0 then some 0 else some 1))) = some (if u ≠ x ∧ u ≠ v ∧ x ≠ v ∧ L u = true ∧ L x = true then 1 else 0) := by
        rw [ckN (by omega), ckN (by omega), clN (by omega), clN (by omega), hL u hu, hL x hx]
        by_cases d1 : u = x
        · rw [if_pos (by rw [d1]), if_neg (fun q => q.1 d1)]
        · rw [if_neg (fun q => d1 ((nI_inj (by omega) (by omega)).mp q))]
          by_cases d2 : u = v
          · rw [if_pos (by rw [d2]), if_neg (fun q => q.2.1 d2)]
          · rw [if_neg (fun q => d2 ((nI_inj (by omega) (by omega)).mp q))]
            by_cases d3 : x = v
            · rw [if_pos (by rw [d3]), if_neg (fun q => q.2.2.1 d3)]
            · rw [if_neg (fun q => d3 ((nI_inj (by omega) (by omega)).mp q))]
              by_cases d4 : L u = true
              · rw [if_pos d4, if_neg i10]
                by_cases d5 : L x = true
                · rw [if_pos d5, if_neg i10, if_pos ⟨d1, d2, d3, d4, d5⟩]
                · rw [if_neg d5, if_pos rfl, if_neg (fun q => d5 q.2.2.2.2)]
              · rw [if_neg d4, if_pos rfl, if_neg (fun q => d4 q.2.2.2.1)]
      rw [if_neg (nI_ge hx (by omega)), hare, bnd1_s, nx_m, nx_m, nI_add, nI_add, nI_add, ckN (by omega), ckN (by omega), clN (by omega), clN (by omega), w1.1, w2.1, nI_add, bd_s, ckN (by omega), ckN (by omega), w3.1, w4.1, nI_add, clN (by omega), w5.1]
      have hl : (if nI (fw (arM L W 99) n u v + fw (arM L W 99) n v x) < nI (W u v + W v x) then some (0 : Int32) else ckin (nI (12 * u + x)) 144 (if nI (fw (arM L W v) n u x) ≤ nI (W u v + W v x) then some 0 else some 1)) = some (if W u v + W v x ≤ fw (arM L W 99) n u v + fw (arM L W 99) n v x ∧ W u v + W v x < fw (arM L W v) n u x then 1 else 0) := by
        rw [ckN (by omega)]
        by_cases d1 : fw (arM L W 99) n u v + fw (arM L W 99) n v x < W u v + W v x
        · rw [if_pos ((nI_ltB (by omega) (by omega)).mpr d1), if_neg (by omega)]
        · rw [if_neg (fun q => d1 ((nI_ltB (by omega) (by omega)).mp q))]
          by_cases d2 : fw (arM L W v) n u x ≤ W u v + W v x
          · rw [if_pos ((nI_leB (by omega) (by omega)).mpr d2), if_neg (by omega)]
          · rw [if_neg (fun q => d2 ((nI_leB (by omega) (by omega)).mp q)), if_pos ⟨by omega, by omega⟩]
      rw [hl, bnd1_s]
      have hz : (if (if u ≠ x ∧ u ≠ v ∧ x ≠ v ∧ L u = true ∧ L x = true then (1 : Int32) else 0) = 0 then some (0 : Int32) else if 268435456 ≤ nI (W u v + W v x) then some 0 else if (if W u v + W v x ≤ fw (arM L W 99) n u v + fw (arM L W 99) n v x ∧ W u v + W v x < fw (arM L W v) n u x then (1 : Int32) else 0) = 0 then some 0 else some 1) = some (if nd n L W v u x = true then 1 else 0) := by
        by_cases d1 : u ≠ x ∧ u ≠ v ∧ x ≠ v ∧ L u = true ∧ L x = true
        · rw [if_pos d1, if_neg i10]
          by_cases d2 : FA ≤ W u v + W v x
          · rw [if_pos (by rw [FA_nI, nI_leB (by omega) (by omega)]; exact d2), if_neg (fun q => by have := (of_decide_eq_true q).2.2.2.2.2.1; omega)]
          · rw [if_neg (fun q => by rw [FA_nI, nI_leB (by omega) (by omega)] at q; exact d2 q)]
            by_cases d3 : W u v + W v x ≤ fw (arM L W 99) n u v + fw (arM L W 99) n v x ∧ W u v + W v x < fw (arM L W v) n u x
            · rw [if_pos d3, if_neg i10, if_pos (show nd n L W v u x = true from decide_eq_true ⟨d1.1, d1.2.1, d1.2.2.1, d1.2.2.2.1, d1.2.2.2.2, by omega, d3.1, d3.2⟩)]
            · rw [if_neg d3, if_pos rfl, if_neg (fun q => d3 ⟨(of_decide_eq_true q).2.2.2.2.2.2.1, (of_decide_eq_true q).2.2.2.2.2.2.2⟩)]
        · rw [if_neg d1, if_pos rfl, if_neg (fun q => d1 ⟨(of_decide_eq_true q).1, (of_decide_eq_true q).2.1, (of_decide_eq_true q).2.2.1, (of_decide_eq_true q).2.2.2.1, (of_decide_eq_true q).2.2.2.2.1⟩)]
      rw [hz, bnd1_s, ckN (by omega), bd_s, ckN (by omega)]
      by_cases hc : nd n L W v u x = true
      · rw [if_pos hc, if_pos hc, nb1, upds, if_pos rfl, if_neg i10, bnd1_s, bd_s, bd_s, nI_1, nI_1]
      · rw [if_neg hc, if_neg hc, nb0, upds, if_pos rfl, if_pos rfl, bnd1_s, bd_s, bd_s, nI_1, show (0 : Int32) = nI 0 from rfl, nI_add]) (fun u m a hu => by
      show f8_layNeeds_b3 (nI n) (nI u) (nI v) il w wh' a2 (nI m) (nI n) a = _
      unfold f8_layNeeds_b3
      rw [if_pos (nI_le (Nat.le_refl n) (by omega))]) ne
  refine ⟨a2, wh', ne', ?_, e8⟩
  unfold f8_layNeeds
  rw [e1, bnd1_s, e3, bnd1_s, e5, bnd1_s, e7, bnd2_s]
  rfl
