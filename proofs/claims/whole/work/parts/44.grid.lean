/-! Grid, and the reference's least sums -/
theorem get_s {r s : Nat} (hr : r < 12) (hs : s < 12) (a : Nat → Int32) : f1_get (nI r) (nI s) a = some (a (12 * r + s)) := by
  unfold f1_get
  rw [nx_m', nI_add, ckN (by omega), clN (by omega)]
theorem set_s {r s : Nat} (hr : r < 12) (hs : s < 12) (a : Nat → Int32) (x : Int32) : f1_set (nI r) (nI s) a x = some (upd a (12 * r + s) x) := by
  unfold f1_set
  rw [nx_m', nI_add, ckN (by omega), clN (by omega)]
  rfl
theorem shortenRow_s {n fu k r : Nat} (hn : n ≤ 12) (hfu : n < fu) (hk : k < n) (hr : r < n) {a : Nat → Int32} {E : Nat → Nat → Nat} (h : Rpb n a E) (hx : E r k ≤ FA) : ∃ a', f1_shortenRow fu (nI r) (nI k) (nI n) (nI (E r k)) a = some a' ∧ Rpb n a' (rowU k r E) := by
  have hFA := FAe
  unfold f1_shortenRow
  simp only [bd_s, nx_m']
  -- the row's first number stays, so it is the one that was handed in
  have key : ∃ a', lpG (fun z => f1_shortenRow_b1 (nI n) (nI (12 * k)) (nI (E r k)) (nI (12 * r)) z.1 z.2) fu ((0 : Int32), a) = some a' ∧ Rpb n a' (rowU k r E) := by
    refine lp_e (em := fun i x => (nI i, x)) (N := n) (I := fun s a => Rpb n a (fun r' s' => if r' = r ∧ s' < s then min (E r s') (E r k + E k s') else E r' s')) (Q := fun a' => Rpb n a' (rowU k r E)) (fun s a hs hI => ?_) (fun a hI => ⟨a, ?_, hI.congr (fun r' s' hr' hs' => ?_)⟩) n 0 fu a (by omega) hfu (h.congr (fun r' s' hr' hs' => by simp))
    · have c2 := hI k s hk hs
      have c3 := hI r s hr hs
      have d2 : (if k = r ∧ s < s then min (E r s) (E r k + E k s) else E k s) = E k s := by rw [if_neg (by omega)]
      have d3 : (if r = r ∧ s < s then min (E r s) (E r k + E k s) else E r s) = E r s := by rw [if_neg (by omega)]
      dsimp only at c2 c3
      rw [d2] at c2
      rw [d3] at c3
      have e : f1_shortenRow_b1 (nI n) (nI (12 * k)) (nI (E r k)) (nI (12 * r)) (nI s) a = some (.inl (nI (s + 1), if E r s ≤ E r k + E k s then a else upd a (12 * r + s) (nI (E r k + E k s)))) := by
        unfold f1_shortenRow_b1
        rw [if_neg (nI_ge hs (by omega)), nI_add, nI_add, ckN (by omega), clN (by omega), c2.1, bd_s, nI_add, ckN (by omega), clN (by omega), c3.1]
        by_cases hle : E r s ≤ E r k + E k s
        · rw [if_pos ((nI_leB (by omega) (by omega)).mpr hle), if_pos hle, bnd1_s, bd_s, nI_1]
        · rw [if_neg (fun q => hle ((nI_leB (by omega) (by omega)).mp q)), if_neg hle, ckN (by omega), bd_s, bnd1_s, bd_s, nI_1]
      refine ⟨_, e, fun r' s' hr' hs' => ?_⟩
      have hh := hI r' s' hr' hs'
      dsimp only at hh ⊢
      by_cases hle : E r s ≤ E r k + E k s
      · rw [if_pos hle]
        by_cases hc : r' = r ∧ s' = s
        · obtain ⟨rfl, rfl⟩ := hc
          rw [if_pos ⟨rfl, Nat.lt_succ_self _⟩, show min (E r' s') (E r' k + E k s') = E r' s' by omega]
          exact c3
        · have e2 : (if r' = r ∧ s' < s + 1 then min (E r s') (E r k + E k s') else E r' s') = if r' = r ∧ s' < s then min (E r s') (E r k + E k s') else E r' s' := by
            by_cases h1 : r' = r ∧ s' < s
            · rw [if_pos h1, if_pos ⟨h1.1, by omega⟩]
            · rw [if_neg h1, if_neg (fun h2 => h1 ⟨h2.1, by omega⟩)]
          rw [e2]
          exact hh
      · rw [if_neg hle, updm (by omega) (by omega)]
        by_cases hc : r' = r ∧ s' = s
        · obtain ⟨rfl, rfl⟩ := hc
          rw [if_pos ⟨rfl, rfl⟩, if_pos ⟨rfl, Nat.lt_succ_self _⟩, show min (E r' s') (E r' k + E k s') = E r' k + E k s' by omega]
          exact ⟨rfl, by omega⟩
        · rw [if_neg hc]
          have e2 : (if r' = r ∧ s' < s + 1 then min (E r s') (E r k + E k s') else E r' s') = if r' = r ∧ s' < s then min (E r s') (E r k + E k s') else E r' s' := by
            by_cases h1 : r' = r ∧ s' < s
            · rw [if_pos h1, if_pos ⟨h1.1, by omega⟩]
            · rw [if_neg h1, if_neg (fun h2 => h1 ⟨h2.1, by omega⟩)]
          rw [e2]
          exact hh
    · show f1_shortenRow_b1 (nI n) (nI (12 * k)) (nI (E r k)) (nI (12 * r)) (nI n) a = _
      unfold f1_shortenRow_b1
      rw [if_pos (nI_le (Nat.le_refl n) (by omega))]
    · unfold rowU
      by_cases h1 : r' = r
      · rw [if_pos h1, if_pos ⟨h1, hs'⟩]
      · rw [if_neg h1, if_neg (fun h => h1 h.1)]
  obtain ⟨a', e1, e2⟩ := key
  exact ⟨a', by rw [e1]; rfl, e2⟩
theorem shorten_s {n fu : Nat} (hn : n ≤ 12) (hfu : n < fu) {a : Nat → Int32} {E : Nat → Nat → Nat} (h : Rpb n a E) : ∃ a', f1_shorten fu (nI n) a = some a' ∧ Rpb n a' (fw E n) := by
  have hFA := FAe
  obtain ⟨a', e1, e2⟩ := lp_fw (b1 := fun z => f1_shorten_b1 fu (nI n) z.1 z.2) (fun k => fun z => f1_shorten_b2 fu (nI n) (nI k) z.1 z.2) n fu hfu (fun k a hk => by
      show f1_shorten_b1 fu (nI n) (nI k) a = _
      unfold f1_shorten_b1
      rw [if_neg (nI_ge hk (by omega)), nI_1]
      rfl) (fun a => by
      show f1_shorten_b1 fu (nI n) (nI n) a = _
      unfold f1_shorten_b1
      rw [if_pos (nI_le (Nat.le_refl n) (by omega))]) (fun k r a E hk hr hR => by
      have c := hR r k hr hk
      by_cases hlt : E r k < FA
      · obtain ⟨a', f1, f2⟩ := shortenRow_s hn hfu hk hr hR c.2
        refine ⟨a', ?_, f2⟩
        show f1_shorten_b2 fu (nI n) (nI k) (nI r) a = _
        unfold f1_shorten_b2
        rw [if_neg (nI_ge hr (by omega)), get_s (by omega) (by omega), bnd1_s, c.1, if_neg (fun q => by rw [FA_nI, nI_leB (by omega) (by omega)] at q; omega), f1, bnd1_s, bnd1_s, bd_s, nI_1]
      · refine ⟨a, ?_, hR.congr (fun r' s hr' hs => ?_)⟩
        · show f1_shorten_b2 fu (nI n) (nI k) (nI r) a = _
          unfold f1_shorten_b2
          rw [if_neg (nI_ge hr (by omega)), get_s (by omega) (by omega), bnd1_s, c.1, if_pos (by rw [FA_nI, nI_leB (by omega) (by omega)]; omega), bnd1_s, bd_s, nI_1]
        · unfold rowU
          by_cases h1 : r' = r
          · subst h1
            have := (hR r' s hr' hs).2
            rw [if_pos rfl]
            omega
          · rw [if_neg h1]) (fun k a hk => by
      show f1_shorten_b2 fu (nI n) (nI k) (nI n) a = _
      unfold f1_shorten_b2
      rw [if_pos (nI_le (Nat.le_refl n) (by omega))]) a E h
  refine ⟨a', ?_, e2⟩
  unfold f1_shorten
  rw [e1]
  rfl
