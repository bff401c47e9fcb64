/-! fills of a matrix; the reference's least sums; steps -/
theorem lp_fill {bo : Int32 × (Nat → Int32) → Option ((Int32 × (Nat → Int32)) ⊕ (Nat → Int32))} (bi : Nat → Int32 × (Nat → Int32) → Option ((Int32 × (Nat → Int32)) ⊕ (Nat → Int32))) (n fu : Nat) (hn : n ≤ 12) (hfu : n < fu)
    (ho : ∀ r x, r < n → bo (nI r, x) = bnd1 (lpG (bi r) fu ((0 : Int32), x)) fun y => some (.inl (nI (r + 1), y))) (hoe : ∀ x, bo (nI n, x) = some (.inr x)) (v : Nat → Nat → Int32) (hi : ∀ r s a, r < n → s < n → bi r (nI s, a) = some (.inl (nI (s + 1), upd a (12 * r + s) (v r s)))) (hie : ∀ r x, r < n → bi r (nI n, x) = some (.inr x)) (a : Nat → Int32) :
    ∃ a', lpG bo fu ((0 : Int32), a) = some a' ∧ ∀ r s, r < n → s < n → a' (12 * r + s) = v r s := by
  obtain ⟨a', e1, e2⟩ := lp_d bi n fu hfu (I := fun r s a => ∀ r' s', r' < n → s' < n → (r' < r ∨ r' = r ∧ s' < s) → a (12 * r' + s') = v r' s') ho hoe (fun r s a hr hs hI => ⟨_, hi r s a hr hs, fun r' s' hr' hs' hc => by
      rw [updm (by omega) (by omega)]
      by_cases h : r' = r ∧ s' = s
      · rw [if_pos h, h.1, h.2]
      · rw [if_neg h]
        exact hI r' s' hr' hs' (by omega)⟩) hie (fun r a hr hI r' s' hr' hs' hc => hI r' s' hr' hs' (by omega)) a (fun r' s' hr' hs' hc => by omega)
  exact ⟨a', e1, fun r s hr hs => e2 r s hr hs (Or.inl hr)⟩

theorem layAround_fw {n fu : Nat} (hn : n ≤ 12) (hfu : n < fu) {a : Nat → Int32} {E : Nat → Nat → Nat} (h : Rpb n a E) : ∃ a', lpG (fun z => f8_layAround_b4 fu (nI n) z.1 z.2) fu ((0 : Int32), a) = some a' ∧ Rpb n a' (fw E n) := by
  have hFA := FAe
  refine lp_fw (b1 := fun z => f8_layAround_b4 fu (nI n) z.1 z.2) (fun k => fun z => f8_layAround_b5 fu (nI n) (nI k) z.1 z.2) n fu hfu (fun k a hk => ?_) (fun a => ?_) (fun k r a E hk hr hR => ?_) (fun k a hk => ?_) a E h
  · show f8_layAround_b4 fu (nI n) (nI k) a = _
    unfold f8_layAround_b4
    rw [if_neg (nI_ge hk (by omega)), nI_1]
    rfl
  · show f8_layAround_b4 fu (nI n) (nI n) a = _
    unfold f8_layAround_b4
    rw [if_pos (nI_le (Nat.le_refl n) (by omega))]
  · obtain ⟨a', f1, f2⟩ := lp_row (b3 := fun z => f8_layAround_b6 (nI n) (nI r) (nI k) z.1 z.2) n fu k r hn hfu hk hr (fun s a x y z hs c1 c2 c3 hx hy hz => ⟨_, (by
        show f8_layAround_b6 (nI n) (nI r) (nI k) (nI s) a = some (.inl (nI (s + 1), upd a (12 * r + s) (nI (min z (x + y)))))
        unfold f8_layAround_b6
        rw [if_neg (nI_ge hs (by omega)), nx_m, nx_m, nI_add, nI_add, nI_add, ckN (by omega), ckN (by omega), clN (by omega), clN (by omega), c1, c2, nI_add, bd_s, ckN (by omega), clN (by omega), c3]
        by_cases hle : z ≤ x + y
        · rw [if_pos ((nI_leB (by omega) (by omega)).mpr hle), ckN (by omega), bnd1_s, ckN (by omega), bd_s, bd_s, nI_1, show min z (x + y) = z by omega]
        · rw [if_neg (fun q => hle ((nI_leB (by omega) (by omega)).mp q)), bnd1_s, ckN (by omega), bd_s, bd_s, nI_1, show min z (x + y) = x + y by omega]), fun j => rfl⟩) (fun a => by
        show f8_layAround_b6 (nI n) (nI r) (nI k) (nI n) a = _
        unfold f8_layAround_b6
        rw [if_pos (nI_le (Nat.le_refl n) (by omega))]) a E hR
    refine ⟨a', ?_, f2⟩
    show f8_layAround_b5 fu (nI n) (nI k) (nI r) a = _
    unfold f8_layAround_b5
    rw [if_neg (nI_ge hr (by omega)), f1, bnd1_s, bd_s, nI_1]
  · show f8_layAround_b5 fu (nI n) (nI k) (nI n) a = _
    unfold f8_layAround_b5
    rw [if_pos (nI_le (Nat.le_refl n) (by omega))]
theorem layLeasts_fw {n fu : Nat} (hn : n ≤ 12) (hfu : n < fu) {a : Nat → Int32} {E : Nat → Nat → Nat} (h : Rpb n a E) : ∃ a', lpG (fun z => f8_layLeasts_b3 fu (nI n) z.1 z.2) fu ((0 : Int32), a) = some a' ∧ Rpb n a' (fw E n) := by
  have hFA := FAe
  refine lp_fw (b1 := fun z => f8_layLeasts_b3 fu (nI n) z.1 z.2) (fun k => fun z => f8_layLeasts_b4 fu (nI n) (nI k) z.1 z.2) n fu hfu (fun k a hk => ?_) (fun a => ?_) (fun k r a E hk hr hR => ?_) (fun k a hk => ?_) a E h
  · show f8_layLeasts_b3 fu (nI n) (nI k) a = _
    unfold f8_layLeasts_b3
    rw [if_neg (nI_ge hk (by omega)), nI_1]
    rfl
  · show f8_layLeasts_b3 fu (nI n) (nI n) a = _
    unfold f8_layLeasts_b3
    rw [if_pos (nI_le (Nat.le_refl n) (by omega))]
  · obtain ⟨a', f1, f2⟩ := lp_row (b3 := fun z => f8_layLeasts_b5 (nI n) (nI r) (nI k) z.1 z.2) n fu k r hn hfu hk hr (fun s a x y z hs c1 c2 c3 hx hy hz => ⟨_, (by
        show f8_layLeasts_b5 (nI n) (nI r) (nI k) (nI s) a = some (.inl (nI (s + 1), upd a (12 * r + s) (nI (min z (x + y)))))
        unfold f8_layLeasts_b5
        rw [if_neg (nI_ge hs (by omega)), nx_m, nx_m, nI_add, nI_add, nI_add, ckN (by omega), ckN (by omega), clN (by omega), clN (by omega), c1, c2, nI_add, bd_s, ckN (by omega), clN (by omega), c3]
        by_cases hle : z ≤ x + y
        · rw [if_pos ((nI_leB (by omega) (by omega)).mpr hle), ckN (by omega), bnd1_s, ckN (by omega), bd_s, bd_s, nI_1, show min z (x + y) = z by omega]
        · rw [if_neg (fun q => hle ((nI_leB (by omega) (by omega)).mp q)), bnd1_s, ckN (by omega), bd_s, bd_s, nI_1, show min z (x + y) = x + y by omega]), fun j => rfl⟩) (fun a => by
        show f8_layLeasts_b5 (nI n) (nI r) (nI k) (nI n) a = _
        unfold f8_layLeasts_b5
        rw [if_pos (nI_le (Nat.le_refl n) (by omega))]) a E hR
    refine ⟨a', ?_, f2⟩
    show f8_layLeasts_b4 fu (nI n) (nI k) (nI r) a = _
    unfold f8_layLeasts_b4
    rw [if_neg (nI_ge hr (by omega)), f1, bnd1_s, bd_s, nI_1]
  · show f8_layLeasts_b4 fu (nI n) (nI k) (nI n) a = _
    unfold f8_layLeasts_b4
    rw [if_pos (nI_le (Nat.le_refl n) (by omega))]
theorem layTried_fw {n fu : Nat} (hn : n ≤ 12) (hfu : n < fu) {a : Nat → Int32} {E : Nat → Nat → Nat} (h : Rpb n a E) : ∃ a', lpG (fun z => f8_layTried_b3 fu (nI n) z.1 z.2) fu ((0 : Int32), a) = some a' ∧ Rpb n a' (fw E n) := by
  have hFA := FAe
  refine lp_fw (b1 := fun z => f8_layTried_b3 fu (nI n) z.1 z.2) (fun k => fun z => f8_layTried_b4 fu (nI n) (nI k) z.1 z.2) n fu hfu (fun k a hk => ?_) (fun a => ?_) (fun k r a E hk hr hR => ?_) (fun k a hk => ?_) a E h
  · show f8_layTried_b3 fu (nI n) (nI k) a = _
    unfold f8_layTried_b3
    rw [if_neg (nI_ge hk (by omega)), nI_1]
    rfl
  · show f8_layTried_b3 fu (nI n) (nI n) a = _
    unfold f8_layTried_b3
    rw [if_pos (nI_le (Nat.le_refl n) (by omega))]
  · obtain ⟨a', f1, f2⟩ := lp_row (b3 := fun z => f8_layTried_b5 (nI n) (nI r) (nI k) z.1 z.2) n fu k r hn hfu hk hr (fun s a x y z hs c1 c2 c3 hx hy hz => ⟨_, (by
        show f8_layTried_b5 (nI n) (nI r) (nI k) (nI s) a = some (.inl (nI (s + 1), upd a (12 * r + s) (nI (min z (x + y)))))
        unfold f8_layTried_b5
        rw [if_neg (nI_ge hs (by omega)), nx_m, nx_m, nI_add, nI_add, nI_add, ckN (by omega), ckN (by omega), clN (by omega), clN (by omega), c1, c2, nI_add, bd_s, ckN (by omega), clN (by omega), c3]
        by_cases hle : z ≤ x + y
        · rw [if_pos ((nI_leB (by omega) (by omega)).mpr hle), ckN (by omega), bnd1_s, ckN (by omega), bd_s, bd_s, nI_1, show min z (x + y) = z by omega]
        · rw [if_neg (fun q => hle ((nI_leB (by omega) (by omega)).mp q)), bnd1_s, ckN (by omega), bd_s, bd_s, nI_1, show min z (x + y) = x + y by omega]), fun j => rfl⟩) (fun a => by
        show f8_layTried_b5 (nI n) (nI r) (nI k) (nI n) a = _
        unfold f8_layTried_b5
        rw [if_pos (nI_le (Nat.le_refl n) (by omega))]) a E hR
    refine ⟨a', ?_, f2⟩
    show f8_layTried_b4 fu (nI n) (nI k) (nI r) a = _
    unfold f8_layTried_b4
    rw [if_neg (nI_ge hr (by omega)), f1, bnd1_s, bd_s, nI_1]
  · show f8_layTried_b4 fu (nI n) (nI k) (nI n) a = _
    unfold f8_layTried_b4
    rw [if_pos (nI_le (Nat.le_refl n) (by omega))]
/-! turns: a cost of at most 50; 51 barred; 52 none -/
def cB (t : Nat) : Int32 := if t ≤ 50 then nI t else if t = 51 then -5 else -6
def cM (t : Nat) : Int32 := if t ≤ 50 then nI t else if t = 51 then -5 else -1
def stp (len : Nat → Nat) (tc : Nat → Nat → Nat) : Nat → Nat → Nat := fun r s => if tc r s ≤ 50 then tc r s + len s else FA
theorem cM_lt (t : Nat) : cM t < 0 ↔ ¬ t ≤ 50 := by
  unfold cM
  by_cases h : t ≤ 50
  · rw [if_pos h]
    exact ⟨fun q => absurd q (nI_pos (by omega)), fun q => absurd h q⟩
  · rw [if_neg h]
    exact ⟨fun _ => h, fun _ => by split <;> decide⟩
theorem cB_lt (t : Nat) : cB t < 0 ↔ ¬ t ≤ 50 := by
  unfold cB
  by_cases h : t ≤ 50
  · rw [if_pos h]
    exact ⟨fun q => absurd q (nI_pos (by omega)), fun q => absurd h q⟩
  · rw [if_neg h]
    exact ⟨fun _ => h, fun _ => by split <;> decide⟩
theorem cM_le {t : Nat} (h : t ≤ 50) : cM t = nI t := if_pos h
theorem cB_le {t : Nat} (h : t ≤ 50) : cB t = nI t := if_pos h
def RpC (n : Nat) (c : Nat → Int32) (a : Nat → Int32) (tc : Nat → Nat → Nat) : Prop := ∀ r s, r < n → s < n → a (12 * r + s) = c (tc r s)
def Rp1 (n : Nat) (a : Nat → Int32) (f : Nat → Nat) : Prop := ∀ r, r < n → a r = nI (f r)
theorem isStep_s {n r s : Nat} {a : Nat → Int32} {tc : Nat → Nat → Nat} (hn : n ≤ 12) (h : RpC n cM a tc) (hr : r < n) (hs : s < n) : f8_isStep (nI r) (nI s) a = some (if tc r s ≤ 50 then 1 else 0) := by
  unfold f8_isStep
  rw [nx_m, nI_add, ckN (by omega), clN (by omega), h r s hr hs]
  by_cases hc : tc r s ≤ 50
  · rw [if_neg (fun q => (cM_lt _).mp q hc), if_pos hc, bnd1_s, ckb1]
  · rw [if_pos ((cM_lt _).mpr hc), if_neg hc, bnd1_s, ckb0]
theorem hasStep_s {n r s : Nat} {a : Nat → Int32} {tc : Nat → Nat → Nat} (hn : n ≤ 12) (h : RpC n cB a tc) (hr : r < n) (hs : s < n) : f3_hasStep (nI r) (nI s) a = some (if tc r s ≤ 50 then 1 else 0) := by
  unfold f3_hasStep
  rw [get_s (by omega) (by omega), bnd1_s, h r s hr hs]
  by_cases hc : tc r s ≤ 50
  · rw [if_neg (fun q => (cB_lt _).mp q hc), if_pos hc, bnd1_s, ckb1]
  · rw [if_pos ((cB_lt _).mpr hc), if_neg hc, bnd1_s, ckb0]
theorem stepWorth_s {n r s : Nat} {a l : Nat → Int32} {tc : Nat → Nat → Nat} {len : Nat → Nat} (hn : n ≤ 12) (h : RpC n cB a tc) (hl : Rp1 n l len) (hr : r < n) (hs : s < n) : f3_stepWorth (nI r) (nI s) a l = some (nI (stp len tc r s)) := by
  unfold f3_stepWorth stp
  rw [get_s (by omega) (by omega), bnd1_s, h r s hr hs]
  by_cases hc : tc r s ≤ 50
  · rw [if_neg (fun q => (cB_lt _).mp q hc), if_pos hc, cB_le hc, ckN (by omega), clN (by omega), hl s hs, nI_add, bnd1_s]
  · rw [if_pos ((cB_lt _).mpr hc), if_neg hc, bnd1_s]
    rfl
def LenOK (n : Nat) (len : Nat → Nat) : Prop := ∀ s, s < n → 1 ≤ len s ∧ len s ≤ 99
theorem stp_1 {n : Nat} {len : Nat → Nat} {tc : Nat → Nat → Nat} (h : LenOK n len) : Stp1 n (stp len tc) := by
  intro r s hr hs
  have := h s hs
  unfold stp
  split
  · left; omega
  · right; rfl
/-! the first matrices of the reference -/
theorem layLeasts_s {n fu : Nat} {c l a : Nat → Int32} {tc : Nat → Nat → Nat} {len : Nat → Nat} (hn : n ≤ 12) (hfu : n < fu) (h : RpC n cM c tc) (hl : Rp1 n l len) (hlo : LenOK n len) : ∃ a', f8_layLeasts fu (nI n) c l a = some a' ∧ Rpb n a' (fw (scl 16 (stp len tc)) n) := by
  have hFA := FAe
  have hw : Stp1 n (stp len tc) := stp_1 hlo
  obtain ⟨a1, e1, e2⟩ := lp_fill (bo := fun z => f8_layLeasts_b1 fu (nI n) c l z.1 z.2) (fun r => fun z => f8_layLeasts_b2 (nI n) (nI r) c l z.1 z.2) n fu hn hfu (fun r x hr => by
      show f8_layLeasts_b1 fu (nI n) c l (nI r) x = _
      unfold f8_layLeasts_b1
      rw [if_neg (nI_ge hr (by omega)), nI_1]
      rfl) (fun x => by
      show f8_layLeasts_b1 fu (nI n) c l (nI n) x = _
      unfold f8_layLeasts_b1
      rw [if_pos (nI_le (Nat.le_refl n) (by omega))]) (fun r s => nI (scl 16 (stp len tc) r s)) (fun r s a hr hs => by
      show f8_layLeasts_b2 (nI n) (nI r) c l (nI s) a = _
      unfold f8_layLeasts_b2
      rw [if_neg (nI_ge hs (by omega)), isStep_s hn h hr hs, bnd1_s, nx_m, nI_add, clN (by omega), clN (by omega), nI_1]
      have hkey : bnd1 (if (if tc r s ≤ 50 then (1 : Int32) else 0) = 0 then some 268435456 else ckin (nI (12 * r + s)) 144 (ckin (nI s) 12 (some (16 * (c (12 * r + s) + l s) + 1)))) (fun (y_13 : Int32) => bnd1 (if nI r = nI s then some 0 else some y_13) fun (y_18 : Int32) => ckin (nI (12 * r + s)) 144 (bd (upd a (12 * r + s) y_18) fun aLeasts_22 => bd (nI (s + 1)) fun x2_23 => some (Sum.inl (β := Nat → Int32) (x2_23, aLeasts_22)))) = some (.inl (nI (s + 1), upd a (12 * r + s) (nI (scl 16 (stp len tc) r s)))) := by
        by_cases hrs : r = s
        · subst hrs
          have hgo : ∀ y : Int32, bnd1 (if nI r = nI r then some 0 else some y) (fun (y_18 : Int32) => ckin (nI (12 * r + r)) 144 (bd (upd a (12 * r + r) y_18) fun aLeasts_22 => bd (nI (r + 1)) fun x2_23 => some (Sum.inl (β := Nat → Int32) (x2_23, aLeasts_22)))) = some (.inl (nI (r + 1), upd a (12 * r + r) (nI (scl 16 (stp len tc) r r)))) := fun y => by
            rw [if_pos rfl, bnd1_s, ckN (by omega), bd_s, bd_s, scl_diag]
            rfl
          by_cases hc : tc r r ≤ 50
          · rw [if_pos hc, if_neg i10, ckN (by omega), ckN (by omega), bnd1_s]; exact hgo _
          · rw [if_neg hc, if_pos rfl, bnd1_s]; exact hgo _
        · have hne : ¬ nI r = nI s := fun q => hrs ((nI_inj (by omega) (by omega)).mp q)
          have e3 : scl 16 (stp len tc) r s = if tc r s ≤ 50 then 16 * (tc r s + len s) + 1 else FA := by
            unfold scl stp
            rw [if_neg hrs]
            by_cases hc : tc r s ≤ 50
            · have hb : tc r s + len s < FA := by
                have h9 := hlo s hs
                omega
              rw [if_pos hc, if_pos hc, if_pos hb]
              rfl
            · rw [if_neg hc, if_neg hc, if_neg (by omega)]
          rw [e3]
          by_cases hc : tc r s ≤ 50
          · rw [if_pos hc, if_neg i10, ckN (by omega), ckN (by omega), bnd1_s, if_neg hne, bnd1_s, ckN (by omega), bd_s, bd_s, h r s hr hs, cM_le hc, hl s hs, nI_add, show (16 : Int32) = nI 16 from rfl, pk_mul, nI_1, if_pos hc]
          · rw [if_neg hc, if_pos rfl, bnd1_s, if_neg hne, bnd1_s, ckN (by omega), bd_s, bd_s, if_neg hc]
            rfl
      exact hkey) (fun r x hr => by
      show f8_layLeasts_b2 (nI n) (nI r) c l (nI n) x = _
      unfold f8_layLeasts_b2
      rw [if_pos (nI_le (Nat.le_refl n) (by omega))]) a
  obtain ⟨a2, e3, e4⟩ := layLeasts_fw hn hfu (a := a1) (E := scl 16 (stp len tc)) (fun r s hr hs => ⟨e2 r s hr hs, scl_FA 16 (by omega) hw r s hr hs⟩)
  exact ⟨a2, by unfold f8_layLeasts; rw [e1, bnd1_s, e3, bnd1_s], e4⟩

