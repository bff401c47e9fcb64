/-! the two worlds' numbers side by side -/
def N0 (n : Nat) (beg en len : Nat → Nat) (tc : Nat → Nat → Nat) : Prop := n ≤ 12 ∧ (∀ r, r < n → beg r < 8 ∧ en r < 8) ∧ (∀ r, r < n → en r ≠ beg r) ∧ LenOK n len ∧ TcOK n beg en tc
def NH (c : Nat → Int32) (n : Nat) (beg en len : Nat → Nat) (tc : Nat → Nat → Nat) (S : Int32) (b e l co : Row) : Prop := S = nI n ∧ Rp1 n b beg ∧ Rp1 n e en ∧ Rp1 n l len ∧ RpC n c co tc
abbrev WW (n : Nat) (len : Nat → Nat) (tc : Nat → Nat → Nat) (ord : Nat → Nat) : Nat → Nat → Nat := (kst n (stp len tc) ord n).1
abbrev MM (n : Nat) (len : Nat → Nat) (tc : Nat → Nat → Nat) (ord : Nat → Nat) : Nat → Nat → Nat := (kst n (stp len tc) ord n).2.1
/-- arcs and ranks -/
def DA (n : Nat) (len : Nat → Nat) (tc : Nat → Nat → Nat) (ord rkf : Nat → Nat) (w m rk rbr : Row) : Prop := Rpb n w (WW n len tc ord) ∧ RpO n m (MM n len tc ord) ∧ (∀ r, r < n → rk r = nI (rkf r)) ∧ ∀ j, j < n → rbr j = nI (ord j)
/-- what the class measures besides -/
def DB (n : Nat) (beg en len : Nat → Nat) (tc : Nat → Nat → Nat) (ord rkf : Nat → Nat) (u d k x z o : Row) : Prop := Rpb n u (fw (dU rkf (WW n len tc ord)) n) ∧ Rpb n d (fw (dU (fun r => n - 1 - rkf r) (WW n len tc ord)) n) ∧ Rpb n k (fw (scl 64 (stp len tc)) n) ∧ RpO n x (nx (stp len tc) n) ∧ Eqn n z (BUSY n (stp len tc)) ∧ RpP o (rOp n (stp len tc) beg en len 99)
/-- what the reference measures besides -/
def DM (n : Nat) (len : Nat → Nat) (tc : Nat → Nat → Nat) (k z : Row) : Prop := Rpb n k (fw (scl 16 (stp len tc)) n) ∧ Eqn n z (BUSY n (stp len tc))
theorem N0.S {n : Nat} {beg en len : Nat → Nat} {tc : Nat → Nat → Nat} (h : N0 n beg en len tc) : Stp2 n (stp len tc) := by
  refine ⟨stp_1 h.2.2.2.1, fun r hr => ?_⟩
  have h1 := (h.2.2.2.2 r r hr hr).2.mpr (h.2.2.1 r hr)
  unfold stp
  rw [if_neg (by omega)]
theorem DA_of {n : Nat} {len : Nat → Nat} {tc : Nat → Nat → Nat} {ord rkf : Nat → Nat} {w m rk rbr : Row} (hP : Perm n ord rkf) (h : SB n (stp len tc) ord n w m rk rbr) : DA n len tc ord rkf w m rk rbr := by
  obtain ⟨h1, h2, h3, h4, h5⟩ := h
  refine ⟨h1, h2, fun r hr => ?_, h5⟩
  have a := hP.2 r hr
  have b := h4 (rkf r) a.1
  rw [a.2] at b
  exact b
theorem DA_ofM {n : Nat} {len : Nat → Nat} {tc : Nat → Nat → Nat} {ord rkf : Nat → Nat} {w m il rk rbr : Row} (hP : Perm n ord rkf) (h : SM n (stp len tc) ord n w m il rk rbr) : DA n len tc ord rkf w m rk rbr := by
  obtain ⟨h1, h2, h3, h4, h5⟩ := h
  refine ⟨h1, h2, fun r hr => ?_, h5⟩
  have a := hP.2 r hr
  have b := h4 (rkf r) a.1
  rw [a.2] at b
  exact b
theorem measureAll_s {n : Nat} {beg en len : Nat → Nat} {tc : Nat → Nat → Nat} {ord rkf : Nat → Nat} {w m rk rbr u d k x z o b e l c : Row} (h0 : N0 n beg en len tc) (hN : NH cB n beg en len tc (nI n) b e l c) (hP : Perm n ord rkf) (hA : DA n len tc ord rkf w m rk rbr) : ∃ u' d' k' x' z' o', f7_measureAll 1000 (nI n) w rk u d (nI n) c l k x z o b e = some (u', d', k', x', z', o') ∧ DB n beg en len tc ord rkf u' d' k' x' z' o' := by
  obtain ⟨hn, h8, hne, hlo, htc⟩ := h0
  obtain ⟨_, hb, he, hl, hc⟩ := hN
  obtain ⟨a1, a2, a3, a4⟩ := hA
  obtain ⟨u', d', e1, e2, e3⟩ := measure0_s (fu := 1000) (u := u) (d := d) hn (by omega) hP a1 a3
  obtain ⟨k', x', z', e4, e5, e6, e7⟩ := measure6_s (fu := 1000) (k := k) (nx0 := x) (bu := z) hn (by omega) hc hl hlo
  obtain ⟨o', e8, e9⟩ := measure5_s (fu := 1000) (o := o) hn (by omega) (stp_1 hlo) hlo hb he hl h8 e5
  refine ⟨u', d', k', x', z', o', ?_, e2, e3, e5, e6, e7, e9⟩
  unfold f7_measureAll
  rw [e1, bnd2_s, e4, bnd3_s, e8, bnd1_s]
theorem bnd15_s {t0 t1 t2 t3 t4 t5 t6 t7 t8 t9 t10 t11 t12 t13 t14 γ : Type} (a0 : t0) (a1 : t1) (a2 : t2) (a3 : t3) (a4 : t4) (a5 : t5) (a6 : t6) (a7 : t7) (a8 : t8) (a9 : t9) (a10 : t10) (a11 : t11) (a12 : t12) (a13 : t13) (a14 : t14) (f : t0 → t1 → t2 → t3 → t4 → t5 → t6 → t7 → t8 → t9 → t10 → t11 → t12 → t13 → t14 → Option γ) : bnd15 (some (a0, a1, a2, a3, a4, a5, a6, a7, a8, a9, a10, a11, a12, a13, a14)) f = f a0 a1 a2 a3 a4 a5 a6 a7 a8 a9 a10 a11 a12 a13 a14 := rfl
theorem bnd11_s {t0 t1 t2 t3 t4 t5 t6 t7 t8 t9 t10 γ : Type} (a0 : t0) (a1 : t1) (a2 : t2) (a3 : t3) (a4 : t4) (a5 : t5) (a6 : t6) (a7 : t7) (a8 : t8) (a9 : t9) (a10 : t10) (f : t0 → t1 → t2 → t3 → t4 → t5 → t6 → t7 → t8 → t9 → t10 → Option γ) : bnd11 (some (a0, a1, a2, a3, a4, a5, a6, a7, a8, a9, a10)) f = f a0 a1 a2 a3 a4 a5 a6 a7 a8 a9 a10 := rfl
theorem makeAnew_s {n : Nat} {beg en len : Nat → Nat} {tc : Nat → Nat → Nat} {ord rkf : Nat → Nat} {al : Int32} {w m rk rbr a1 a2 ne u d k x z o b e l c : Row} (h0 : N0 n beg en len tc) (hN : NH cB n beg en len tc (nI n) b e l c) (hP : Perm n ord rkf) (hr : ∀ j, j < n → rbr j = nI (ord j)) : ∃ w' m' a1' a2' ne' u' d' k' x' rk' rbr' z' o', f7_makeAnew 1000 al (nI n) c l w m rk a1 a2 ne rbr u d k x z o b e = some (al + 1, nI n, w', m', a1', a2', ne', u', d', k', x', rk', rbr', z', o') ∧ DA n len tc ord rkf w' m' rk' rbr' ∧ DB n beg en len tc ord rkf u' d' k' x' z' o' := by
  obtain ⟨w', m', a1', a2', ne', rk', rbr', e1, e2⟩ := keepOrderB_s (fu := 1000) (w := w) (m := m) (rk := rk) (a1 := a1) (a2 := a2) (ne := ne) (rbr := rbr) h0.1 (by have := h0.1; omega) hN.2.2.2.2 hN.2.2.2.1 h0.S hP.o hr
  have hA := DA_of hP e2
  obtain ⟨u', d', k', x', z', o', e3, e4⟩ := measureAll_s (u := u) (d := d) (k := k) (x := x) (z := z) (o := o) h0 hN hP hA
  refine ⟨w', m', a1', a2', ne', u', d', k', x', rk', rbr', z', o', ?_, hA, e4⟩
  unfold f7_makeAnew
  rw [bd_s, e1, bnd8_s, e3, bnd6_s]
theorem alter_s {n : Nat} {beg en len : Nat → Nat} {tc : Nat → Nat → Nat} {ord rkf : Nat → Nat} {al : Int32} {w m ro ra il ar wh ne k z b e l c : Row} (h0 : N0 n beg en len tc) (hN : NH cM n beg en len tc (nI n) b e l c) (hP : Perm n ord rkf) (hr : ∀ j, j < n → ra j = nI (ord j)) : ∃ w' m' il' ar' wh' ne' ro' ra' k' z', f8_alter 1000 al (nI n) il c l w m ro ra ar wh ne k z = some (al + 1, ro', ra', w', m', k', z', il', ar', wh', ne') ∧ DA n len tc ord rkf w' m' ro' ra' ∧ DM n len tc k' z' := by
  obtain ⟨w', m', il', ar', wh', ne', ro', ra', e1, e2⟩ := layArcs_s (fu := 1000) (il := il) (w := w) (m := m) (ro := ro) (ra := ra) (ar := ar) (wh := wh) (ne := ne) h0.1 (by decide) hN.2.2.2.2 hN.2.2.2.1 h0.S hP.o hr
  obtain ⟨k', z', e3, e4, e5⟩ := layWays_s (fu := 1000) (k := k) (bu := z) h0.1 (by decide) hN.2.2.2.2 hN.2.2.2.1 h0.2.2.2.1
  refine ⟨w', m', il', ar', wh', ne', ro', ra', k', z', ?_, DA_ofM hP e2, e4, e5⟩
  unfold f8_alter
  rw [bd_s, e1, bnd8_s, e3, bnd2_s]
/-! arguments -/
theorem has_c (x : Int32) (n : Nat) (hn : n ≤ 12) : (∃ r, r < n ∧ x = nI r ∧ f3_has x (nI n) = some 1 ∧ f8_isRoad x (nI n) = some 1) ∨ (f3_has x (nI n) = some 0 ∧ f8_isRoad x (nI n) = some 0) := by
  rcases pk_ix x (n := n) (by omega) with h | h | ⟨r, hr, rfl⟩
  · right
    refine ⟨?_, ?_⟩
    · unfold f3_has
      rw [if_pos h, bnd1_s, ckb0]
    · unfold f8_isRoad f8_within
      rw [if_pos h, bnd1_s, ckb0, bnd1_s, ckb0]
  · right
    by_cases h0 : x < 0
    · refine ⟨?_, ?_⟩
      · unfold f3_has
        rw [if_pos h0, bnd1_s, ckb0]
      · unfold f8_isRoad f8_within
        rw [if_pos h0, bnd1_s, ckb0, bnd1_s, ckb0]
    · have h2 : nI n - 1 < x := by
        rw [Int32.lt_iff_toInt_lt]
        rw [Int32.le_iff_toInt_le, nI_toInt (by omega)] at h
        have h3 : (nI n - 1).toInt = (n : Int) - 1 := by
          have := pk_sub_toInt (a := n) (b := 1) (by omega) (by decide)
          exact this
        omega
      refine ⟨?_, ?_⟩
      · unfold f3_has
        rw [if_neg h0, if_pos h, bnd1_s, ckb0]
      · unfold f8_isRoad f8_within
        rw [if_neg h0, if_pos h2, bnd1_s, ckb0, bnd1_s, ckb0]
  · left
    refine ⟨r, hr, rfl, ?_, ?_⟩
    · unfold f3_has
      rw [if_neg (nI_pos (by omega)), if_neg (nI_ge hr (by omega)), bnd1_s, ckb1]
    · unfold f8_isRoad f8_within
      rw [show nI n - 1 = nI (n - 1) from by rw [show (1 : Int32) = nI 1 from rfl, pk_sub (by omega)], if_neg (nI_pos (by omega)), if_neg (nI_nlt (show r ≤ n - 1 by omega) (by omega)), bnd1_s, ckb1, bnd1_s, ckb1]
theorem both_c (x y : Int32) (n : Nat) (hn : n ≤ 12) : (∃ r s, r < n ∧ s < n ∧ x = nI r ∧ y = nI s ∧ f3_hasBoth x (nI n) y = some 1 ∧ f8_areRoads x (nI n) y = some 1) ∨ (f3_hasBoth x (nI n) y = some 0 ∧ f8_areRoads x (nI n) y = some 0) := by
  unfold f3_hasBoth f8_areRoads
  rcases has_c x n hn with ⟨r, hr, h1, h2, h3⟩ | ⟨h2, h3⟩
  · rcases has_c y n hn with ⟨s, hs, g1, g2, g3⟩ | ⟨g2, g3⟩
    · left
      refine ⟨r, s, hr, hs, h1, g1, ?_, ?_⟩
      · rw [h2, bnd1_s, if_neg i10, g2, bnd1_s, if_neg i10, bnd1_s, ckb1]
      · rw [h3, bnd1_s, if_neg i10, g3, bnd1_s, if_neg i10, bnd1_s, ckb1]
    · right
      refine ⟨?_, ?_⟩
      · rw [h2, bnd1_s, if_neg i10, g2, bnd1_s, if_pos rfl, bnd1_s, ckb0]
      · rw [h3, bnd1_s, if_neg i10, g3, bnd1_s, if_pos rfl, bnd1_s, ckb0]
  · right
    refine ⟨?_, ?_⟩
    · rw [h2, bnd1_s, if_pos rfl, bnd1_s, ckb0]
    · rw [h3, bnd1_s, if_pos rfl, bnd1_s, ckb0]
/-- a number from a to b, or not -/
theorem rng_c (x : Int32) (a b : Nat) (ha : a ≤ b) (hb : b < 1000000) : (∃ k, a ≤ k ∧ k ≤ b ∧ x = nI k ∧ ¬ x < nI a ∧ x ≤ nI b ∧ f8_within x (nI a) (nI b) = some 1) ∨ ((x < nI a ∨ ¬ x < nI a ∧ ¬ x ≤ nI b) ∧ f8_within x (nI a) (nI b) = some 0) := by
  by_cases h1 : x < nI a
  · right
    refine ⟨Or.inl h1, ?_⟩
    unfold f8_within
    rw [if_pos h1, bnd1_s, ckb0]
  · by_cases h2 : x ≤ nI b
    · left
      have h0 : ¬ x < 0 := fun q => h1 (by
        rw [Int32.lt_iff_toInt_lt, Int32.toInt_zero] at q
        rw [Int32.lt_iff_toInt_lt, nI_toInt (by omega)]
        omega)
      obtain ⟨k, hk, rfl⟩ := nI_of h0
      rw [nI_leI hk (by omega)] at h2
      have h3 : a ≤ k := by rw [nI_ltI hk (by omega)] at h1; omega
      exact ⟨k, h3, h2, rfl, h1, nI_le h2 (by omega), by rw [within_s (by omega) (by omega) (by omega), if_pos ⟨h3, h2⟩]⟩
    · right
      refine ⟨Or.inr ⟨h1, h2⟩, ?_⟩
      unfold f8_within
      have h3 : nI b < x := by
        rw [Int32.lt_iff_toInt_lt]
        rw [Int32.le_iff_toInt_le] at h2
        omega
      rw [if_neg h1, if_pos h3, bnd1_s, ckb0]
