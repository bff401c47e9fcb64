/-! answers, of class and reference -/
theorem rng_ne {x : Int32} {a b k : Nat} (h : x < nI a ∨ ¬ x < nI a ∧ ¬ x ≤ nI b) (h1 : a ≤ k) (h2 : k ≤ b) (hb : b < 1000000) : ¬ x = nI k := fun q => by
  subst q
  rcases h with h | h
  · rw [nI_ltI (by omega) (by omega)] at h; omega
  · exact h.2 (nI_le h2 (by omega))
theorem place_c (x : Int32) : (∃ f, f < 8 ∧ x = nI f ∧ f7_isPlace x = some 1 ∧ f8_within x 0 7 = some 1) ∨ (f7_isPlace x = some 0 ∧ f8_within x 0 7 = some 0) := by
  unfold f7_isPlace f8_within
  rcases pk_ix x (n := 8) (by decide) with h | h | ⟨r, hr, rfl⟩
  · right
    rw [if_pos h, bnd1_s, ckb0, if_pos h, bnd1_s, ckb0]
    exact ⟨rfl, rfl⟩
  · right
    by_cases h0 : x < 0
    · rw [if_pos h0, bnd1_s, ckb0, if_pos h0, bnd1_s, ckb0]
      exact ⟨rfl, rfl⟩
    · have h8 : (8 : Int32) ≤ x := h
      have h2 : (7 : Int32) < x := by
        have h : nI 8 ≤ x := h
        show nI 7 < x
        rw [Int32.lt_iff_toInt_lt, nI_toInt (by decide)]
        rw [Int32.le_iff_toInt_le, nI_toInt (by decide)] at h
        omega
      rw [if_neg h0, if_pos h8, bnd1_s, ckb0, if_neg h0, if_pos h2, bnd1_s, ckb0]
      exact ⟨rfl, rfl⟩
  · left
    refine ⟨r, hr, rfl, ?_, ?_⟩
    · rw [if_neg (nI_pos (by omega)), if_neg (show ¬ (8 : Int32) ≤ nI r from nI_ge hr (by decide)), bnd1_s, ckb1]
    · rw [if_neg (nI_pos (by omega)), if_neg (show ¬ (7 : Int32) < nI r from nI_nlt (show r ≤ 7 by omega) (by decide)), bnd1_s, ckb1]
section ASK
variable {n : Nat} {beg en len : Nat → Nat} {tc : Nat → Nat → Nat} {ord rkf : Nat → Nat} {b e l c w m rk rbr u d k x z o : Row} {mb me ml mc mw mm ro ra mk mz : Row}
theorem Md_ok (h0 : N0 n beg en len tc) (hP : Perm n ord rkf) : ∀ u x, u < n → x < n → MM n len tc ord u x = 99 ∨ MM n len tc ord u x < n ∧ WW n len tc ord u x < FA := (CI_all h0.1 h0.S hP.o n (Nat.le_refl n)).2.2.2.2
def rdV (n : Nat) (beg en len rkf : Nat → Nat) (Md : Nat → Nat → Nat) (z : Row) (r w : Nat) : Int32 := if w = 0 then nI (beg r) else if w = 1 then nI (en r) else if w = 2 then nI (len r) else if w = 3 then nI (rkf r) else if w = 4 then nI (sumN (fun a => sumN (fun b => if Md a b = r then 1 else 0) n) n) else z r
theorem roadB_s (h0 : N0 n beg en len tc) (hN : NH cB n beg en len tc (nI n) b e l c) (hA : DA n len tc ord rkf w m rk rbr) (hD : DB n beg en len tc ord rkf u d k x z o) {r v : Nat} (hr : r < n) (hv : v ≤ 5) : f7_road 1000 (nI r) (nI n) (nI v) b e l rk (nI n) m z = some (rdV n beg en len rkf (MM n len tc ord) (BUSY n (stp len tc)) r v) := by
  have hn := h0.1
  obtain ⟨_, hb, he, hl, hc⟩ := hN
  unfold f7_road rdV
  rcases has_c (nI r) n hn with ⟨r', hr', h1, h2, h3⟩ | ⟨h2, h3⟩
  · rw [h2, bnd1_s, if_neg i10, ckN (show r < 12 by omega), ckN (show r < 12 by omega), ckN (show r < 12 by omega), ckN (show r < 12 by omega), ckN (show r < 12 by omega), clN (by omega), hb r hr, he r hr, hl r hr, hA.2.2.1 r hr, hD.2.2.2.2.1 r hr, countArcsOver_s (fu := 1000) hn (by omega) hA.2.1 hr, bnd1_s]
    rcases (show v = 0 ∨ v = 1 ∨ v = 2 ∨ v = 3 ∨ v = 4 ∨ v = 5 by omega) with rfl | rfl | rfl | rfl | rfl | rfl <;> rfl
  · exfalso
    unfold f3_has at h2
    rw [if_neg (nI_pos (by omega)), if_neg (nI_ge hr (by omega)), bnd1_s, ckb1] at h2
    exact absurd h2 (by decide)
theorem roadM_s (h0 : N0 n beg en len tc) (hN : NH cM n beg en len tc (nI n) mb me ml mc) (hP : Perm n ord rkf) (hA : DA n len tc ord rkf mw mm ro ra) (hD : DM n len tc mk mz) {r v : Nat} (hr : r < n) (hv : v ≤ 5) : f8_roadNow 1000 (nI v) (nI r) mb me ml ro (nI n) mw mm mz = some (rdV n beg en len rkf (MM n len tc ord) (BUSY n (stp len tc)) r v) := by
  have hn := h0.1
  obtain ⟨_, hb, he, hl, hc⟩ := hN
  unfold f8_roadNow rdV
  rw [ckN (show r < 12 by omega), ckN (show r < 12 by omega), ckN (show r < 12 by omega), ckN (show r < 12 by omega), ckN (show r < 12 by omega), clN (by omega), hb r hr, he r hr, hl r hr, hA.2.2.1 r hr, hD.2 r hr, middleOf_s (fu := 1000) hn (by decide) hA.1 hA.2.1 (Md_ok h0 hP) hr, bnd1_s]
  rcases (show v = 0 ∨ v = 1 ∨ v = 2 ∨ v = 3 ∨ v = 4 ∨ v = 5 by omega) with rfl | rfl | rfl | rfl | rfl | rfl <;> rfl
def orN (t : Nat) : Int32 := if t < FA then nI t else -1
theorem leastB_s (h0 : N0 n beg en len tc) (hD : DB n beg en len tc ord rkf u d k x z o) {r s : Nat} (hr : r < n) (hs : s < n) : f6_worth (nI r) (nI s) k = some (orN (fw (scl 1 (stp len tc)) n r s)) := by
  have hFA := FAe
  have hn := h0.1
  have hk := hD.2.2.1 r s hr hs
  have hw : Stp1 n (stp len tc) := stp_1 h0.2.2.2.1
  have hlt := key_lt 64 (Or.inr rfl) hw hn r s hr hs
  unfold f6_worth orN
  rw [get_s (by omega) (by omega), bnd1_s, hk.1]
  by_cases hT : fw (scl 1 (stp len tc)) n r s < FA
  · have he := key_eq 64 (Or.inr rfl) hw hn r s hr hs hT
    rw [if_pos ((FA_lt hk.2).mpr (hlt.mpr hT)), if_pos hT, bnd1_s, show (64 : Int32) = nI 64 from rfl, pk_div (by omega) (by decide) (by decide), show fw (scl 64 (stp len tc)) n r s / 64 = fw (scl 1 (stp len tc)) n r s by omega]
  · rw [if_neg (fun q => hT (hlt.mp ((FA_lt hk.2).mp q))), if_neg hT, bnd1_s]
theorem leastM_s (h0 : N0 n beg en len tc) (hD : DM n len tc mk mz) {r s : Nat} (hr : r < n) (hs : s < n) : f8_leastNow (nI r) (nI s) mk = some (orN (fw (scl 1 (stp len tc)) n r s)) := by
  have hFA := FAe
  have hn := h0.1
  have hk := hD.1 r s hr hs
  have hw : Stp1 n (stp len tc) := stp_1 h0.2.2.2.1
  have hlt := key_lt 16 (Or.inl rfl) hw hn r s hr hs
  unfold f8_leastNow orN
  rw [nx_m, nI_add, ckN (by omega), clN (by omega), bd_s, hk.1]
  by_cases hT : fw (scl 1 (stp len tc)) n r s < FA
  · have he := key_eq 16 (Or.inl rfl) hw hn r s hr hs hT
    rw [if_pos ((FA_lt hk.2).mpr (hlt.mpr hT)), if_pos hT, bnd1_s, show (16 : Int32) = nI 16 from rfl, pk_div (by omega) (by decide) (by decide), show fw (scl 16 (stp len tc)) n r s / 16 = fw (scl 1 (stp len tc)) n r s by omega]
  · rw [if_neg (fun q => hT (hlt.mp ((FA_lt hk.2).mp q))), if_neg hT, bnd1_s]
theorem orNone_s {t : Nat} (h : t ≤ FA) : f7_orNone (nI t) = some (orN t) := by
  unfold f7_orNone orN
  by_cases q : t < FA
  · rw [if_pos ((FA_lt h).mpr q), bnd1_s, if_pos q]
  · rw [if_neg (fun z => q ((FA_lt h).mp z)), bnd1_s, if_neg q]
theorem risenUp_s (h0 : N0 n beg en len tc) (hP : Perm n ord rkf) (hA : DA n len tc ord rkf mw mm ro ra) {r s : Nat} (hr : r < n) (hs : s < n) (a : Row) : ∃ a', f8_risenTo 1000 (nI n) (nI r) a 1 ra mw (nI s) = some (orN (fw (dU rkf (WW n len tc ord)) n r s), a') := by
  have hn := h0.1
  obtain ⟨a', e1, e2⟩ := risenU_s (fu := 1000) (a := a) hn (by omega) hP hA.1 hA.2.2.2 hr
  have hle : fw (dU rkf (WW n len tc ord)) n r s ≤ FA := Nat.le_trans (fw_le _ n r s) (dU_FA rkf (fun r s hr hs => (hA.1 r s hr hs).2) r s hr hs)
  refine ⟨a', ?_⟩
  unfold f8_risenTo orN
  rw [e1, bnd1_s, ckN (by omega), ckN (by omega), clN (by omega), e2 s hs]
  by_cases q : fw (dU rkf (WW n len tc ord)) n r s < FA
  · rw [if_pos ((FA_lt hle).mpr q), bnd1_s, if_pos q]
  · rw [if_neg (fun z => q ((FA_lt hle).mp z)), bnd1_s, if_neg q]
theorem risenDn_s (h0 : N0 n beg en len tc) (hP : Perm n ord rkf) (hA : DA n len tc ord rkf mw mm ro ra) {r s : Nat} (hr : r < n) (hs : s < n) (a : Row) : ∃ a', f8_risenTo 1000 (nI n) (nI r) a 0 ra mw (nI s) = some (orN (fw (dU (fun r => n - 1 - rkf r) (WW n len tc ord)) n r s), a') := by
  have hn := h0.1
  obtain ⟨a', e1, e2⟩ := risenD_s (fu := 1000) (a := a) hn (by omega) hP hA.1 hA.2.2.2 hr
  have hle : fw (dU (fun r => n - 1 - rkf r) (WW n len tc ord)) n r s ≤ FA := Nat.le_trans (fw_le _ n r s) (dU_FA _ (fun r s hr hs => (hA.1 r s hr hs).2) r s hr hs)
  refine ⟨a', ?_⟩
  unfold f8_risenTo orN
  rw [e1, bnd1_s, ckN (by omega), ckN (by omega), clN (by omega), e2 s hs]
  by_cases q : fw (dU (fun r => n - 1 - rkf r) (WW n len tc ord)) n r s < FA
  · rw [if_pos ((FA_lt hle).mpr q), bnd1_s, if_pos q]
  · rw [if_neg (fun z => q ((FA_lt hle).mp z)), bnd1_s, if_neg q]
/-! arcs -/
def arV (W Md : Nat → Nat → Nat) (rkf : Nat → Nat) (r s v : Nat) : Int32 := if W r s < FA then (if v = 0 then nI (W r s) else if v = 1 then oI (Md r s) else if v = 2 then (if rkf r < rkf s then 1 else 0) else nI (1 + (upl Md r s).length)) else -1
theorem arcB_s (h0 : N0 n beg en len tc) (hP : Perm n ord rkf) (hA : DA n len tc ord rkf w m rk rbr) {r s v : Nat} (hr : r < n) (hs : s < n) (hv : v ≤ 3) (row : Row) (hb : f3_hasBoth (nI r) (nI n) (nI s) = some 1) : ∃ row', f7_arc 1000 (nI r) (nI n) (nI s) row (nI v) w m rk = some (arV (WW n len tc ord) (MM n len tc ord) rkf r s v, row') := by
  have hn := h0.1
  unfold f7_arc arV
  rw [hb, bnd1_s, if_neg i10, if_neg (nI_pos (by omega)), if_pos (show nI v ≤ (3 : Int32) from nI_le (show v ≤ 3 by omega) (by decide)), hasArc_s hn hA.1 hr hs, bnd1_s]
  by_cases hw : WW n len tc ord r s < FA
  · rw [if_pos hw, if_neg i10, if_pos hw]
    rcases (show v = 0 ∨ v = 1 ∨ v = 2 ∨ v = 3 by omega) with rfl | rfl | rfl | rfl
    · refine ⟨row, ?_⟩
      rw [if_pos (show nI 0 = 0 from rfl), get_s (by omega) (by omega), bnd1_s, (hA.1 r s hr hs).1]
      rfl
    · refine ⟨row, ?_⟩
      rw [if_neg (show ¬ nI 1 = 0 by decide), if_pos (show nI 1 = 1 from rfl), get_s (by omega) (by omega), bnd1_s, hA.2.1 r s hr hs]
      rfl
    · refine ⟨row, ?_⟩
      rw [if_neg (show ¬ nI 2 = 0 by decide), if_neg (show ¬ nI 2 = 1 by decide), if_pos (show nI 2 = 2 from rfl), leadsUp_s hn (fun r hr => ⟨hA.2.2.1 r hr, (hP.2 r hr).1⟩) hr hs, bnd1_s]
      by_cases q : rkf r < rkf s
      · rw [if_pos q, if_neg i10, bnd1_s]; rfl
      · rw [if_neg q, if_pos rfl, bnd1_s]; rfl
    · obtain ⟨row', e1, _⟩ := unpack_s (fu := 1000) (row := row) hn (by decide) h0.S.1 (UH_of hn h0.S hP) hA.2.1 (fun u x hu hx => by rcases Md_ok h0 hP u x hu hx with q | q; exact Or.inl q; exact Or.inr q.1) hr hs hw
      refine ⟨row', ?_⟩
      rw [if_neg (show ¬ nI 3 = 0 by decide), if_neg (show ¬ nI 3 = 1 by decide), if_neg (show ¬ nI 3 = 2 by decide), e1, bnd2_s]
      rfl
  · refine ⟨row, ?_⟩
    rw [if_neg hw, if_pos rfl, if_neg hw]
theorem arcM_s (h0 : N0 n beg en len tc) (hP : Perm n ord rkf) (hA : DA n len tc ord rkf mw mm ro ra) {r s v : Nat} (hr : r < n) (hs : s < n) (hv : v ≤ 3) (t : Int32) (wf wt ta : Row) : ∃ t' wf' wt' ta', f8_arcNow 1000 (nI r) (nI s) mw (nI v) ta wf wt mm ro t = some (arV (WW n len tc ord) (MM n len tc ord) rkf r s v, t', wf', wt', ta') := by
  have hn := h0.1
  have hww := hA.1 r s hr hs
  have hk1 := hP.2 r hr
  have hk2 := hP.2 s hs
  unfold f8_arcNow arV
  rw [nx_m, nI_add, bd_s, ckN (show 12 * r + s < 144 by omega), clN (by omega), hww.1]
  by_cases hw : WW n len tc ord r s < FA
  · rw [if_pos ((FA_lt hww.2).mpr hw), if_pos hw]
    rcases (show v = 0 ∨ v = 1 ∨ v = 2 ∨ v = 3 by omega) with rfl | rfl | rfl | rfl
    · refine ⟨t, wf, wt, ta, ?_⟩
      rw [if_neg (show ¬ nI 0 = 3 by decide), if_pos (show nI 0 = 0 from rfl), ckN (show 12 * r + s < 144 by omega), bnd1_s]
      rfl
    · refine ⟨t, wf, wt, ta, ?_⟩
      rw [if_neg (show ¬ nI 1 = 3 by decide), if_neg (show ¬ nI 1 = 0 by decide), if_pos (show nI 1 = 1 from rfl), ckN (show 12 * r + s < 144 by omega), bnd1_s, hA.2.1 r s hr hs]
      rfl
    · refine ⟨t, wf, wt, ta, ?_⟩
      rw [if_neg (show ¬ nI 2 = 3 by decide), if_neg (show ¬ nI 2 = 0 by decide), if_neg (show ¬ nI 2 = 1 by decide), ckN (show s < 12 by omega), ckN (show r < 12 by omega), clN (by omega), clN (by omega), hA.2.2.1 r hr, hA.2.2.1 s hs]
      by_cases q : rkf r < rkf s
      · rw [if_neg (fun z => by rw [nI_leB (by omega) (by omega)] at z; omega), bnd1_s, if_pos q]; rfl
      · rw [if_pos (by rw [nI_leB (by omega) (by omega)]; omega), bnd1_s, if_neg q]; rfl
    · obtain ⟨wf', wt', ta', e1, _⟩ := layUnpacked_s (fu := 1000) (wf := wf) (wt := wt) (ta := ta) hn (by decide) h0.S.1 (UH_of hn h0.S hP) hA.2.1 (fun u x hu hx => by rcases Md_ok h0 hP u x hu hx with q | q; exact Or.inl q; exact Or.inr q.1) hr hs hw
      refine ⟨nI (1 + (upl (MM n len tc ord) r s).length), wf', wt', ta', ?_⟩
      rw [if_pos (show nI 3 = 3 from rfl), e1, bnd4_s]
      rfl
  · refine ⟨t, wf, wt, ta, ?_⟩
    rw [if_neg (fun z => hw ((FA_lt hww.2).mp z)), if_neg hw]
/-! ways -/
def wlk (w : Nat → Nat → Nat) (n r s : Nat) : Nat → Nat
  | 0 => r
  | i + 1 => nx w n (wlk w n r s i) s
theorem wlk_ok {w : Nat → Nat → Nat} (hw : Stp1 n w) (hn : n ≤ 12) {r s : Nat} (hr : r < n) (hs : s < n) (hT : fw (scl 1 w) n r s < FA) : ∀ i, i ≤ hops w n r s → wlk w n r s i < n ∧ fw (scl 1 w) n (wlk w n r s i) s < FA ∧ hops w n (wlk w n r s i) s = hops w n r s - i
  | 0, _ => ⟨hr, hT, by show hops w n r s = _; omega⟩
  | i + 1, hi => by
    obtain ⟨a1, a2, a3⟩ := wlk_ok hw hn hr hs hT i (by omega)
    obtain ⟨b1, b2, b3, b4⟩ := bw_s hw hn hs a1 a2 (show hops w n (wlk w n r s i) s = (hops w n r s - (i + 1)) + 1 by omega)
    exact ⟨b2, b3, b4⟩
theorem roadOn_s (h0 : N0 n beg en len tc) (hN : NH cM n beg en len tc (nI n) mb me ml mc) (hD : DB n beg en len tc ord rkf u d k x z o) (hM : DM n len tc mk mz) {r s : Nat} (hr : r < n) (hs : s < n) (p : Int32) (hb : f3_hasBoth (nI r) (nI n) (nI s) = some 1) (ha : f8_areRoads (nI r) (nI n) (nI s) = some 1) : ∃ v, f7_way 1000 (nI r) (nI n) (nI s) k p x = some v ∧ f8_way 1000 (nI r) (nI n) (nI s) mk p mc ml = some v := by
  have hFA := FAe
  have hn := h0.1
  have hw : Stp1 n (stp len tc) := stp_1 h0.2.2.2.1
  have hk := hD.2.2.1 r s hr hs
  have hk2 := hM.1 r s hr hs
  have hlt := key_lt 64 (Or.inr rfl) hw hn r s hr hs
  have hlt2 := key_lt 16 (Or.inl rfl) hw hn r s hr hs
  unfold f7_way f6_roadOn f8_way
  rw [hb, ha, bnd1_s, bnd1_s, if_neg i10, if_neg i10, get_s (by omega) (by omega), bnd1_s, hk.1, nx_m, nI_add, ckN (show 12 * r + s < 144 by omega), clN (by omega), bd_s, hk2.1]
  by_cases hT : fw (scl 1 (stp len tc)) n r s < FA
  · have e64 := key_eq 64 (Or.inr rfl) hw hn r s hr hs hT
    have e16 := key_eq 16 (Or.inl rfl) hw hn r s hr hs hT
    rw [if_neg (fun q => (FA_le hk.2).mp q (hlt.mpr hT)), if_neg (fun q => (FA_le hk2.2).mp q (hlt2.mpr hT)), show nI (fw (scl 64 (stp len tc)) n r s) - nI (fw (scl 64 (stp len tc)) n r s) / 64 * 64 = nI (hops (stp len tc) n r s) from by rw [show (64 : Int32) = nI 64 from rfl, pk_rem (by omega) (by decide) (by decide), show fw (scl 64 (stp len tc)) n r s % 64 = hops (stp len tc) n r s by omega], show nI (fw (scl 16 (stp len tc)) n r s) - nI (fw (scl 16 (stp len tc)) n r s) / 16 * 16 = nI (hops (stp len tc) n r s) from by rw [show (16 : Int32) = nI 16 from rfl, pk_rem (by omega) (by decide) (by decide), show fw (scl 16 (stp len tc)) n r s % 16 = hops (stp len tc) n r s by omega], show f8_within p 0 (nI (hops (stp len tc) n r s)) = f8_within p (nI 0) (nI (hops (stp len tc) n r s)) from rfl]
    rcases rng_c p 0 (hops (stp len tc) n r s) (Nat.zero_le _) (by omega) with ⟨q, hq1, hq2, rfl, hq3, hq4, hq5⟩ | ⟨hq1, hq2⟩
    · rw [hq5, bnd1_s, if_neg i10, if_neg (show ¬ nI q < 0 from hq3), if_pos hq4]
      have hwk := wlk_ok hw hn hr hs hT
      have eB := lp_e (em := fun i (y : Int32) => (y, nI i)) (b := fun z => f6_roadOn_b1 (nI q) (nI s) x z.1 z.2) (N := q) (I := fun i y => y = nI (wlk (stp len tc) n r s i)) (Q := fun y => y = nI (wlk (stp len tc) n r s q)) (fun i y hi hI => by
        have hI : y = nI (wlk (stp len tc) n r s i) := hI
        subst hI
        have a := hwk i (by omega)
        have b := hwk (i + 1) (by omega)
        refine ⟨nI (wlk (stp len tc) n r s (i + 1)), ?_, rfl⟩
        show f6_roadOn_b1 (nI q) (nI s) x (nI (wlk (stp len tc) n r s i)) (nI i) = some (.inl (nI (wlk (stp len tc) n r s (i + 1)), nI (i + 1)))
        unfold f6_roadOn_b1
        have b1 : nx (stp len tc) n (wlk (stp len tc) n r s i) s < n := b.1
        rw [if_neg (nI_ge hi (by omega)), if_neg (nI_ne_m1 (by omega)), get_s (by omega) (by omega), bnd1_s, hD.2.2.2.1 _ s a.1 hs, oI_lt (by omega), bd_s, nI_1]
        rfl) (fun y hI => ⟨y, by
        show f6_roadOn_b1 (nI q) (nI s) x y (nI q) = _
        unfold f6_roadOn_b1
        rw [if_pos (nI_le (Nat.le_refl q) (by omega))], hI⟩) q 0 1000 (nI r) (by omega) (by omega) rfl
      have eM := lp_e (em := fun i (y : Int32) => (y, nI i)) (b := fun z => f8_way_b1 1000 (nI q) mc (nI s) ml mk z.1 z.2) (N := q) (I := fun i y => y = nI (wlk (stp len tc) n r s i)) (Q := fun y => y = nI (wlk (stp len tc) n r s q)) (fun i y hi hI => by
        have hI : y = nI (wlk (stp len tc) n r s i) := hI
        subst hI
        have a := hwk i (by omega)
        obtain ⟨c1, c2, c3, c4⟩ := bw_s hw hn hs a.1 a.2.1 (show hops (stp len tc) n (wlk (stp len tc) n r s i) s = (hops (stp len tc) n r s - (i + 1)) + 1 by omega)
        refine ⟨nI (wlk (stp len tc) n r s (i + 1)), ?_, rfl⟩
        show f8_way_b1 1000 (nI q) mc (nI s) ml mk (nI (wlk (stp len tc) n r s i)) (nI i) = some (.inl (nI (wlk (stp len tc) n r s (i + 1)), nI (i + 1)))
        unfold f8_way_b1
        rw [if_neg (nI_ge hi (by omega)), nextOn_s (fu := 1000) hn (by omega) hN.2.2.2.2 hN.2.2.2.1 h0.2.2.2.1 hM.1 a.1 hs c1 a.2.1, bnd1_s, bd_s, nI_1]
        rfl) (fun y hI => ⟨y, by
        show f8_way_b1 1000 (nI q) mc (nI s) ml mk y (nI q) = _
        unfold f8_way_b1
        rw [if_pos (nI_le (Nat.le_refl q) (by omega))], hI⟩) q 0 1000 (nI r) (by omega) (by omega) rfl
      obtain ⟨y1, eB1, rfl⟩ := eB
      obtain ⟨y2, eM1, rfl⟩ := eM
      have eB1 : lpG (fun z => f6_roadOn_b1 (nI q) (nI s) x z.1 z.2) 1000 (nI r, (0 : Int32)) = _ := eB1
      have eM1 : lpG (fun z => f8_way_b1 1000 (nI q) mc (nI s) ml mk z.1 z.2) 1000 (nI r, (0 : Int32)) = _ := eM1
      rw [eB1, eM1]
      exact ⟨_, rfl, rfl⟩
    · rw [hq2, bnd1_s, if_pos rfl]
      refine ⟨-1, ?_, rfl⟩
      rcases hq1 with h | h
      · rw [if_pos (show p < 0 from h), bnd1_s, bnd1_s]
      · rw [if_neg (show ¬ p < 0 from h.1), if_neg h.2, bnd1_s, bnd1_s]
  · rw [if_pos ((FA_le hk.2).mpr (fun q => hT (hlt.mp q))), if_pos ((FA_le hk2.2).mpr (fun q => hT (hlt2.mp q)))]
    exact ⟨-1, rfl, rfl⟩
/-! all, counts -/
def alV (n : Nat) (W Md : Nat → Nat → Nat) (z : Row) (g : Nat → Nat → Nat) (v : Nat) : Int32 := if v = 0 then oI (bsy z n) else if v = 1 then (if n = 0 then 0 else z (bsy z n)) else if v = 2 then nI (sumN (fun r => sumN (fun s => if W r s < FA then 1 else 0) n) n) else if v = 3 then nI (sumN (fun r => sumN (fun s => if Md r s < n then 1 else 0) n) n) else if v = 4 then itr (cnF g) 0 64 else itr (smF g) 0 64
theorem allB_s (h0 : N0 n beg en len tc) (hA : DA n len tc ord rkf w m rk rbr) (hD : DB n beg en len tc ord rkf u d k x z o) {v : Nat} (hv : v ≤ 5) : f7_all 1000 (nI v) (nI n) z (nI n) w m o = some (alV n (WW n len tc ord) (MM n len tc ord) (BUSY n (stp len tc)) (rOp n (stp len tc) beg en len 99) v) := by
  have hn := h0.1
  have hz := bsy_congr hn hD.2.2.2.2.1 n (Nat.le_refl n)
  have hzv : (if n = 0 then (0 : Int32) else z (bsy z n)) = if n = 0 then 0 else BUSY n (stp len tc) (bsy (BUSY n (stp len tc)) n) := by
    by_cases q : n = 0
    · rw [if_pos q, if_pos q]
    · rw [if_neg q, if_neg q, hz]
      rcases bsy_lt (BUSY n (stp len tc)) n hn with y | y
      · omega
      · exact hD.2.2.2.2.1 _ y
  unfold f7_all alV
  rw [busiestB_s (fu := 1000) hn (by omega), mostBusy_s (fu := 1000) hn (by omega), countArcs_s (fu := 1000) hn (by omega) hA.1, countShortcuts_s (fu := 1000) hn (by omega) hA.2.1, countOpen_s (fu := 1000) (by decide) hD.2.2.2.2.2 (rOp_FA 99), sumOpen_s (fu := 1000) (by decide) hD.2.2.2.2.2 (rOp_FA 99), bnd1_s, bnd1_s, bnd1_s, bnd1_s, bnd1_s, bnd1_s, hzv, hz]
  rcases (show v = 0 ∨ v = 1 ∨ v = 2 ∨ v = 3 ∨ v = 4 ∨ v = 5 by omega) with rfl | rfl | rfl | rfl | rfl | rfl <;> rfl
theorem allM_s (h0 : N0 n beg en len tc) (hN : NH cM n beg en len tc (nI n) mb me ml mc) (hP : Perm n ord rkf) (hA : DA n len tc ord rkf mw mm ro ra) (hD : DM n len tc mk mz) {v : Nat} (hv : v ≤ 5) (tr rt : Row) : ∃ a b tr' rt', f8_allNow 1000 (nI n) mc ml tr mb me rt (nI v) mz mw mm = some (alV n (WW n len tc ord) (MM n len tc ord) (BUSY n (stp len tc)) (rOp n (stp len tc) beg en len 99) v, a, b, tr', rt') := by
  have hn := h0.1
  have hz := bsy_congr hn hD.2 n (Nat.le_refl n)
  obtain ⟨tr', rt', e1, e2⟩ := layRoutes_s (fu := 1000) (tr := tr) (ro := rt) hn (by decide) hN.2.2.2.2 h0.2.2.2.1 hN.2.1 hN.2.2.1 hN.2.2.2.1 h0.2.1
  refine ⟨itr (cnF (rOp n (stp len tc) beg en len 99)) 0 64, itr (smF (rOp n (stp len tc) beg en len 99)) 0 64, tr', rt', ?_⟩
  unfold f8_allNow alV
  rw [e1, bnd4_s, busiestM_s (fu := 1000) hn (by omega), arcsAll0_s (fu := 1000) hn (by decide) hA.1, arcsAll1_s (fu := 1000) hn (by decide) hA.1 hA.2.1 (Md_ok h0 hP), bnd1_s, bnd1_s, bnd1_s, bnd1_s, hz]
  have hzv : (if nI n = 0 then (some (0 : Int32)) else ckin (oI (bsy (BUSY n (stp len tc)) n)) 12 (some (mz (oI (bsy (BUSY n (stp len tc)) n)).toNatClampNeg))) = some (if n = 0 then 0 else BUSY n (stp len tc) (bsy (BUSY n (stp len tc)) n)) := by
    by_cases q : n = 0
    · rw [if_pos (by rw [q]; rfl), if_pos q]
    · rw [if_neg (nI_ne0 (by omega) (by omega)), if_neg q]
      rcases bsy_lt (BUSY n (stp len tc)) n hn with y | y
      · omega
      · rw [oI_lt (by omega), ckN (by omega), clN (by omega), hD.2 _ y]
  rw [hzv, bnd1_s]
  rcases (show v = 0 ∨ v = 1 ∨ v = 2 ∨ v = 3 ∨ v = 4 ∨ v = 5 by omega) with rfl | rfl | rfl | rfl | rfl | rfl <;> rfl
theorem count_s (h0 : N0 n beg en len tc) (hN : NH cB n beg en len tc (nI n) b e l c) (hM : NH cM n beg en len tc (nI n) mb me ml mc) (p N ra al rn : Int32) : ∃ v, f7_count 1000 p (nI n) N c ra al rn = some v ∧ f8_howMany 1000 p (nI n) N me mb mc ra al rn = some v := by
  have hn := h0.1
  unfold f7_count f8_howMany
  rw [countTurns_s (fu := 1000) hn (by omega) hN.2.2.2.2 h0.2.2.2.2, countBarred_s (fu := 1000) hn (by omega) hN.2.2.2.2, turnsAll0_s (fu := 1000) hn (by decide) hM.2.1 hM.2.2.1 h0.2.1, turnsAll1_s (fu := 1000) hn (by decide) hM.2.2.2.2 h0.2.2.2.2 hM.2.1 hM.2.2.1 h0.2.1, bnd1_s, bnd1_s]
  by_cases c0 : p = 0
  · rw [if_pos c0]; exact ⟨_, rfl, rfl⟩
  · rw [if_neg c0]
    by_cases c1 : p = 1
    · rw [if_pos c1]; exact ⟨_, rfl, rfl⟩
    · rw [if_neg c1]
      by_cases c2 : p = 2
      · rw [if_pos c2]; exact ⟨_, rfl, rfl⟩
      · rw [if_neg c2]
        by_cases c3 : p = 3
        · rw [if_pos c3]; exact ⟨_, rfl, rfl⟩
        · rw [if_neg c3]
          by_cases c4 : p = 4
          · rw [if_pos c4]; exact ⟨_, rfl, rfl⟩
          · rw [if_neg c4]
            by_cases c5 : p = 5
            · rw [if_pos c5]; exact ⟨_, rfl, rfl⟩
            · rw [if_neg c5]
              by_cases c6 : p = 6
              · rw [if_pos c6]; exact ⟨_, rfl, rfl⟩
              · rw [if_neg c6]; exact ⟨_, rfl, rfl⟩
end ASK
