/-! a rank given by class and reference; the orders -/
theorem giveRank_s {n k fu v : Nat} {rk w a1 a2 ne m rbr : Nat → Int32} {L : Nat → Bool} {W Md : Nat → Nat → Nat} (hn : n ≤ 12) (hk : k < 12) (hfu : n < fu) (hL : LB n rk L) (hW : Rpb n w W) (hB : CB n k W) (h1 : Rpb n a1 (fw (arM L W 99) n)) (hM : RpO n m Md) (hv : v < n) : ∃ w' m' a2' ne', f2_giveRank fu (nI n) rk (nI v) w a2 a1 ne m (nI k) rbr = some (w', m', a2', ne', upd rk v (nI k), upd rbr k (nI v)) ∧ Rep n w' (cW n L W v) ∧ RpO n m' (cMd n L W Md v) := by
  obtain ⟨a2', ne', e1, e2⟩ := markNeeded_s (a2 := a2) (ne := ne) hn (by omega) hfu hL hW hB h1 hv
  obtain ⟨w', m', e3, e4, e5⟩ := lp_give (bo := fun z => f2_giveRank_b1 fu (nI n) ne' (nI v) z.1 z.2.1 z.2.2) (fun u => fun z => f2_giveRank_b2 (nI n) (nI u) ne' (nI v) z.1 z.2.1 z.2.2) n fu v L W Md hn hfu hv (fun r x hr => by
      show f2_giveRank_b1 fu (nI n) ne' (nI v) (nI r) x.1 x.2 = _
      unfold f2_giveRank_b1
      rw [if_neg (nI_ge hr (by omega)), nI_1]
      rfl) (fun x => by
      show f2_giveRank_b1 fu (nI n) ne' (nI v) (nI n) x.1 x.2 = _
      unfold f2_giveRank_b1
      rw [if_pos (nI_le (Nat.le_refl n) (by omega))]) (fun u x w m hu hx c1 c2 => by
      show f2_giveRank_b2 (nI n) (nI u) ne' (nI v) (nI x) w m = _
      unfold f2_giveRank_b2
      rw [if_neg (nI_ge hx (by omega)), get_s (by omega) (by omega), bnd1_s, e2 u x hu hx]
      by_cases hc : nd n L W v u x = true
      · rw [if_pos hc, if_pos rfl, get_s (by omega) (by omega), bnd1_s, get_s (by omega) (by omega), bnd1_s, c1, c2, nI_add, set_s (by omega) (by omega), bnd1_s, set_s (by omega) (by omega), bnd1_s, bnd2_s, bd_s, nI_1, if_pos hc]
      · rw [if_neg hc, if_neg (by decide), bnd2_s, bd_s, nI_1, if_neg hc]) (fun u x hu => by
      show f2_giveRank_b2 (nI n) (nI u) ne' (nI v) (nI n) x.1 x.2 = _
      unfold f2_giveRank_b2
      rw [if_pos (nI_le (Nat.le_refl n) (by omega))]) w m (fun r s hr hs => (hW r s hr hs).1) hM
  refine ⟨w', m', a2', ne', ?_, e4, e5⟩
  unfold f2_giveRank
  rw [e1, bnd3_s, e3, bnd2_s, ckN (by omega), clN (by omega), bd_s, ckN (by omega), clN (by omega), bd_s]
theorem rankNow_s {n k fu v : Nat} {il w ar wh ne m ro ra : Nat → Int32} {L : Nat → Bool} {W Md : Nat → Nat → Nat} (hn : n ≤ 12) (hk : k < 12) (hfu : 144 < fu) (hL : LM n il L) (hW : Rpb n w W) (hM : RpO n m Md) (hv : v < n) : ∃ w' m' ar' wh' ne', f8_rankNow fu ar (nI n) il w wh (nI v) ne m ro (nI k) ra = some (upd ro v (nI k), upd ra k (nI v), w', m', upd il v 0, ar', wh', ne') ∧ Rep n w' (cW n L W v) ∧ RpO n m' (cMd n L W Md v) := by
  obtain ⟨ar', wh', ne', e1, e2⟩ := layNeeds_s (ar := ar) (wh := wh) (ne := ne) hn (Nat.le_of_lt hk) hfu hL hW hv
  obtain ⟨w', m', e3, e4, e5⟩ := lp_give (bo := fun z => f8_rankNow_b1 fu (nI n) ne' (nI v) z.1 z.2.1 z.2.2) (fun u => fun z => f8_rankNow_b2 (nI n) (nI u) ne' (nI v) z.1 z.2.1 z.2.2) n fu v L W Md hn (by omega) hv (fun r x hr => by
      show f8_rankNow_b1 fu (nI n) ne' (nI v) (nI r) x.1 x.2 = _
      unfold f8_rankNow_b1
      rw [if_neg (nI_ge hr (by omega)), nI_1]
      rfl) (fun x => by
      show f8_rankNow_b1 fu (nI n) ne' (nI v) (nI n) x.1 x.2 = _
      unfold f8_rankNow_b1
      rw [if_pos (nI_le (Nat.le_refl n) (by omega))]) (fun u x w m hu hx c1 c2 => by
      show f8_rankNow_b2 (nI n) (nI u) ne' (nI v) (nI x) w m = _
      unfold f8_rankNow_b2
      rw [if_neg (nI_ge hx (by omega)), nx_m, nx_m, nI_add, nI_add, nI_add, ckN (by omega), clN (by omega), clN (by omega), clN (by omega), e2 u x hu hx]
      by_cases hc : nd n L W v u x = true
      · rw [if_pos hc, if_neg i10, ckN (by omega), ckN (by omega), ckN (by omega), bd_s, c1, c2, nI_add, bd_s, ckN (by omega), bnd2_s, bd_s, nI_1, if_pos hc]
      · rw [if_neg hc, if_pos rfl, bnd2_s, bd_s, nI_1, if_neg hc]) (fun u x hu => by
      show f8_rankNow_b2 (nI n) (nI u) ne' (nI v) (nI n) x.1 x.2 = _
      unfold f8_rankNow_b2
      rw [if_pos (nI_le (Nat.le_refl n) (by omega))]) w m (fun r s hr hs => (hW r s hr hs).1) hM
  refine ⟨w', m', ar', wh', ne', ?_, e4, e5⟩
  unfold f8_rankNow
  rw [e1, bnd4_s, e3, bnd2_s, ckN (by omega), clN (by omega), bd_s, nb0, bd_s, ckN (by omega), clN (by omega), bd_s, ckN (by omega)]
/-- the state when k roads have ranks -/
def SB (n : Nat) (S : Nat → Nat → Nat) (ord : Nat → Nat) (k : Nat) (w m rk rbr : Nat → Int32) : Prop := Rpb n w (kst n S ord k).1 ∧ RpO n m (kst n S ord k).2.1 ∧ LB n rk (kst n S ord k).2.2 ∧ (∀ j, j < k → rk (ord j) = nI j) ∧ ∀ j, j < k → rbr j = nI (ord j)
def SM (n : Nat) (S : Nat → Nat → Nat) (ord : Nat → Nat) (k : Nat) (w m il rk ra : Nat → Int32) : Prop := Rpb n w (kst n S ord k).1 ∧ RpO n m (kst n S ord k).2.1 ∧ LM n il (kst n S ord k).2.2 ∧ (∀ j, j < k → rk (ord j) = nI j) ∧ ∀ j, j < k → ra j = nI (ord j)
theorem stepB {n k fu : Nat} {S : Nat → Nat → Nat} {ord : Nat → Nat} {rk w a1 a2 ne m rbr : Nat → Int32} (hn : n ≤ 12) (hfu : n < fu) (hS : Stp2 n S) (ho : Ord n ord) (hk : k < n) (h : SB n S ord k w m rk rbr) (h1 : Rpb n a1 (fw (arM (kst n S ord k).2.2 (kst n S ord k).1 99) n)) : ∃ w' m' a2' ne', f2_giveRank fu (nI n) rk (nI (ord k)) w a2 a1 ne m (nI k) rbr = some (w', m', a2', ne', upd rk (ord k) (nI k), upd rbr k (nI (ord k))) ∧ SB n S ord (k + 1) w' m' (upd rk (ord k) (nI k)) (upd rbr k (nI (ord k))) := by
  obtain ⟨s1, s2, s3, s4, s5⟩ := h
  have hC := CI_all hn hS ho k (by omega)
  have hC1 := CI_all hn hS ho (k + 1) (by omega)
  have hv := ho.1 k hk
  obtain ⟨w', m', a2', ne', e1, e2, e3⟩ := giveRank_s (a2 := a2) (ne := ne) (rbr := rbr) hn (by omega) hfu s3 s1 hC.1 h1 s2 hv
  refine ⟨w', m', a2', ne', e1, fun r s hr hs => ⟨e2 r s hr hs, CB_FA (by omega) hC1.1 r s hr hs⟩, e3, fun r hr => ?_, fun j hj => ?_, fun j hj => ?_⟩
  · show upd rk (ord k) (nI k) r = -1 ↔ cL (kst n S ord k).2.2 (ord k) r = true
    rw [upds]
    unfold cL
    by_cases e : r = ord k
    · rw [if_pos e]
      exact ⟨fun q => absurd q (nI_ne_m1 (by omega)), fun q => by simp [e] at q⟩
    · rw [if_neg e, s3 r hr]
      simp [e]
  · rw [upds]
    by_cases e : j = k
    · rw [if_pos (by rw [e]), e]
    · rw [if_neg (fun q => e (ho.2 j k (by omega) hk q))]
      exact s4 j (by omega)
  · rw [upds]
    by_cases e : j = k
    · rw [if_pos e, e]
    · rw [if_neg e]
      exact s5 j (by omega)
theorem stepM {n k fu : Nat} {S : Nat → Nat → Nat} {ord : Nat → Nat} {il w ar wh ne m ro ra : Nat → Int32} (hn : n ≤ 12) (hfu : 144 < fu) (hS : Stp2 n S) (ho : Ord n ord) (hk : k < n) (h : SM n S ord k w m il ro ra) : ∃ w' m' ar' wh' ne', f8_rankNow fu ar (nI n) il w wh (nI (ord k)) ne m ro (nI k) ra = some (upd ro (ord k) (nI k), upd ra k (nI (ord k)), w', m', upd il (ord k) 0, ar', wh', ne') ∧ SM n S ord (k + 1) w' m' (upd il (ord k) 0) (upd ro (ord k) (nI k)) (upd ra k (nI (ord k))) := by
  obtain ⟨s1, s2, s3, s4, s5⟩ := h
  have hC := CI_all hn hS ho k (by omega)
  have hC1 := CI_all hn hS ho (k + 1) (by omega)
  have hv := ho.1 k hk
  obtain ⟨w', m', ar', wh', ne', e1, e2, e3⟩ := rankNow_s (ar := ar) (wh := wh) (ne := ne) (ro := ro) (ra := ra) hn (show k < 12 by omega) hfu s3 s1 s2 hv
  refine ⟨w', m', ar', wh', ne', e1, fun r s hr hs => ⟨e2 r s hr hs, CB_FA (by omega) hC1.1 r s hr hs⟩, e3, fun r hr => ?_, fun j hj => ?_, fun j hj => ?_⟩
  · show upd il (ord k) 0 r = if cL (kst n S ord k).2.2 (ord k) r = true then 1 else 0
    rw [upds]
    unfold cL
    by_cases e : r = ord k
    · rw [if_pos e, if_neg (fun q => by simp [e] at q)]
    · rw [if_neg e, s3 r hr]
      simp [e]
  · rw [upds]
    by_cases e : j = k
    · rw [if_pos (by rw [e]), e]
    · rw [if_neg (fun q => e (ho.2 j k (by omega) hk q))]
      exact s4 j (by omega)
  · rw [upds]
    by_cases e : j = k
    · rw [if_pos e, e]
    · rw [if_neg e]
      exact s5 j (by omega)
/-! the order that is found -/
def fst (n : Nat) (S : Nat → Nat → Nat) : Nat → CTS
  | 0 => (S, fun _ _ => 99, fun _ => true)
  | k + 1 => ctr n (pk n (fst n S k).2.2 (fst n S k).1 n).2 (fst n S k)
def ford (n : Nat) (S : Nat → Nat → Nat) (k : Nat) : Nat := (pk n (fst n S k).2.2 (fst n S k).1 n).2
theorem kst_fst (n : Nat) (S : Nat → Nat → Nat) : ∀ k, kst n S (ford n S) k = fst n S k
  | 0 => rfl
  | k + 1 => by
    show ctr n (ford n S k) (kst n S (ford n S) k) = ctr n (ford n S k) (fst n S k)
    rw [kst_fst n S k]
def lc (n : Nat) (L : Nat → Bool) : Nat := sumN (fun r => if L r = true then 1 else 0) n
theorem sumN_one {f g : Nat → Nat} : ∀ (n v : Nat), v < n → (∀ i, i < n → i ≠ v → f i = g i) → f v + 1 = g v → sumN f n + 1 = sumN g n
  | 0, v, h, _, _ => by omega
  | n + 1, v, h, h1, h2 => by
    rw [sumN_s, sumN_s]
    by_cases e : v = n
    · subst e
      rw [sumN_congr v (fun i hi => h1 i (by omega) (by omega))]
      omega
    · have a := sumN_one n v (by omega) (fun i hi hne => h1 i (by omega) hne) h2
      have b := h1 n (by omega) (by omega)
      omega
theorem lc_cL {n v : Nat} {L : Nat → Bool} (hv : v < n) (hL : L v = true) : lc n (cL L v) + 1 = lc n L := by
  refine sumN_one n v hv (fun i _ hne => ?_) ?_
  · unfold cL; simp [hne]
  · unfold cL; simp [hL]
theorem fst_inv {n : Nat} (hn : n ≤ 12) (S : Nat → Nat → Nat) : ∀ k, k ≤ n → lc n (fst n S k).2.2 + k = n ∧ ∀ j, j < k → ford n S j < n ∧ ¬ (fst n S k).2.2 (ford n S j) = true
  | 0, _ => by
    refine ⟨?_, fun j hj => by omega⟩
    show sumN (fun r => if (fun _ => true) r = true then 1 else 0) n + 0 = n
    have : sumN (fun r => if (fun (_ : Nat) => true) r = true then 1 else 0) n = 1 * n := by rw [← sumN_const 1 n]; exact sumN_congr n (fun i _ => rfl)
    omega
  | k + 1, hk => by
    obtain ⟨i1, i2⟩ := fst_inv hn S k (by omega)
    have hp : ∃ u, u < n ∧ (fst n S k).2.2 u = true := by
      obtain ⟨u, hu, h⟩ := sumN_pos (f := fun r => if (fst n S k).2.2 r = true then 1 else 0) n (by have h : lc n (fst n S k).2.2 + k = n := i1; unfold lc at h; omega)
      refine ⟨u, hu, ?_⟩
      by_cases e : (fst n S k).2.2 u = true
      · exact e
      · rw [if_neg e] at h; omega
    obtain ⟨p1, p2⟩ := pk_left (W := (fst n S k).1) hn hp
    have hl := lc_cL p1 p2
    refine ⟨?_, fun j hj => ?_⟩
    · show lc n (cL (fst n S k).2.2 (pk n (fst n S k).2.2 (fst n S k).1 n).2) + (k + 1) = n
      omega
    · show ford n S j < n ∧ ¬ cL (fst n S k).2.2 (ford n S k) (ford n S j) = true
      by_cases e : j = k
      · subst e
        exact ⟨p1, by unfold cL; simp⟩
      · have := i2 j (by omega)
        exact ⟨this.1, by unfold cL; simp [this.2]⟩
theorem fst_left {n : Nat} (hn : n ≤ 12) (S : Nat → Nat → Nat) (k : Nat) (hk : k < n) : (∃ u, u < n ∧ (fst n S k).2.2 u = true) ∧ (fst n S k).2.2 (ford n S k) = true := by
  obtain ⟨i1, i2⟩ := fst_inv hn S k (by omega)
  have hp : ∃ u, u < n ∧ (fst n S k).2.2 u = true := by
    obtain ⟨u, hu, h⟩ := sumN_pos (f := fun r => if (fst n S k).2.2 r = true then 1 else 0) n (by have h : lc n (fst n S k).2.2 + k = n := i1; unfold lc at h; omega)
    refine ⟨u, hu, ?_⟩
    by_cases e : (fst n S k).2.2 u = true
    · exact e
    · rw [if_neg e] at h; omega
  exact ⟨hp, (pk_left (W := (fst n S k).1) hn hp).2⟩
theorem ford_lt {n : Nat} (hn : n ≤ 12) (S : Nat → Nat → Nat) : ∀ i j, i < j → j < n → ford n S i ≠ ford n S j := fun i j hi hj e => by
  have h1 := ((fst_inv hn S j (by omega)).2 i hi).2
  have h2 := (fst_left hn S j hj).2
  rw [e] at h1
  exact h1 h2
theorem ford_ord {n : Nat} (hn : n ≤ 12) (S : Nat → Nat → Nat) : Ord n (ford n S) := by
  refine ⟨fun k hk => ((fst_inv hn S n (Nat.le_refl n)).2 k hk).1, fun i j hi hj e => ?_⟩
  rcases Nat.lt_trichotomy i j with h | h | h
  · exact absurd e (ford_lt hn S i j h hj)
  · exact h
  · exact absurd e.symm (ford_lt hn S j i h hi)
/-- an order and the ranks by it -/
def Perm (n : Nat) (ord rkf : Nat → Nat) : Prop := (∀ k, k < n → ord k < n ∧ rkf (ord k) = k) ∧ ∀ r, r < n → rkf r < n ∧ ord (rkf r) = r
theorem Perm.o {n : Nat} {ord rkf : Nat → Nat} (h : Perm n ord rkf) : Ord n ord := ⟨fun k hk => (h.1 k hk).1, fun i j hi hj e => by
  have a := (h.1 i hi).2
  have b := (h.1 j hj).2
  rw [e] at a
  omega⟩
theorem ford_perm {n : Nat} (hn : n ≤ 12) {S : Nat → Nat → Nat} (hS : Stp2 n S) : ∃ rkf, Perm n (ford n S) rkf := by
  have hC := (CI_all hn hS (ford_ord hn S) n (Nat.le_refl n)).2.1
  have h0 : ∀ r, r < n → ∃ j, j < n ∧ ford n S j = r := fun r hr => by
    have hz := sumN_zero n (show lc n (fst n S n).2.2 = 0 by have := (fst_inv hn S n (Nat.le_refl n)).1; omega) r hr
    have hL : ¬ (fst n S n).2.2 r = true := fun q => by rw [if_pos q] at hz; omega
    rw [← kst_fst, hC r hr] at hL
    by_cases hx : ∃ j, j < n ∧ ford n S j = r
    · exact hx
    · exact absurd (fun j hj e => hx ⟨j, hj, e⟩) hL
  have h1 : ∀ r, ∃ j, r < n → j < n ∧ ford n S j = r := fun r => by
    by_cases hr : r < n
    · obtain ⟨j, hj⟩ := h0 r hr
      exact ⟨j, fun _ => hj⟩
    · exact ⟨0, fun q => absurd q hr⟩
  refine ⟨fun r => Classical.choose (h1 r), fun k hk => ?_, fun r hr => Classical.choose_spec (h1 r) hr⟩
  have ho := ford_ord hn S
  have hk1 := ho.1 k hk
  have := Classical.choose_spec (h1 (ford n S k)) hk1
  exact ⟨hk1, ho.2 _ k this.1 hk this.2⟩
