/-! what is altered -/
theorem stretch_N {n : Nat} {beg en len : Nat → Nat} {tc : Nat → Nat → Nat} {r k : Nat} (h0 : N0 n beg en len tc) (h1 : 1 ≤ k) (h2 : k ≤ 99) : N0 n beg en (fun j => if j = r then k else len j) tc := by
  refine ⟨h0.1, h0.2.1, h0.2.2.1, fun s hs => ?_, h0.2.2.2.2⟩
  dsimp only
  by_cases e : s = r
  · rw [if_pos e]; exact ⟨h1, h2⟩
  · rw [if_neg e]; exact h0.2.2.2.1 s hs
theorem stretch_H {c : Nat → Int32} {n : Nat} {beg en len : Nat → Nat} {tc : Nat → Nat → Nat} {S : Int32} {b e l co : Row} {r k : Nat} (h : NH c n beg en len tc S b e l co) : NH c n beg en (fun j => if j = r then k else len j) tc S b e (upd l r (nI k)) co := by
  refine ⟨h.1, h.2.1, h.2.2.1, fun s hs => ?_, h.2.2.2.2⟩
  dsimp only
  rw [upds]
  by_cases e : s = r
  · rw [if_pos e, if_pos e]
  · rw [if_neg e, if_neg e]; exact h.2.2.2.1 s hs
theorem turn_N {n : Nat} {beg en len : Nat → Nat} {tc : Nat → Nat → Nat} {r s t : Nat} (h0 : N0 n beg en len tc) (hrs : en r = beg s) (ht : t ≤ 51) : N0 n beg en len (fun r' s' => if r' = r ∧ s' = s then t else tc r' s') := by
  refine ⟨h0.1, h0.2.1, h0.2.2.1, h0.2.2.2.1, fun r' s' hr' hs' => ?_⟩
  dsimp only
  by_cases e : r' = r ∧ s' = s
  · rw [if_pos e, e.1, e.2]
    exact ⟨by omega, fun q => by omega, fun q => absurd hrs q⟩
  · rw [if_neg e]; exact h0.2.2.2.2 r' s' hr' hs'
theorem turn_H {c : Nat → Int32} {n : Nat} {beg en len : Nat → Nat} {tc : Nat → Nat → Nat} {S : Int32} {b e l co : Row} {r s t : Nat} (hn : n ≤ 12) (hs : s < n) (h : NH c n beg en len tc S b e l co) : NH c n beg en len (fun r' s' => if r' = r ∧ s' = s then t else tc r' s') S b e l (upd co (12 * r + s) (c t)) := by
  refine ⟨h.1, h.2.1, h.2.2.1, h.2.2.2.1, fun r' s' hr' hs' => ?_⟩
  dsimp only
  rw [updm (by omega) (by omega)]
  by_cases e : r' = r ∧ s' = s
  · rw [if_pos e, if_pos e]
  · rw [if_neg e, if_neg e]; exact h.2.2.2.2 r' s' hr' hs'
theorem turnB_s {n : Nat} {beg en len : Nat → Nat} {tc : Nat → Nat → Nat} {ord rkf : Nat → Nat} {r s t : Nat} {al : Int32} {w m rk rbr a1 a2 ne u d k x z o b e l c : Row} (h0 : N0 n beg en len tc) (hN : NH cB n beg en len tc (nI n) b e l c) (hP : Perm n ord rkf) (hr : ∀ j, j < n → rbr j = nI (ord j)) (hrn : r < n) (hsn : s < n) (hrs : en r = beg s) (ht : t ≤ 51) : ∃ w' m' a1' a2' ne' u' d' k' x' rk' rbr' z' o', f7_turn_k1 1000 (nI r) (nI s) c (cB t) al (nI n) l w m rk a1 a2 ne rbr u d k x z o b e = some (cB (tc r s), al + 1, nI n, upd c (12 * r + s) (cB t), w', m', a1', a2', ne', u', d', k', x', rk', rbr', z', o') ∧ DA n len (fun r' s' => if r' = r ∧ s' = s then t else tc r' s') ord rkf w' m' rk' rbr' ∧ DB n beg en len (fun r' s' => if r' = r ∧ s' = s then t else tc r' s') ord rkf u' d' k' x' z' o' := by
  have hn := h0.1
  obtain ⟨w', m', a1', a2', ne', u', d', k', x', rk', rbr', z', o', e1, e2, e3⟩ := makeAnew_s (al := al) (w := w) (m := m) (rk := rk) (a1 := a1) (a2 := a2) (ne := ne) (u := u) (d := d) (k := k) (x := x) (z := z) (o := o) (turn_N (r := r) (s := s) h0 hrs ht) (turn_H (r := r) (s := s) (t := t) hn hsn hN) hP hr
  refine ⟨w', m', a1', a2', ne', u', d', k', x', rk', rbr', z', o', ?_, e2, e3⟩
  unfold f7_turn_k1
  rw [get_s (by omega) (by omega), bnd1_s, set_s (by omega) (by omega), bnd1_s, e1, bnd15_s, hN.2.2.2.2 r s hrn hsn]
theorem turnM_s {n : Nat} {beg en len : Nat → Nat} {tc : Nat → Nat → Nat} {ord rkf : Nat → Nat} {r s t : Nat} {al : Int32} {w m ro ra il ar wh ne k z b e l c : Row} (h0 : N0 n beg en len tc) (hN : NH cM n beg en len tc (nI n) b e l c) (hP : Perm n ord rkf) (hr : ∀ j, j < n → ra j = nI (ord j)) (hrn : r < n) (hsn : s < n) (hrs : en r = beg s) (ht : t ≤ 51) : ∃ w' m' il' ar' wh' ne' ro' ra' k' z', f8_turn_k1 1000 (nI r) (nI s) c (cM t) al (nI n) il l w m ro ra ar wh ne k z = some (cM (tc r s), al + 1, upd c (12 * r + s) (cM t), ro', ra', w', m', k', z', il', ar', wh', ne') ∧ DA n len (fun r' s' => if r' = r ∧ s' = s then t else tc r' s') ord rkf w' m' ro' ra' ∧ DM n len (fun r' s' => if r' = r ∧ s' = s then t else tc r' s') k' z' := by
  have hn := h0.1
  obtain ⟨w', m', il', ar', wh', ne', ro', ra', k', z', e1, e2, e3⟩ := alter_s (al := al) (w := w) (m := m) (ro := ro) (il := il) (ar := ar) (wh := wh) (ne := ne) (k := k) (z := z) (turn_N (r := r) (s := s) h0 hrs ht) (turn_H (r := r) (s := s) (t := t) hn hsn hN) hP hr
  refine ⟨w', m', il', ar', wh', ne', ro', ra', k', z', ?_, e2, e3⟩
  unfold f8_turn_k1
  rw [nx_m, nI_add, ckN (show 12 * r + s < 144 by omega), clN (by omega), bd_s, ckN (show 12 * r + s < 144 by omega), bd_s, e1, bnd11_s, hN.2.2.2.2 r s hrn hsn]
/-- ranks anew -/
def mvN (n : Nat) (f g : Nat → Nat) : Nat := sumN (fun r => if f r = g r then 0 else 1) n
theorem rankB_s {n : Nat} {beg en len : Nat → Nat} {tc : Nat → Nat → Nat} {rkf rkg : Nat → Nat} {al : Int32} {w m rk rkb rbr a1 a2 ne u d k x z o b e l c : Row} (h0 : N0 n beg en len tc) (hN : NH cB n beg en len tc (nI n) b e l c) (hP : Perm n (ford n (stp len tc)) rkg) (hk : ∀ r, r < n → rk r = nI (rkf r) ∧ rkf r < n) : ∃ w' m' a1' a2' ne' u' d' k' x' rk' rbr' rkb' z' o', f7_rank 1000 al rk rkb (nI n) c l w m a1 a2 ne rbr u d k x z o b e = some (nI (mvN n rkg rkf), al + 1, nI n, w', m', a1', a2', ne', u', d', k', x', rk', rbr', rkb', z', o') ∧ DA n len tc (ford n (stp len tc)) rkg w' m' rk' rbr' ∧ DB n beg en len tc (ford n (stp len tc)) rkg u' d' k' x' z' o' := by
  have hn := h0.1
  obtain ⟨w', m', a1', a2', ne', rk', rbr', e1, e2⟩ := findOrderB_s (fu := 1000) (w := w) (m := m) (rk := rk) (a1 := a1) (a2 := a2) (ne := ne) (rbr := rbr) hn (by omega) hN.2.2.2.2 hN.2.2.2.1 h0.S
  have hA := DA_of hP e2
  obtain ⟨u', d', k', x', z', o', e3, e4⟩ := measureAll_s (u := u) (d := d) (k := k) (x := x) (z := z) (o := o) h0 hN hP hA
  generalize hb : va_cpy rk rkb (0 : Int32).toNatClampNeg (0 : Int32).toNatClampNeg (12 : Int32).toNatClampNeg = rb
  have hrb : ∀ j, j < n → rb j = nI (rkf j) := fun j hj => by rw [← hb, cpy12 (by omega)]; exact (hk j hj).1
  have ec := lp_c1 (b := fun z => f2_countMoved_b1 (nI n) rk' rb z.1 z.2) n 1000 (by omega) (fun r => if rkg r = rkf r then 0 else 1) (fun r m hr => by
      show f2_countMoved_b1 (nI n) rk' rb (nI m) (nI r) = _
      unfold f2_countMoved_b1
      have q1 := hP.2 r hr
      have q2 := hk r hr
      rw [if_neg (nI_ge hr (by omega)), ckN (by omega), ckN (by omega), clN (by omega), hA.2.2.1 r hr, hrb r hr]
      by_cases q : rkg r = rkf r
      · rw [if_pos (by rw [q]), bnd1_s, bd_s, bd_s, nI_1, show (0 : Int32) = nI 0 from rfl, nI_add, if_pos q]
      · rw [if_neg (fun y => q ((nI_inj (by omega) (by omega)).mp y)), bnd1_s, bd_s, bd_s, nI_1, nI_1, if_neg q]) (fun m => by
      show f2_countMoved_b1 (nI n) rk' rb (nI m) (nI n) = _
      unfold f2_countMoved_b1
      rw [if_pos (nI_le (Nat.le_refl n) (by omega))]) 0
  have ec : lpG (fun z => f2_countMoved_b1 (nI n) rk' rb z.1 z.2) 1000 ((0 : Int32), (0 : Int32)) = some (nI (0 + mvN n rkg rkf)) := ec
  refine ⟨w', m', a1', a2', ne', u', d', k', x', rk', rbr', rb, z', o', ?_, hA, e4⟩
  unfold f7_rank f2_noteRanks f2_countMoved
  rw [bd_s, bd_s, hb, bnd1_s, e1, bnd8_s, e3, bnd6_s, ec, bnd1_s, bnd1_s, Nat.zero_add]
theorem rankM_s {n : Nat} {beg en len : Nat → Nat} {tc : Nat → Nat → Nat} {rkf rkg : Nat → Nat} {al : Int32} {w m ro ra we il ar wh ne b e l c : Row} (h0 : N0 n beg en len tc) (hN : NH cM n beg en len tc (nI n) b e l c) (hP : Perm n (ford n (stp len tc)) rkg) (hk : ∀ r, r < n → ro r = nI (rkf r) ∧ rkf r < n) : ∃ w' m' il' ar' wh' ne' ro' ra' we', f8_rank 1000 (nI n) ro we il c l w m ra ar wh ne al = some (nI (mvN n rkg rkf), al + 1, ro', ra', w', m', il', ar', wh', ne', we') ∧ DA n len tc (ford n (stp len tc)) rkg w' m' ro' ra' := by
  have hn := h0.1
  obtain ⟨w', m', il', ar', wh', ne', ro', ra', e1, e2⟩ := findOrderM_s (fu := 1000) (il := il) (w := w) (m := m) (ro := ro) (ra := ra) (ar := ar) (wh := wh) (ne := ne) hn (by decide) hN.2.2.2.2 hN.2.2.2.1 h0.S
  have hA := DA_ofM hP e2
  obtain ⟨we', f1, f2⟩ := lp_e (em := fun i (x : Row) => (nI i, x)) (b := fun z => f8_rank_b1 (nI n) ro z.1 z.2) (N := n) (I := fun i x => ∀ j, j < i → x j = ro j) (Q := fun x => ∀ j, j < n → x j = ro j) (fun i x hi hI => ⟨upd x i (ro i), (by
      show f8_rank_b1 (nI n) ro (nI i) x = some (.inl (nI (i + 1), upd x i (ro i)))
      unfold f8_rank_b1
      rw [if_neg (nI_ge hi (by omega)), ckN (by omega), ckN (by omega), clN (by omega), bd_s, bd_s, nI_1]), fun j hj => by
      rw [upds]
      by_cases q : j = i
      · rw [if_pos q, q]
      · rw [if_neg q]; exact hI j (by omega)⟩) (fun x hI => ⟨x, (by
      show f8_rank_b1 (nI n) ro (nI n) x = _
      unfold f8_rank_b1
      rw [if_pos (nI_le (Nat.le_refl n) (by omega))]), hI⟩) n 0 1000 we (by omega) (by omega) (fun j hj => by omega)
  have f1 : lpG (fun z => f8_rank_b1 (nI n) ro z.1 z.2) 1000 ((0 : Int32), we) = some we' := f1
  have ec := lp_c1 (b := fun z => f8_rank_b2 (nI n) we' ro' z.1 z.2) n 1000 (by omega) (fun r => if rkg r = rkf r then 0 else 1) (fun r m hr => by
      show f8_rank_b2 (nI n) we' ro' (nI m) (nI r) = _
      unfold f8_rank_b2
      have q1 := hP.2 r hr
      have q2 := hk r hr
      rw [if_neg (nI_ge hr (by omega)), ckN (by omega), ckN (by omega), clN (by omega), hA.2.2.1 r hr, f2 r hr, q2.1]
      by_cases q : rkg r = rkf r
      · rw [if_pos (by rw [q]), bnd1_s, bd_s, bd_s, nI_1, show (0 : Int32) = nI 0 from rfl, nI_add, if_pos q]
      · rw [if_neg (fun y => q ((nI_inj (by omega) (by omega)).mp y).symm), bnd1_s, bd_s, bd_s, nI_1, nI_1, if_neg q]) (fun m => by
      show f8_rank_b2 (nI n) we' ro' (nI m) (nI n) = _
      unfold f8_rank_b2
      rw [if_pos (nI_le (Nat.le_refl n) (by omega))]) 0
  have ec : lpG (fun z => f8_rank_b2 (nI n) we' ro' z.1 z.2) 1000 ((0 : Int32), (0 : Int32)) = some (nI (0 + mvN n rkg rkf)) := ec
  refine ⟨w', m', il', ar', wh', ne', ro', ra', we', ?_, hA⟩
  unfold f8_rank
  rw [f1, bnd1_s, e1, bnd8_s, bd_s, ec, bnd1_s, Nat.zero_add]
/-! roads read -/
theorem copy3_s {n : Nat} {nb ne nl b e l : Row} (hn : n ≤ 12) : ∃ b' e' l', lpG (fun z => f8_roads_b1 (nI n) nb ne nl z.1 z.2.1 z.2.2.1 z.2.2.2) 1000 ((0 : Int32), b, e, l) = some (b', e', l') ∧ ∀ j, j < n → b' j = nb j ∧ e' j = ne j ∧ l' j = nl j := by
  obtain ⟨⟨b', e', l'⟩, f1, f2⟩ := lp_e (em := fun i (x : Row × Row × Row) => (nI i, x)) (b := fun z => f8_roads_b1 (nI n) nb ne nl z.1 z.2.1 z.2.2.1 z.2.2.2) (N := n) (I := fun i x => ∀ j, j < i → x.1 j = nb j ∧ x.2.1 j = ne j ∧ x.2.2 j = nl j) (Q := fun x => ∀ j, j < n → x.1 j = nb j ∧ x.2.1 j = ne j ∧ x.2.2 j = nl j) (fun i x hi hI => ⟨(upd x.1 i (nb i), upd x.2.1 i (ne i), upd x.2.2 i (nl i)), (by
      show f8_roads_b1 (nI n) nb ne nl (nI i) x.1 x.2.1 x.2.2 = _
      unfold f8_roads_b1
      rw [if_neg (nI_ge hi (by omega)), ckN (show i < 12 by omega), ckN (show i < 12 by omega), clN (by omega), bd_s, ckN (show i < 12 by omega), ckN (show i < 12 by omega), bd_s, ckN (show i < 12 by omega), ckN (show i < 12 by omega), bd_s, bd_s, nI_1]), fun j hj => by
      dsimp only
      rw [upds, upds, upds]
      by_cases q : j = i
      · rw [if_pos q, if_pos q, if_pos q, q]; exact ⟨rfl, rfl, rfl⟩
      · rw [if_neg q, if_neg q, if_neg q]; exact hI j (by omega)⟩) (fun x hI => ⟨x, (by
      show f8_roads_b1 (nI n) nb ne nl (nI n) x.1 x.2.1 x.2.2 = _
      unfold f8_roads_b1
      rw [if_pos (nI_le (Nat.le_refl n) (by omega))]), hI⟩) n 0 1000 (b, e, l) (by omega) (by omega) (fun j hj => by omega)
  exact ⟨b', e', l', f1, f2⟩
theorem tc0_ok {n : Nat} {beg en : Nat → Nat} : TcOK n beg en (tc0 beg en) := fun r s hr hs => by
  unfold tc0
  by_cases q : en r = beg s
  · rw [if_pos q]
    split
    · exact ⟨by omega, fun z => by omega, fun z => absurd q z⟩
    · exact ⟨by omega, fun z => by omega, fun z => absurd q z⟩
  · rw [if_neg q]
    exact ⟨by omega, fun _ => q, fun _ => rfl⟩
theorem take_s {n : Nat} {beg en len : Nat → Nat} {cur : Int32} {pb pe pl b e l g : Row} (h0 : N0 n beg en len (tc0 beg en)) (hc : cur + 1 = nI n) (h1 : ∀ j, j < n → pb j = nI (beg j)) (h2 : ∀ j, j < n → pe j = nI (en j)) (h3 : ∀ j, j < n → pl j = nI (len j)) : ∃ b' e' l' g', f3_take 1000 cur pb b pe e pl l g = some (nI n, g', b', e', l') ∧ NH cB n beg en len (tc0 beg en) (nI n) b' e' l' g' := by
  have hn := h0.1
  have k1 : Rp1 n (va_cpy pb b (0 : Int32).toNatClampNeg (0 : Int32).toNatClampNeg (12 : Int32).toNatClampNeg) beg := fun j hj => by rw [cpy12 (by omega)]; exact h1 j hj
  have k2 : Rp1 n (va_cpy pe e (0 : Int32).toNatClampNeg (0 : Int32).toNatClampNeg (12 : Int32).toNatClampNeg) en := fun j hj => by rw [cpy12 (by omega)]; exact h2 j hj
  have k3 : Rp1 n (va_cpy pl l (0 : Int32).toNatClampNeg (0 : Int32).toNatClampNeg (12 : Int32).toNatClampNeg) len := fun j hj => by rw [cpy12 (by omega)]; exact h3 j hj
  obtain ⟨g', e1, e2⟩ := takeC_s (fu := 1000) (g := g) hn (by omega) k1 k2 h0.2.1
  refine ⟨_, _, _, g', ?_, rfl, k1, k2, k3, e2⟩
  unfold f3_take f4_howManyRoads
  rw [bnd1_s, bd_s, bd_s, bd_s, hc, e1, bnd1_s]
