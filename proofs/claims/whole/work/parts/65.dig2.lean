/-! the digest's end -/
section DIH
variable {n : Nat} {beg en len : Nat → Nat} {tc : Nat → Nat → Nat} {ord rkf : Nat → Nat} {b e l c w m rk rbr u d k x z o : Row} {mb me ml mc mw mm ro ra mk mz : Row}
def dO (g : Nat → Nat → Nat) (f t : Nat) (h : Int64) : Int64 := if f = t then h else mx h (orN (g f t))
def dOs (g : Nat → Nat → Nat) (h : Int64) : Int64 := itr (fun f y => itr (fun t y => dO g f t y) y 8) h 8
theorem dOpenB_s {g : Nat → Nat → Nat} (ho : RpP o g) (hg : ∀ f t, g f t ≤ FA) (h : Int64) : lpG (fun z => f7_digestOfPlaces_b1 1000 o z.1 z.2) 1000 (h, (0 : Int32)) = some (dOs g h) := by
  refine lp_it (b := fun z => f7_digestOfPlaces_b1 1000 o z.1 z.2) 8 1000 (by decide) (fun f y => itr (fun t y => dO g f t y) y 8) (fun f y hf => ?_) (fun y => ?_) h
  · show f7_digestOfPlaces_b1 1000 o y (nI f) = _
    have ei := lp_it (b := fun q => f7_digestOfPlaces_b2 (nI f) o q.1 q.2) 8 1000 (by decide) (fun t y => dO g f t y) (fun t y ht => by
        show f7_digestOfPlaces_b2 (nI f) o y (nI t) = _
        unfold f7_digestOfPlaces_b2 dO
        rw [if_neg (show ¬ (8 : Int32) ≤ nI t from nI_ge ht (by decide))]
        by_cases hft : f = t
        · rw [if_pos (by rw [hft]), bnd1_s, bd_s, nI_1, if_pos hft]
        · unfold f7_route
          rcases place_c (nI f) with ⟨f', hf', h1, q1, q2⟩ | ⟨q1, q2⟩
          · rcases place_c (nI t) with ⟨t', ht', h2, p1, p2⟩ | ⟨p1, p2⟩
            · rw [if_neg (fun q => hft ((nI_inj (by omega) (by omega)).mp q)), q1, bnd1_s, if_neg i10, p1, bnd1_s, if_neg i10, if_neg (fun q => hft ((nI_inj (by omega) (by omega)).mp q)), show nI f * 8 = nI (8 * f) from by rw [show (8 : Int32) = nI 8 from rfl, pk_mul, Nat.mul_comm], nI_add, ckN (show 8 * f + t < 64 by omega), clN (by omega), ho f t hf ht, orNone_s (hg f t), bnd1_s, bnd1_s, bnd1_s, mixB, bnd1_s, bnd1_s, bd_s, nI_1, if_neg hft]
            · exfalso
              unfold f7_isPlace at p1
              rw [if_neg (nI_pos (by omega)), if_neg (show ¬ (8 : Int32) ≤ nI t from nI_ge ht (by decide)), bnd1_s, ckb1] at p1
              exact absurd p1 (by decide)
          · exfalso
            unfold f7_isPlace at q1
            rw [if_neg (nI_pos (by omega)), if_neg (show ¬ (8 : Int32) ≤ nI f from nI_ge hf (by decide)), bnd1_s, ckb1] at q1
            exact absurd q1 (by decide)) (fun y => by
        show f7_digestOfPlaces_b2 (nI f) o y (nI 8) = _
        unfold f7_digestOfPlaces_b2
        rw [if_pos (show (8 : Int32) ≤ nI 8 from nI_le (Nat.le_refl 8) (by decide))]) y
    unfold f7_digestOfPlaces_b1
    rw [if_neg (show ¬ (8 : Int32) ≤ nI f from nI_ge hf (by decide)), ei, bnd1_s, bd_s, nI_1]
  · show f7_digestOfPlaces_b1 1000 o y (nI 8) = _
    unfold f7_digestOfPlaces_b1
    rw [if_pos (show (8 : Int32) ≤ nI 8 from nI_le (Nat.le_refl 8) (by decide))]
theorem dOpenM_s {g : Nat → Nat → Nat} (ho : RpP o g) (hg : ∀ f t, g f t ≤ FA) (h : Int64) : lpG (fun z => f8_digest_b4 o z.1 z.2) 1000 ((0 : Int32), h) = some (dOs g h) := by
  obtain ⟨y, e1, e2⟩ := lp_h (em := fun i (x : Int64) => (nI i, x)) (b := fun z => f8_digest_b4 o z.1 z.2) 64 1000 (by decide) id (fun k y => dO g (k / 8) (k % 8) y) (fun x => x) (fun k y hk => by
      refine ⟨dO g (k / 8) (k % 8) y, ?_, rfl⟩
      show f8_digest_b4 o (nI k) y = _
      unfold f8_digest_b4 dO
      rw [if_neg (show ¬ (64 : Int32) ≤ nI k from nI_ge hk (by decide)), r8 hk, d8 hk]
      by_cases hft : k / 8 = k % 8
      · rw [if_pos (by rw [hft]), bnd1_s, bd_s, nI_1, if_pos hft]
      · rw [if_neg (fun q => hft ((nI_inj (by omega) (by omega)).mp q)), ckN hk, ckN hk, clN (by omega), ho.a hk, if_neg hft]
        unfold orN
        by_cases q : g (k / 8) (k % 8) < FA
        · rw [if_pos ((FA_lt (hg _ _)).mpr q), bnd1_s, mixM, bnd1_s, bnd1_s, bd_s, nI_1, if_pos q]
        · rw [if_neg (fun z => q ((FA_lt (hg _ _)).mp z)), bnd1_s, show (-1 : Int64) = (-1 : Int32).toInt64 from by decide, mixM, bnd1_s, bnd1_s, bd_s, nI_1, if_neg q]) (fun y => by
      show f8_digest_b4 o (nI 64) y = _
      unfold f8_digest_b4
      rw [if_pos (show (64 : Int32) ≤ nI 64 from nI_le (Nat.le_refl 64) (by decide))]) h
  have e3 := itr_sq 8 (fun f t y => dO g f t y) (by decide) h 8 0 (by decide)
  have i0 : ∀ (f : Nat → Int64 → Int64) (x : Int64), itr f x 0 = x := fun _ _ => rfl
  have e2 : y = itr (fun k y => dO g (k / 8) (k % 8) y) h 64 := e2
  rw [i0, show 8 * 8 + 0 = 64 from rfl] at e3
  rw [e2, e3] at e1
  unfold dOs
  exact e1
def dL (n : Nat) (S : Nat → Nat → Nat) (beg en len : Nat → Nat) (h : Int64) : Int64 := itr (fun r y => mx y (itr (lsF (rOp n S beg en len 99) (rOp n S beg en len r) (nI 100)) 0 64)) h n
theorem dPlacesB_s (h0 : N0 n beg en len tc) (hN : NH cB n beg en len tc (nI n) b e l c) (hD : DB n beg en len tc ord rkf u d k x z o) (h : Int64) (sk sh : Row) : ∃ sk' sh', f7_digestOfPlaces 1000 o h (nI n) c l b e sk sh = some (dL n (stp len tc) beg en len (dOs (rOp n (stp len tc) beg en len 99) h), sk', sh') := by
  have hn := h0.1
  obtain ⟨⟨h', sk', sh'⟩, e1, e2⟩ := lp_h (em := fun i (y : Int64 × Row × Row) => (y.1, nI i, y.2)) (b := fun q => f7_digestOfPlaces_b3 1000 (nI n) c l b e o q.1 q.2.1 q.2.2.1 q.2.2.2) n 1000 (by omega) (fun y => y.1) (fun r y => mx y (itr (lsF (rOp n (stp len tc) beg en len 99) (rOp n (stp len tc) beg en len r) (nI 100)) 0 64)) (fun y => y) (fun r y hr => by
      obtain ⟨h, sk, sh⟩ := y
      obtain ⟨sk', sh', g1⟩ := lossWithout_s (fu := 1000) (sk := sk) (sh := sh) (p := nI 100) hn (by decide) hN.2.2.2.2 h0.2.2.2.1 hN.2.1 hN.2.2.1 hN.2.2.2.1 h0.2.1 hD.2.2.2.2.2 (rOp_FA 99) hr
      refine ⟨(mx h (itr (lsF (rOp n (stp len tc) beg en len 99) (rOp n (stp len tc) beg en len r) (nI 100)) 0 64), sk', sh'), ?_, rfl⟩
      show f7_digestOfPlaces_b3 1000 (nI n) c l b e o h (nI r) sk sh = _
      unfold f7_digestOfPlaces_b3 f7_loss
      rw [if_neg (nI_ge hr (by omega)), has_1 hn hr, bnd1_s, if_neg i10, if_neg (show ¬ (100 : Int32) < 0 by decide), if_pos (show (100 : Int32) ≤ 999 by decide), show (100 : Int32) = nI 100 from rfl, g1, bnd3_s, bnd3_s, mixB, bnd1_s, bd_s, nI_1]) (fun y => by
      obtain ⟨h, sk, sh⟩ := y
      show f7_digestOfPlaces_b3 1000 (nI n) c l b e o h (nI n) sk sh = _
      unfold f7_digestOfPlaces_b3
      rw [if_pos (nI_le (Nat.le_refl n) (by omega))]) (dOs (rOp n (stp len tc) beg en len 99) h, sk, sh)
  have e2 : h' = dL n (stp len tc) beg en len (dOs (rOp n (stp len tc) beg en len 99) h) := e2
  subst e2
  refine ⟨sk', sh', ?_⟩
  unfold f7_digestOfPlaces
  have e1 : lpG (fun q => f7_digestOfPlaces_b3 1000 (nI n) c l b e o q.1 q.2.1 q.2.2.1 q.2.2.2) 1000 (dOs (rOp n (stp len tc) beg en len 99) h, (0 : Int32), sk, sh) = some (_, sk', sh') := e1
  rw [dOpenB_s hD.2.2.2.2.2 (rOp_FA 99) h, bnd1_s, e1, bnd3_s]
theorem dLossM_s (h0 : N0 n beg en len tc) (hN : NH cM n beg en len tc (nI n) mb me ml mc) (h : Int64) (x y : Int32) (tr rt : Row) : ∃ x' y' tr' rt', lpG (fun z => f8_digest_b5 1000 (nI n) mc ml mb me z.1 z.2.1 z.2.2.1 z.2.2.2.1 z.2.2.2.2.1 z.2.2.2.2.2) 1000 ((0 : Int32), x, y, h, tr, rt) = some (x', y', dL n (stp len tc) beg en len h, tr', rt') := by
  have hn := h0.1
  obtain ⟨⟨x', y', h', tr', rt'⟩, e1, e2⟩ := lp_h (em := fun i (y : Int32 × Int32 × Int64 × Row × Row) => (nI i, y)) (b := fun z => f8_digest_b5 1000 (nI n) mc ml mb me z.1 z.2.1 z.2.2.1 z.2.2.2.1 z.2.2.2.2.1 z.2.2.2.2.2) n 1000 (by omega) (fun y => y.2.2.1) (fun r y => mx y (itr (lsF (rOp n (stp len tc) beg en len 99) (rOp n (stp len tc) beg en len r) (nI 100)) 0 64)) (fun y => y) (fun r q hr => by
      obtain ⟨x, y, h, tr, rt⟩ := q
      obtain ⟨x', y', tr', rt', g1⟩ := lossNow_s (fu := 1000) (tr := tr) (ro := rt) (p := nI 100) hn (by decide) hN.2.2.2.2 h0.2.2.2.1 hN.2.1 hN.2.2.1 hN.2.2.2.1 h0.2.1 hr
      refine ⟨(x', y', mx h (itr (lsF (rOp n (stp len tc) beg en len 99) (rOp n (stp len tc) beg en len r) (nI 100)) 0 64), tr', rt'), ?_, rfl⟩
      show f8_digest_b5 1000 (nI n) mc ml mb me (nI r) x y h tr rt = _
      unfold f8_digest_b5
      rw [if_neg (nI_ge hr (by omega)), show (100 : Int32) = nI 100 from rfl, g1, bnd5_s, mixM, bnd1_s, bd_s, nI_1]) (fun q => by
      obtain ⟨x, y, h, tr, rt⟩ := q
      show f8_digest_b5 1000 (nI n) mc ml mb me (nI n) x y h tr rt = _
      unfold f8_digest_b5
      rw [if_pos (nI_le (Nat.le_refl n) (by omega))]) (x, y, h, tr, rt)
  have e2 : h' = dL n (stp len tc) beg en len h := e2
  subst e2
  exact ⟨x', y', tr', rt', e1⟩
def dA (n : Nat) (W Md : Nat → Nat → Nat) (z : Row) (g : Nat → Nat → Nat) (h : Int64) : Int64 := itr (fun v y => mx y (alV n W Md z g v)) h 6
theorem dAllM_s (h0 : N0 n beg en len tc) (hN : NH cM n beg en len tc (nI n) mb me ml mc) (hP : Perm n ord rkf) (hA : DA n len tc ord rkf mw mm ro ra) (hD : DM n len tc mk mz) (h : Int64) (x y : Int32) (tr rt : Row) : ∃ x' y' tr' rt', lpG (fun z => f8_digest_b6 1000 (nI n) mc ml mb me mz mw mm z.1 z.2.1 z.2.2.1 z.2.2.2.1 z.2.2.2.2.1 z.2.2.2.2.2) 1000 ((0 : Int32), x, y, h, tr, rt) = some (x', y', dA n (WW n len tc ord) (MM n len tc ord) (BUSY n (stp len tc)) (rOp n (stp len tc) beg en len 99) h, tr', rt') := by
  have hn := h0.1
  obtain ⟨⟨x', y', h', tr', rt'⟩, e1, e2⟩ := lp_h (em := fun i (y : Int32 × Int32 × Int64 × Row × Row) => (nI i, y)) (b := fun z => f8_digest_b6 1000 (nI n) mc ml mb me mz mw mm z.1 z.2.1 z.2.2.1 z.2.2.2.1 z.2.2.2.2.1 z.2.2.2.2.2) 6 1000 (by decide) (fun y => y.2.2.1) (fun v y => mx y (alV n (WW n len tc ord) (MM n len tc ord) (BUSY n (stp len tc)) (rOp n (stp len tc) beg en len 99) v)) (fun y => y) (fun v q hv => by
      obtain ⟨x, y, h, tr, rt⟩ := q
      obtain ⟨x', y', tr', rt', g1⟩ := allM_s h0 hN hP hA hD (show v ≤ 5 by omega) tr rt
      refine ⟨(x', y', mx h (alV n (WW n len tc ord) (MM n len tc ord) (BUSY n (stp len tc)) (rOp n (stp len tc) beg en len 99) v), tr', rt'), ?_, rfl⟩
      show f8_digest_b6 1000 (nI n) mc ml mb me mz mw mm (nI v) x y h tr rt = _
      unfold f8_digest_b6
      rw [if_neg (show ¬ (6 : Int32) ≤ nI v from nI_ge hv (by decide)), g1, bnd5_s, mixM, bnd1_s, bd_s, nI_1]) (fun q => by
      obtain ⟨x, y, h, tr, rt⟩ := q
      show f8_digest_b6 1000 (nI n) mc ml mb me mz mw mm (nI 6) x y h tr rt = _
      unfold f8_digest_b6
      rw [if_pos (show (6 : Int32) ≤ nI 6 from nI_le (Nat.le_refl 6) (by decide))]) (x, y, h, tr, rt)
  have e2 : h' = dA n (WW n len tc ord) (MM n len tc ord) (BUSY n (stp len tc)) (rOp n (stp len tc) beg en len 99) h := e2
  subst e2
  exact ⟨x', y', tr', rt', e1⟩
/-- the counts, letters and all, of class and reference -/
theorem dCounts_s (h0 : N0 n beg en len tc) (hN : NH cB n beg en len tc (nI n) b e l c) (hA : DA n len tc ord rkf w m rk rbr) (hD : DB n beg en len tc ord rkf u d k x z o) (hM : NH cM n beg en len tc (nI n) mb me ml mc) {N : Nat} {cd : Nat → Nat} {co pa : Row} (hN60 : N ≤ 60) (hc : CDS N cd co pa) (h : Int64) (rd al rn : Int32) : ∃ h1 h2, f7_digestOfCounts 1000 (nI n) z (nI n) w m o h (nI N) co c rd al rn = some h2 ∧ lpG (fun z => f8_digest_b7 (nI N) pa z.1 z.2) 1000 ((0 : Int32), dA n (WW n len tc ord) (MM n len tc ord) (BUSY n (stp len tc)) (rOp n (stp len tc) beg en len 99) h) = some h1 ∧ lpG (fun z => f8_digest_b8 1000 (nI n) (nI N) me mb mc rd al rn z.1 z.2) 1000 ((0 : Int32), h1) = some h2 := by
  have hn := h0.1
  have a1 := lp_it (b := fun q => f7_digestOfCounts_b1 1000 (nI n) z (nI n) w m o q.1 q.2) 6 1000 (by decide) (fun v y => mx y (alV n (WW n len tc ord) (MM n len tc ord) (BUSY n (stp len tc)) (rOp n (stp len tc) beg en len 99) v)) (fun v y hv => by
      show f7_digestOfCounts_b1 1000 (nI n) z (nI n) w m o y (nI v) = _
      unfold f7_digestOfCounts_b1
      rw [if_neg (show ¬ (5 : Int32) < nI v from nI_nlt (show v ≤ 5 by omega) (by decide)), allB_s h0 hA hD (show v ≤ 5 by omega), bnd1_s, mixB, bnd1_s, bd_s, nI_1]) (fun y => by
      show f7_digestOfCounts_b1 1000 (nI n) z (nI n) w m o y (nI 6) = _
      unfold f7_digestOfCounts_b1
      rw [if_pos (show (5 : Int32) < nI 6 from nI_lt (show 5 < 6 by decide) (by decide))]) h
  have a2 := lp_it (b := fun q => f7_digestOfCounts_b2 (nI N) co q.1 q.2) N 1000 (by omega) (fun j y => mx y (nI (cd j))) (fun j y hj => by
      show f7_digestOfCounts_b2 (nI N) co y (nI j) = _
      unfold f7_digestOfCounts_b2
      rw [if_neg (nI_ge hj (by omega)), ckN (show j < 60 by omega), clN (by omega), (hc j hj).1, mixB, bnd1_s, bd_s, nI_1]) (fun y => by
      show f7_digestOfCounts_b2 (nI N) co y (nI N) = _
      unfold f7_digestOfCounts_b2
      rw [if_pos (nI_le (Nat.le_refl N) (by omega))]) (dA n (WW n len tc ord) (MM n len tc ord) (BUSY n (stp len tc)) (rOp n (stp len tc) beg en len 99) h)
  obtain ⟨y2, b1, b2⟩ := lp_h (em := fun i (x : Int64) => (nI i, x)) (b := fun z => f8_digest_b7 (nI N) pa z.1 z.2) N 1000 (by omega) id (fun j y => mx y (nI (cd j))) (fun x => x) (fun j y hj => by
      refine ⟨mx y (nI (cd j)), ?_, rfl⟩
      show f8_digest_b7 (nI N) pa (nI j) y = _
      unfold f8_digest_b7
      rw [if_neg (nI_ge hj (by omega)), ckN (show j < 60 by omega), clN (by omega), (hc j hj).2.1, mixM, bnd1_s, bd_s, nI_1]) (fun y => by
      show f8_digest_b7 (nI N) pa (nI N) y = _
      unfold f8_digest_b7
      rw [if_pos (nI_le (Nat.le_refl N) (by omega))]) (dA n (WW n len tc ord) (MM n len tc ord) (BUSY n (stp len tc)) (rOp n (stp len tc) beg en len 99) h)
  have b2 : y2 = itr (fun j y => mx y (nI (cd j))) (dA n (WW n len tc ord) (MM n len tc ord) (BUSY n (stp len tc)) (rOp n (stp len tc) beg en len 99) h) N := b2
  obtain ⟨cv, hcv⟩ : ∃ cv : Int32 → Int32, ∀ p, f7_count 1000 p (nI n) (nI N) c rd al rn = some (cv p) ∧ f8_howMany 1000 p (nI n) (nI N) me mb mc rd al rn = some (cv p) := ⟨fun p => Classical.choose (count_s h0 hN hM p (nI N) rd al rn), fun p => Classical.choose_spec (count_s h0 hN hM p (nI N) rd al rn)⟩
  have a3 := lp_it (b := fun q => f7_digestOfCounts_b3 1000 (nI n) (nI N) c rd al rn q.1 q.2) 7 1000 (by decide) (fun v y => mx y (cv (nI v))) (fun v y hv => by
      show f7_digestOfCounts_b3 1000 (nI n) (nI N) c rd al rn y (nI v) = _
      unfold f7_digestOfCounts_b3
      rw [if_neg (show ¬ (6 : Int32) < nI v from nI_nlt (show v ≤ 6 by omega) (by decide)), (hcv (nI v)).1, bnd1_s, mixB, bnd1_s, bd_s, nI_1]) (fun y => by
      show f7_digestOfCounts_b3 1000 (nI n) (nI N) c rd al rn y (nI 7) = _
      unfold f7_digestOfCounts_b3
      rw [if_pos (show (6 : Int32) < nI 7 from nI_lt (show 6 < 7 by decide) (by decide))]) y2
  obtain ⟨y3, c1, c2⟩ := lp_h (em := fun i (x : Int64) => (nI i, x)) (b := fun z => f8_digest_b8 1000 (nI n) (nI N) me mb mc rd al rn z.1 z.2) 7 1000 (by decide) id (fun v y => mx y (cv (nI v))) (fun x => x) (fun v y hv => by
      refine ⟨mx y (cv (nI v)), ?_, rfl⟩
      show f8_digest_b8 1000 (nI n) (nI N) me mb mc rd al rn (nI v) y = _
      unfold f8_digest_b8
      rw [if_neg (show ¬ (7 : Int32) ≤ nI v from nI_ge hv (by decide)), (hcv (nI v)).2, bnd1_s, mixM, bnd1_s, bd_s, nI_1]) (fun y => by
      show f8_digest_b8 1000 (nI n) (nI N) me mb mc rd al rn (nI 7) y = _
      unfold f8_digest_b8
      rw [if_pos (show (7 : Int32) ≤ nI 7 from nI_le (Nat.le_refl 7) (by decide))]) y2
  refine ⟨y2, y3, ?_, b1, c1⟩
  have c2 : y3 = itr (fun v y => mx y (cv (nI v))) y2 7 := c2
  unfold f7_digestOfCounts
  have a1 : lpG (fun q => f7_digestOfCounts_b1 1000 (nI n) z (nI n) w m o q.1 q.2) 1000 (h, (0 : Int32)) = some (dA n (WW n len tc ord) (MM n len tc ord) (BUSY n (stp len tc)) (rOp n (stp len tc) beg en len 99) h) := a1
  rw [a1, bnd1_s, a2, bnd1_s, ← b2, a3, bnd1_s, c2]
end DIH
