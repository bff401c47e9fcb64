/-! the digest -/
def mx (h : Int64) (v : Int32) : Int64 := 31 * h + v.toInt64
theorem mixB (h : Int64) (v : Int32) : f7_mix h v.toInt64 = some (mx h v) := rfl
theorem mixM (h : Int64) (v : Int32) : f8_mix h v.toInt64 = some (mx h v) := rfl
theorem itr_sq {α : Type} (m : Nat) (F : Nat → Nat → α → α) (hm : 0 < m) (x : α) : ∀ (r s : Nat), s ≤ m → itr (fun k y => F (k / m) (k % m) y) x (m * r + s) = itr (F r) (itr (fun r y => itr (F r) y m) x r) s
  | 0, 0, _ => by rw [Nat.mul_zero]; rfl
  | r + 1, 0, _ => by
    have h := itr_sq m F hm x r m (Nat.le_refl m)
    rw [show m * (r + 1) + 0 = m * r + m by rw [Nat.mul_succ, Nat.add_zero], h]
    rfl
  | r, s + 1, hs => by
    have h := itr_sq m F hm x r s (by omega)
    rw [show m * r + (s + 1) = (m * r + s) + 1 by omega]
    show F ((m * r + s) / m) ((m * r + s) % m) (itr (fun k y => F (k / m) (k % m) y) x (m * r + s)) = F r s (itr (F r) (itr (fun r y => itr (F r) y m) x r) s)
    rw [h, Nat.mul_add_div hm, Nat.div_eq_of_lt (show s < m by omega), Nat.mul_add_mod, Nat.mod_eq_of_lt (show s < m by omega), Nat.add_zero]
theorem has_1 {n r : Nat} (hn : n ≤ 12) (hr : r < n) : f3_has (nI r) (nI n) = some 1 := by
  unfold f3_has
  rw [if_neg (nI_pos (by omega)), if_neg (nI_ge hr (by omega)), bnd1_s, ckb1]
theorem both_1 {n r s : Nat} (hn : n ≤ 12) (hr : r < n) (hs : s < n) : f3_hasBoth (nI r) (nI n) (nI s) = some 1 := by
  unfold f3_hasBoth
  rw [has_1 hn hr, bnd1_s, if_neg i10, has_1 hn hs, bnd1_s, if_neg i10, bnd1_s, ckb1]
/-- a loop with the digest in its state -/
theorem lp_h {τ σ ρ : Type} (em : Nat → τ → σ) {b : σ → Option (σ ⊕ ρ)} (N fu : Nat) (hfu : N < fu) (g : τ → Int64) (F : Nat → Int64 → Int64) (out : τ → ρ) (hs : ∀ k x, k < N → ∃ y, b (em k x) = some (.inl (em (k + 1) y)) ∧ g y = F k (g x)) (he : ∀ x, b (em N x) = some (.inr (out x))) (x : τ) : ∃ y, lpG b fu (em 0 x) = some (out y) ∧ g y = itr F (g x) N := by
  obtain ⟨o, e1, y, rfl, e2⟩ := lp_e (em := em) (b := b) (N := N) (I := fun k y => g y = itr F (g x) k) (Q := fun o => ∃ y, o = out y ∧ g y = itr F (g x) N) (fun k y hk hI => by
    obtain ⟨z, f1, f2⟩ := hs k y hk
    exact ⟨z, f1, by rw [f2, hI]; rfl⟩) (fun y hI => ⟨out y, he y, y, rfl, hI⟩) N 0 fu x (by omega) hfu rfl
  exact ⟨y, e1, e2⟩
section DIG
variable {n : Nat} {beg en len : Nat → Nat} {tc : Nat → Nat → Nat} {ord rkf : Nat → Nat} {b e l c w m rk rbr u d k x z o : Row} {mb me ml mc mw mm ro ra mk mz : Row}
def dR (n : Nat) (beg en len rkf : Nat → Nat) (Md : Nat → Nat → Nat) (z : Row) (h : Int64) : Int64 := itr (fun r y => itr (fun v y => mx y (rdV n beg en len rkf Md z r v)) y 6) h n
theorem dRoadsB_s (h0 : N0 n beg en len tc) (hN : NH cB n beg en len tc (nI n) b e l c) (hA : DA n len tc ord rkf w m rk rbr) (hD : DB n beg en len tc ord rkf u d k x z o) (h : Int64) : f7_digestOfRoads 1000 (nI n) b e l rk (nI n) m z h = some (dR n beg en len rkf (MM n len tc ord) (BUSY n (stp len tc)) h) := by
  have hn := h0.1
  have e := lp_it (b := fun y => f7_digestOfRoads_b1 1000 (nI n) b e l rk (nI n) m z y.1 y.2) n 1000 (by omega) (fun r y => itr (fun v y => mx y (rdV n beg en len rkf (MM n len tc ord) (BUSY n (stp len tc)) r v)) y 6) (fun r y hr => by
      show f7_digestOfRoads_b1 1000 (nI n) b e l rk (nI n) m z y (nI r) = _
      have ei := lp_it (b := fun q => f7_digestOfRoads_b2 1000 (nI r) (nI n) b e l rk (nI n) m z q.1 q.2) 6 1000 (by decide) (fun v y => mx y (rdV n beg en len rkf (MM n len tc ord) (BUSY n (stp len tc)) r v)) (fun v y hv => by
          show f7_digestOfRoads_b2 1000 (nI r) (nI n) b e l rk (nI n) m z y (nI v) = _
          unfold f7_digestOfRoads_b2
          rw [if_neg (show ¬ (5 : Int32) < nI v from nI_nlt (show v ≤ 5 by omega) (by decide)), roadB_s h0 hN hA hD hr (show v ≤ 5 by omega), bnd1_s, mixB, bnd1_s, bd_s, nI_1]) (fun y => by
          show f7_digestOfRoads_b2 1000 (nI r) (nI n) b e l rk (nI n) m z y (nI 6) = _
          unfold f7_digestOfRoads_b2
          rw [if_pos (show (5 : Int32) < nI 6 from nI_lt (show 5 < 6 by decide) (by decide))]) y
      unfold f7_digestOfRoads_b1
      rw [if_neg (nI_ge hr (by omega)), ei, bnd1_s, bd_s, nI_1]) (fun y => by
      show f7_digestOfRoads_b1 1000 (nI n) b e l rk (nI n) m z y (nI n) = _
      unfold f7_digestOfRoads_b1
      rw [if_pos (nI_le (Nat.le_refl n) (by omega))]) h
  unfold f7_digestOfRoads
  rw [e, bnd1_s]
  rfl
theorem d6 {k : Nat} (hk : k < 1000) : nI k / 6 = nI (k / 6) ∧ nI k - nI k / 6 * 6 = nI (k % 6) := ⟨by rw [show (6 : Int32) = nI 6 from rfl, pk_div (by omega) (by decide) (by decide)], by rw [show (6 : Int32) = nI 6 from rfl, pk_rem (by omega) (by decide) (by decide)]⟩
theorem dRoadsM_s (h0 : N0 n beg en len tc) (hN : NH cM n beg en len tc (nI n) mb me ml mc) (hP : Perm n ord rkf) (hA : DA n len tc ord rkf mw mm ro ra) (hD : DM n len tc mk mz) (h : Int64) : lpG (fun z => f8_digest_b1 1000 (nI n) mb me ml ro mw mm mz z.1 z.2) 1000 ((0 : Int32), h) = some (dR n beg en len rkf (MM n len tc ord) (BUSY n (stp len tc)) h) := by
  have hn := h0.1
  obtain ⟨y, e1, e2⟩ := lp_h (em := fun i (x : Int64) => (nI i, x)) (b := fun z => f8_digest_b1 1000 (nI n) mb me ml ro mw mm mz z.1 z.2) (6 * n) 1000 (by omega) id (fun k y => mx y (rdV n beg en len rkf (MM n len tc ord) (BUSY n (stp len tc)) (k / 6) (k % 6))) (fun x => x) (fun k y hk => by
      refine ⟨mx y (rdV n beg en len rkf (MM n len tc ord) (BUSY n (stp len tc)) (k / 6) (k % 6)), ?_, rfl⟩
      show f8_digest_b1 1000 (nI n) mb me ml ro mw mm mz (nI k) y = _
      obtain ⟨s1, s2⟩ := d6 (show k < 1000 by omega)
      unfold f8_digest_b1
      rw [show (6 : Int32) * nI n = nI (6 * n) from pk_mul 6 n, if_neg (nI_ge hk (by omega)), s2, s1, roadM_s h0 hN hP hA hD (show k / 6 < n by omega) (show k % 6 ≤ 5 by omega), bnd1_s, mixM, bnd1_s, bd_s, nI_1]) (fun y => by
      show f8_digest_b1 1000 (nI n) mb me ml ro mw mm mz (nI (6 * n)) y = _
      unfold f8_digest_b1
      rw [show (6 : Int32) * nI n = nI (6 * n) from pk_mul 6 n, if_pos (nI_le (Nat.le_refl _) (by omega))]) h
  have e3 := itr_sq 6 (fun r v y => mx y (rdV n beg en len rkf (MM n len tc ord) (BUSY n (stp len tc)) r v)) (by decide) h n 0 (by decide)
  have e2 : y = itr (fun k y => mx y (rdV n beg en len rkf (MM n len tc ord) (BUSY n (stp len tc)) (k / 6) (k % 6))) h (6 * n) := e2
  rw [Nat.add_zero] at e3
  rw [e2, e3] at e1
  exact e1
/-- a pair of roads -/
def dP (n : Nat) (T W Md : Nat → Nat → Nat) (rkf : Nat → Nat) (r s : Nat) (h : Int64) : Int64 := itr (fun v y => mx y (arV W Md rkf r s v)) (mx (mx (mx (mx h (orN (T r s))) (orN (fw (dU rkf W) n r s))) (orN (fw (dU (fun r => n - 1 - rkf r) W) n r s))) (oI (mt (fun m => fw (dU rkf W) n r m + fw (dU (fun r => n - 1 - rkf r) W) n m s) n).2)) 4
theorem pairB_s (h0 : N0 n beg en len tc) (hP : Perm n ord rkf) (hA : DA n len tc ord rkf w m rk rbr) (hD : DB n beg en len tc ord rkf u d k x z o) {r s : Nat} (hr : r < n) (hs : s < n) (h : Int64) (row : Row) : ∃ row', f7_digestOfPairs_b2 1000 (nI n) (nI r) k u d w m rk h (nI s) row = some (.inl (dP n (fw (scl 1 (stp len tc)) n) (WW n len tc ord) (MM n len tc ord) rkf r s h, nI (s + 1), row')) := by
  have hn := h0.1
  have hb := both_1 hn hr hs
  have hu := hD.1 r s hr hs
  have hd := hD.2.1 r s hr hs
  obtain ⟨y, e1, e2⟩ := lp_h (em := fun i (y : Int64 × Row) => (y.1, nI i, y.2)) (b := fun q => f7_digestOfPairs_b3 1000 (nI r) (nI n) (nI s) w m rk q.1 q.2.1 q.2.2) 4 1000 (by decide) (fun y => y.1) (fun v y => mx y (arV (WW n len tc ord) (MM n len tc ord) rkf r s v)) (fun y => y) (fun v y hv => by
      obtain ⟨row', f1⟩ := arcB_s h0 hP hA hr hs (show v ≤ 3 by omega) y.2 hb
      refine ⟨(mx y.1 (arV (WW n len tc ord) (MM n len tc ord) rkf r s v), row'), ?_, rfl⟩
      show f7_digestOfPairs_b3 1000 (nI r) (nI n) (nI s) w m rk y.1 (nI v) y.2 = _
      unfold f7_digestOfPairs_b3
      rw [if_neg (show ¬ (3 : Int32) < nI v from nI_nlt (show v ≤ 3 by omega) (by decide)), f1, bnd2_s, mixB, bnd1_s, bd_s, nI_1]) (fun y => by
      show f7_digestOfPairs_b3 1000 (nI r) (nI n) (nI s) w m rk y.1 (nI 4) y.2 = _
      unfold f7_digestOfPairs_b3
      rw [if_pos (show (3 : Int32) < nI 4 from nI_lt (show 3 < 4 by decide) (by decide))]) (mx (mx (mx (mx h (orN (fw (scl 1 (stp len tc)) n r s))) (orN (fw (dU rkf (WW n len tc ord)) n r s))) (orN (fw (dU (fun r => n - 1 - rkf r) (WW n len tc ord)) n r s))) (oI (mt (fun m => fw (dU rkf (WW n len tc ord)) n r m + fw (dU (fun r => n - 1 - rkf r) (WW n len tc ord)) n m s) n).2), row)
  obtain ⟨h', row'⟩ := y
  have e2 : h' = dP n (fw (scl 1 (stp len tc)) n) (WW n len tc ord) (MM n len tc ord) rkf r s h := e2
  subst e2
  refine ⟨row', ?_⟩
  unfold f7_digestOfPairs_b2 f7_least f7_up f7_down f7_meet
  have e1 : lpG (fun q => f7_digestOfPairs_b3 1000 (nI r) (nI n) (nI s) w m rk q.1 q.2.1 q.2.2) 1000 (_, (0 : Int32), row) = some (_, row') := e1
  rw [if_neg (nI_ge hs (by omega)), hb, bnd1_s, if_neg i10, leastB_s h0 hD hr hs, bnd1_s, bnd1_s, bnd1_s, mixB, bnd1_s, bnd1_s, if_neg i10, get_s (by omega) (by omega), bnd1_s, hu.1, orNone_s hu.2, bnd1_s, bnd1_s, bnd1_s, mixB, bnd1_s, bnd1_s, if_neg i10, get_s (by omega) (by omega), bnd1_s, hd.1, orNone_s hd.2, bnd1_s, bnd1_s, bnd1_s, mixB, bnd1_s, bnd1_s, if_neg i10, meeting_s (fu := 1000) hn (by omega) hD.1 hD.2.1 hr hs, bnd1_s, bnd1_s, bnd1_s, mixB, bnd1_s, e1, bnd2_s, bd_s, nI_1]
theorem pairM_s (h0 : N0 n beg en len tc) (hP : Perm n ord rkf) (hA : DA n len tc ord rkf mw mm ro ra) (hD : DM n len tc mk mz) {r s : Nat} (hr : r < n) (hs : s < n) (h : Int64) (t : Int32) (wf wt ta ri up : Row) : ∃ t' wf' wt' ta' ri' up', f8_mixPair 1000 (nI r) (nI s) mk h (nI n) ri ra mw up mm ro t wf wt ta = some (t', dP n (fw (scl 1 (stp len tc)) n) (WW n len tc ord) (MM n len tc ord) rkf r s h, wf', wt', ta', ri', up') := by
  have hn := h0.1
  obtain ⟨r1, f1⟩ := risenUp_s h0 hP hA hr hs ri
  obtain ⟨r2, f2⟩ := risenDn_s h0 hP hA hr hs r1
  obtain ⟨r3, up', f3⟩ := meetNow_s (fu := 1000) (a := r2) (up := up) hn (by omega) hP hA.1 hA.2.2.2 hr hs
  obtain ⟨y, e1, e2⟩ := lp_h (em := fun i (y : Int32 × Int64 × Row × Row × Row) => (nI i, y)) (b := fun q => f8_mixPair_b1 1000 (nI r) (nI s) mw mm ro q.1 q.2.1 q.2.2.1 q.2.2.2.1 q.2.2.2.2.1 q.2.2.2.2.2) 4 1000 (by decide) (fun y => y.2.1) (fun v y => mx y (arV (WW n len tc ord) (MM n len tc ord) rkf r s v)) (fun y => y) (fun v y hv => by
      obtain ⟨t', wf', wt', ta', g1⟩ := arcM_s h0 hP hA hr hs (show v ≤ 3 by omega) y.1 y.2.2.1 y.2.2.2.1 y.2.2.2.2
      refine ⟨(t', mx y.2.1 (arV (WW n len tc ord) (MM n len tc ord) rkf r s v), wf', wt', ta'), ?_, rfl⟩
      show f8_mixPair_b1 1000 (nI r) (nI s) mw mm ro (nI v) y.1 y.2.1 y.2.2.1 y.2.2.2.1 y.2.2.2.2 = _
      unfold f8_mixPair_b1
      rw [if_neg (show ¬ (4 : Int32) ≤ nI v from nI_ge hv (by decide)), g1, bnd5_s, mixM, bnd1_s, bd_s, nI_1]) (fun y => by
      show f8_mixPair_b1 1000 (nI r) (nI s) mw mm ro (nI 4) y.1 y.2.1 y.2.2.1 y.2.2.2.1 y.2.2.2.2 = _
      unfold f8_mixPair_b1
      rw [if_pos (show (4 : Int32) ≤ nI 4 from nI_le (Nat.le_refl 4) (by decide))]) (t, mx (mx (mx (mx h (orN (fw (scl 1 (stp len tc)) n r s))) (orN (fw (dU rkf (WW n len tc ord)) n r s))) (orN (fw (dU (fun r => n - 1 - rkf r) (WW n len tc ord)) n r s))) (oI (mt (fun m => fw (dU rkf (WW n len tc ord)) n r m + fw (dU (fun r => n - 1 - rkf r) (WW n len tc ord)) n m s) n).2), wf, wt, ta)
  obtain ⟨t', h', wf', wt', ta'⟩ := y
  have e2 : h' = dP n (fw (scl 1 (stp len tc)) n) (WW n len tc ord) (MM n len tc ord) rkf r s h := e2
  subst e2
  refine ⟨t', wf', wt', ta', r3, up', ?_⟩
  unfold f8_mixPair
  have e1 : lpG (fun q => f8_mixPair_b1 1000 (nI r) (nI s) mw mm ro q.1 q.2.1 q.2.2.1 q.2.2.2.1 q.2.2.2.2.1 q.2.2.2.2.2) 1000 ((0 : Int32), t, _, wf, wt, ta) = some (t', _, wf', wt', ta') := e1
  rw [leastM_s h0 hD hr hs, bnd1_s, mixM, bnd1_s, f1, bnd2_s, mixM, bnd1_s, f2, bnd2_s, mixM, bnd1_s, f3, bnd3_s, mixM, bnd1_s, e1, bnd5_s]
def dPs (n : Nat) (T W Md : Nat → Nat → Nat) (rkf : Nat → Nat) (h : Int64) : Int64 := itr (fun r y => itr (fun s y => dP n T W Md rkf r s y) y n) h n
theorem dPairsB_s (h0 : N0 n beg en len tc) (hP : Perm n ord rkf) (hA : DA n len tc ord rkf w m rk rbr) (hD : DB n beg en len tc ord rkf u d k x z o) (h : Int64) (row : Row) : ∃ row', f7_digestOfPairs 1000 (nI n) k u d w m rk h row = some (dPs n (fw (scl 1 (stp len tc)) n) (WW n len tc ord) (MM n len tc ord) rkf h, row') := by
  have hn := h0.1
  obtain ⟨⟨h', row'⟩, e1, e2⟩ := lp_h (em := fun i (y : Int64 × Row) => (y.1, nI i, y.2)) (b := fun q => f7_digestOfPairs_b1 1000 (nI n) k u d w m rk q.1 q.2.1 q.2.2) n 1000 (by omega) (fun y => y.1) (fun r y => itr (fun s y => dP n (fw (scl 1 (stp len tc)) n) (WW n len tc ord) (MM n len tc ord) rkf r s y) y n) (fun y => y) (fun r y hr => by
      obtain ⟨h1, row1⟩ := y
      obtain ⟨⟨h', row'⟩, f1, f2⟩ := lp_h (em := fun i (y : Int64 × Row) => (y.1, nI i, y.2)) (b := fun q => f7_digestOfPairs_b2 1000 (nI n) (nI r) k u d w m rk q.1 q.2.1 q.2.2) n 1000 (by omega) (fun y => y.1) (fun s y => dP n (fw (scl 1 (stp len tc)) n) (WW n len tc ord) (MM n len tc ord) rkf r s y) (fun y => y) (fun s y hs => by
          obtain ⟨h1, row1⟩ := y
          obtain ⟨row', g1⟩ := pairB_s h0 hP hA hD hr hs h1 row1
          exact ⟨(_, row'), g1, rfl⟩) (fun y => by
          show f7_digestOfPairs_b2 1000 (nI n) (nI r) k u d w m rk y.1 (nI n) y.2 = _
          unfold f7_digestOfPairs_b2
          rw [if_pos (nI_le (Nat.le_refl n) (by omega))]) (h1, row1)
      refine ⟨(h', row'), ?_, f2⟩
      show f7_digestOfPairs_b1 1000 (nI n) k u d w m rk h1 (nI r) row1 = _
      unfold f7_digestOfPairs_b1
      have f1 : lpG (fun q => f7_digestOfPairs_b2 1000 (nI n) (nI r) k u d w m rk q.1 q.2.1 q.2.2) 1000 (h1, (0 : Int32), row1) = some (h', row') := f1
      rw [if_neg (nI_ge hr (by omega)), f1, bnd2_s, bd_s, nI_1]) (fun y => by
      show f7_digestOfPairs_b1 1000 (nI n) k u d w m rk y.1 (nI n) y.2 = _
      unfold f7_digestOfPairs_b1
      rw [if_pos (nI_le (Nat.le_refl n) (by omega))]) (h, row)
  have e2 : h' = dPs n (fw (scl 1 (stp len tc)) n) (WW n len tc ord) (MM n len tc ord) rkf h := e2
  subst e2
  refine ⟨row', ?_⟩
  unfold f7_digestOfPairs
  have e1 : lpG (fun q => f7_digestOfPairs_b1 1000 (nI n) k u d w m rk q.1 q.2.1 q.2.2) 1000 (h, (0 : Int32), row) = some (_, row') := e1
  rw [e1, bnd2_s]
theorem dPairsM_s (h0 : N0 n beg en len tc) (hP : Perm n ord rkf) (hA : DA n len tc ord rkf mw mm ro ra) (hD : DM n len tc mk mz) (h : Int64) (t : Int32) (wf wt ta ri up : Row) : ∃ t' wf' wt' ta' ri' up', lpG (fun z => f8_digest_b2 1000 (nI n) mk ra mw mm ro z.1 z.2.1 z.2.2.1 z.2.2.2.1 z.2.2.2.2.1 z.2.2.2.2.2.1 z.2.2.2.2.2.2.1 z.2.2.2.2.2.2.2) 1000 ((0 : Int32), t, h, wf, wt, ta, ri, up) = some (t', dPs n (fw (scl 1 (stp len tc)) n) (WW n len tc ord) (MM n len tc ord) rkf h, wf', wt', ta', ri', up') := by
  have hn := h0.1
  obtain ⟨⟨t', h', wf', wt', ta', ri', up'⟩, e1, e2⟩ := lp_h (em := fun i (y : Int32 × Int64 × Row × Row × Row × Row × Row) => (nI i, y)) (b := fun z => f8_digest_b2 1000 (nI n) mk ra mw mm ro z.1 z.2.1 z.2.2.1 z.2.2.2.1 z.2.2.2.2.1 z.2.2.2.2.2.1 z.2.2.2.2.2.2.1 z.2.2.2.2.2.2.2) n 1000 (by omega) (fun y => y.2.1) (fun r y => itr (fun s y => dP n (fw (scl 1 (stp len tc)) n) (WW n len tc ord) (MM n len tc ord) rkf r s y) y n) (fun y => y) (fun r y hr => by
      obtain ⟨t, h, wf, wt, ta, ri, up⟩ := y
      obtain ⟨⟨t', h', wf', wt', ta', ri', up'⟩, f1, f2⟩ := lp_h (em := fun i (y : Int32 × Int64 × Row × Row × Row × Row × Row) => (nI i, y)) (b := fun z => f8_digest_b3 1000 (nI n) (nI r) mk ra mw mm ro z.1 z.2.1 z.2.2.1 z.2.2.2.1 z.2.2.2.2.1 z.2.2.2.2.2.1 z.2.2.2.2.2.2.1 z.2.2.2.2.2.2.2) n 1000 (by omega) (fun y => y.2.1) (fun s y => dP n (fw (scl 1 (stp len tc)) n) (WW n len tc ord) (MM n len tc ord) rkf r s y) (fun y => y) (fun s y hs => by
          obtain ⟨t, h, wf, wt, ta, ri, up⟩ := y
          obtain ⟨t', wf', wt', ta', ri', up', g1⟩ := pairM_s h0 hP hA hD hr hs h t wf wt ta ri up
          refine ⟨(t', dP n (fw (scl 1 (stp len tc)) n) (WW n len tc ord) (MM n len tc ord) rkf r s h, wf', wt', ta', ri', up'), ?_, rfl⟩
          show f8_digest_b3 1000 (nI n) (nI r) mk ra mw mm ro (nI s) t h wf wt ta ri up = _
          unfold f8_digest_b3
          rw [if_neg (nI_ge hs (by omega)), g1, bnd7_s, bd_s, nI_1]) (fun y => by
          obtain ⟨t, h, wf, wt, ta, ri, up⟩ := y
          show f8_digest_b3 1000 (nI n) (nI r) mk ra mw mm ro (nI n) t h wf wt ta ri up = _
          unfold f8_digest_b3
          rw [if_pos (nI_le (Nat.le_refl n) (by omega))]) (t, h, wf, wt, ta, ri, up)
      refine ⟨(t', h', wf', wt', ta', ri', up'), ?_, f2⟩
      show f8_digest_b2 1000 (nI n) mk ra mw mm ro (nI r) t h wf wt ta ri up = _
      unfold f8_digest_b2
      have f1 : lpG (fun z => f8_digest_b3 1000 (nI n) (nI r) mk ra mw mm ro z.1 z.2.1 z.2.2.1 z.2.2.2.1 z.2.2.2.2.1 z.2.2.2.2.2.1 z.2.2.2.2.2.2.1 z.2.2.2.2.2.2.2) 1000 ((0 : Int32), t, h, wf, wt, ta, ri, up) = some (t', h', wf', wt', ta', ri', up') := f1
      rw [if_neg (nI_ge hr (by omega)), f1, bnd7_s, bd_s, nI_1]) (fun y => by
      obtain ⟨t, h, wf, wt, ta, ri, up⟩ := y
      show f8_digest_b2 1000 (nI n) mk ra mw mm ro (nI n) t h wf wt ta ri up = _
      unfold f8_digest_b2
      rw [if_pos (nI_le (Nat.le_refl n) (by omega))]) (t, h, wf, wt, ta, ri, up)
  have e2 : h' = dPs n (fw (scl 1 (stp len tc)) n) (WW n len tc ord) (MM n len tc ord) rkf h := e2
  subst e2
  exact ⟨t', wf', wt', ta', ri', up', e1⟩
end DIG
