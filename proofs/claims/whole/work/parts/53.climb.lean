/-! ways upward, ways downward, where they meet -/
theorem fw_swap (D : Nat → Nat → Nat) : ∀ (k r s : Nat), fw (fun r s => D s r) k r s = fw D k s r
  | 0, r, s => rfl
  | k + 1, r, s => by
    show fwS k (fw (fun r s => D s r) k) r s = fwS k (fw D k) s r
    unfold fwS
    rw [fw_swap D k r s, fw_swap D k r k, fw_swap D k k s]
    omega
theorem fw_last0 {n : Nat} (D : Nat → Nat → Nat) (h0 : ∀ s, s < n → D s s = 0) (r s : Nat) (hr : r < n) (hs : s < n) (hne : r ≠ s) : ∃ m, m < n ∧ m ≠ s ∧ fw D n r m + D m s = fw D n r s := by
  obtain ⟨m, hm, hms, h⟩ := fw_first0' (fun r s => D s r) h0 s r hs hr (Ne.symm hne)
  refine ⟨m, hm, hms, ?_⟩
  have h1 := fw_swap D n m r
  have h2 := fw_swap D n s r
  have h : D m s + fw (fun r s => D s r) n m r = fw (fun r s => D s r) n s r := h
  omega
def dU (rkf : Nat → Nat) (W : Nat → Nat → Nat) : Nat → Nat → Nat := fun r s => if r = s then 0 else if rkf r < rkf s then W r s else FA
theorem dU_FA {n : Nat} (rkf : Nat → Nat) {W : Nat → Nat → Nat} (hW : ∀ r s, r < n → s < n → W r s ≤ FA) (r s : Nat) (hr : r < n) (hs : s < n) : dU rkf W r s ≤ FA := by
  unfold dU
  split
  · exact Nat.zero_le _
  · split
    · exact hW r s hr hs
    · exact Nat.le_refl _
theorem dU_0 (rkf : Nat → Nat) (W : Nat → Nat → Nat) (s : Nat) : dU rkf W s s = 0 := if_pos rfl
/-- what holds of the risen when the places below k are done -/
def JR (n f k : Nat) (ork : Nat → Nat) (W : Nat → Nat → Nat) (R : Nat → Nat) : Prop := ∀ s, s < n → fw (dU ork W) n f s ≤ R s ∧ (R s ≤ FA ∧ (f = s → R s = 0)) ∧ ∀ m, m < n → ork m < k → m ≠ s → R s ≤ fw (dU ork W) n f m + dU ork W m s
theorem JR_done {n f k : Nat} {ork : Nat → Nat} {W : Nat → Nat → Nat} {R : Nat → Nat} (hW : ∀ r s, r < n → s < n → W r s ≤ FA) (hf : f < n) (h : JR n f k ork W R) (s : Nat) (hs : s < n) (hk : ork s ≤ k) : R s = fw (dU ork W) n f s := by
  have hFA := FAe
  obtain ⟨h1, h2, h3⟩ := h s hs
  by_cases e : f = s
  · have := h2.2 e
    omega
  · obtain ⟨m, hm, hms, h4⟩ := fw_last0 (dU ork W) (fun s _ => dU_0 ork W s) f s hf hs e
    by_cases hmk : ork m < k
    · have := h3 m hm hmk hms
      omega
    · have e2 : dU ork W m s = FA := by
        unfold dU
        rw [if_neg hms, if_neg (by omega)]
      have h5 := dU_FA ork hW f s hf hs
      omega
theorem layRisen_s {n fu f : Nat} {p2 : Int32} {ra w a : Nat → Int32} {W : Nat → Nat → Nat} {o ork e : Nat → Nat} (hn : n ≤ 12) (hfu : n < fu) (hP : Perm n o ork) (hw : Rpb n w W) (hp : ∀ k, k < n → (if p2 = 0 then (some ((nI n - 1) - nI k)) else some (nI k)) = some (nI (e k)) ∧ e k < n ∧ ra (e k) = nI (o k)) (hf : f < n) : ∃ a', f8_layRisen fu (nI n) (nI f) a p2 ra w = some a' ∧ ∀ s, s < n → a' s = nI (fw (dU ork W) n f s) := by
  have hFA := FAe
  have hW : ∀ r s, r < n → s < n → W r s ≤ FA := fun r s hr hs => (hw r s hr hs).2
  have hDF := dU_FA (n := n) ork hW
  obtain ⟨a0, e1, e2⟩ := lp_e (em := fun i (x : Nat → Int32) => (nI i, x)) (b := fun z => f8_layRisen_b1 (nI n) (nI f) z.1 z.2) (N := n) (I := fun i x => ∀ j, j < i → x j = nI (if j = f then 0 else FA)) (Q := fun x => ∀ j, j < n → x j = nI (if j = f then 0 else FA)) (fun i x hi hI => ⟨upd x i (nI (if i = f then 0 else FA)), (by
      show f8_layRisen_b1 (nI n) (nI f) (nI i) x = some (.inl (nI (i + 1), upd x i (nI (if i = f then 0 else FA))))
      unfold f8_layRisen_b1
      rw [if_neg (nI_ge hi (by omega))]
      by_cases q : i = f
      · rw [if_pos (by rw [q]), bnd1_s, ckN (by omega), clN (by omega), bd_s, bd_s, nI_1, if_pos q]; rfl
      · rw [if_neg (fun z => q ((nI_inj (by omega) (by omega)).mp z)), bnd1_s, ckN (by omega), clN (by omega), bd_s, bd_s, nI_1, if_neg q]; rfl), fun j hj => by
      rw [upds]
      by_cases q : j = i
      · rw [if_pos q, q]
      · rw [if_neg q]; exact hI j (by omega)⟩) (fun x hI => ⟨x, (by
      show f8_layRisen_b1 (nI n) (nI f) (nI n) x = _
      unfold f8_layRisen_b1
      rw [if_pos (nI_le (Nat.le_refl n) (by omega))]), hI⟩) n 0 fu a (by omega) hfu (fun j hj => by omega)
  have e1 : lpG (fun z => f8_layRisen_b1 (nI n) (nI f) z.1 z.2) fu ((0 : Int32), a) = some a0 := e1
  have key := lp_e (em := fun i (x : Nat → Int32) => (nI i, x)) (b := fun z => f8_layRisen_b2 fu (nI n) p2 ra w z.1 z.2) (N := n) (I := fun k x => ∃ R, (∀ j, j < n → x j = nI (R j) ∧ R j ≤ FA) ∧ JR n f k ork W R) (Q := fun x => ∀ s, s < n → x s = nI (fw (dU ork W) n f s)) (fun k x hk hI => ?_) (fun x hI => ?_) n 0 fu a0 (by omega) hfu ⟨fun j => if j = f then 0 else if n ≤ j then 0 else FA, fun j hj => ?_, fun s hs => ?_⟩
  · obtain ⟨a', f1, f2⟩ := key
    refine ⟨a', ?_, f2⟩
    unfold f8_layRisen
    have f1 : lpG (fun z => f8_layRisen_b2 fu (nI n) p2 ra w z.1 z.2) fu ((0 : Int32), a0) = some a' := f1
    rw [e1, bnd1_s, f1, bnd1_s]
  · obtain ⟨R, r1, r2⟩ := hI
    obtain ⟨p1, p3⟩ := hP.1 k hk
    have hRk := JR_done hW hf r2 (o k) p1 (by omega)
    obtain ⟨q1, q2, q3⟩ := hp k hk
    have inner := lp_e (em := fun i (x : Nat → Int32) => (nI i, x)) (b := fun z => f8_layRisen_b3 (nI n) p2 ra (nI (o k)) w z.1 z.2) (N := n) (I := fun i x => k < i ∧ ∃ R, (∀ j, j < n → x j = nI (R j) ∧ R j ≤ FA) ∧ JR n f k ork W R ∧ ∀ s, s < n → k < ork s → ork s < i → R s ≤ fw (dU ork W) n f (o k) + dU ork W (o k) s) (Q := fun x => ∃ R, (∀ j, j < n → x j = nI (R j) ∧ R j ≤ FA) ∧ JR n f (k + 1) ork W R) (fun i x hi hI => ?_) (fun x hI => ?_) (n - (k + 1)) (k + 1) fu x (by omega) (by omega) ⟨by omega, R, r1, r2, fun s hs h1 h2 => by omega⟩
    · obtain ⟨y, g1, g2⟩ := inner
      refine ⟨y, ?_, g2⟩
      show f8_layRisen_b2 fu (nI n) p2 ra w (nI k) x = _
      unfold f8_layRisen_b2
      have g1 : lpG (fun z => f8_layRisen_b3 (nI n) p2 ra (nI (o k)) w z.1 z.2) fu (nI (k + 1), x) = some y := g1
      rw [if_neg (nI_ge hk (by omega)), q1, bnd1_s, ckN (by omega), clN (by omega), q3, bd_s, nI_1, bd_s, g1, bnd1_s, bd_s]
    · obtain ⟨hki, R, r1, r2, r3⟩ := hI
      have hRk := JR_done hW hf r2 (o k) p1 (by omega)
      obtain ⟨s1, s3⟩ := hP.1 i hi
      obtain ⟨t1, t2, t3⟩ := hp i hi
      have hne : o k ≠ o i := fun q => by rw [q] at p3; omega
      have hww := hw (o k) (o i) p1 s1
      have hd : dU ork W (o k) (o i) = W (o k) (o i) := by
        unfold dU
        rw [if_neg hne, if_pos (by omega)]
      have c1 := r1 (o k) p1
      have c2 := r1 (o i) s1
      refine ⟨upd x (o i) (nI (min (R (o i)) (R (o k) + W (o k) (o i)))), ?_, by omega, fun j => if j = o i then min (R (o i)) (R (o k) + W (o k) (o i)) else R j, fun j hj => ?_, fun s hs => ?_, fun s hs h1 h2 => ?_⟩
      · show f8_layRisen_b3 (nI n) p2 ra (nI (o k)) w (nI i) x = _
        unfold f8_layRisen_b3
        rw [if_neg (nI_ge hi (by omega)), t1, bnd1_s, ckN (by omega), clN (by omega), t3, bd_s, ckN (by omega), nx_m, nI_add, ckN (by omega), clN (by omega), clN (by omega), c1.1, hww.1, nI_add, bd_s, ckN (by omega), clN (by omega), c2.1]
        by_cases hle : R (o i) ≤ R (o k) + W (o k) (o i)
        · rw [if_pos ((nI_leB (by omega) (by omega)).mpr hle), ckN (by omega), bnd1_s, ckN (by omega), bd_s, bd_s, nI_1, show min (R (o i)) (R (o k) + W (o k) (o i)) = R (o i) by omega]
        · rw [if_neg (fun q => hle ((nI_leB (by omega) (by omega)).mp q)), bnd1_s, ckN (by omega), bd_s, bd_s, nI_1, show min (R (o i)) (R (o k) + W (o k) (o i)) = R (o k) + W (o k) (o i) by omega]
      · dsimp only
        rw [upds]
        by_cases q : j = o i
        · rw [if_pos q, if_pos q]; exact ⟨rfl, by omega⟩
        · rw [if_neg q, if_neg q]; exact r1 j hj
      · dsimp only
        by_cases q : s = o i
        · rw [if_pos q, q]
          obtain ⟨u1, u2, u3⟩ := r2 (o i) s1
          have tri := fw_tri (dU ork W) n (o k) f (o i) p1
          have le1 := fw_le (dU ork W) n (o k) (o i)
          refine ⟨by omega, ⟨by omega, fun q => by have := u2.2 q; omega⟩, fun m hm hmk hms => ?_⟩
          have := u3 m hm hmk hms
          omega
        · rw [if_neg q]; exact r2 s hs
      · dsimp only
        by_cases q : s = o i
        · rw [if_pos q, q]
          omega
        · rw [if_neg q]
          refine r3 s hs h1 ?_
          have := (hP.2 s hs).2
          by_cases q2 : ork s = i
          · rw [q2] at this; exact absurd this.symm q
          · omega
    · obtain ⟨hki, R, r1, r2, r3⟩ := hI
      refine ⟨x, ?_, R, r1, fun s hs => ?_⟩
      · show f8_layRisen_b3 (nI n) p2 ra (nI (o k)) w (nI n) x = _
        unfold f8_layRisen_b3
        rw [if_pos (nI_le (Nat.le_refl n) (by omega))]
      · obtain ⟨u1, u2, u3⟩ := r2 s hs
        refine ⟨u1, u2, fun m hm hmk hms => ?_⟩
        by_cases q : ork m < k
        · exact u3 m hm q hms
        · have hm2 : m = o k := by
            have := (hP.2 m hm).2
            rw [show ork m = k by omega] at this
            exact this.symm
          subst hm2
          by_cases q2 : k < ork s
          · exact r3 s hs q2 (hP.2 s hs).1
          · have : dU ork W (o k) s = FA := by
              unfold dU
              rw [if_neg hms, if_neg (by omega)]
            have := (r1 s hs).2
            omega
  · obtain ⟨R, r1, r2⟩ := hI
    refine ⟨x, ?_, fun s hs => ?_⟩
    · show f8_layRisen_b2 fu (nI n) p2 ra w (nI n) x = _
      unfold f8_layRisen_b2
      rw [if_pos (nI_le (Nat.le_refl n) (by omega))]
    · rw [(r1 s hs).1, JR_done hW hf r2 s hs (by have := (hP.2 s hs).1; omega)]
  · dsimp only
    rw [e2 j hj]
    by_cases q : j = f
    · rw [if_pos q, if_pos q]; exact ⟨rfl, by omega⟩
    · rw [if_neg q, if_neg q, if_neg (by omega)]; exact ⟨rfl, by omega⟩
  · dsimp only
    by_cases q : s = f
    · rw [if_pos q, q, fw_diag _ (fun s _ => dU_0 ork W s) f hf]
      exact ⟨Nat.le_refl _, ⟨by omega, fun _ => rfl⟩, fun m hm h => by omega⟩
    · rw [if_neg q, if_neg (by omega)]
      have a1 := fw_le (dU ork W) n f s
      have a2 := hDF f s hf hs
      exact ⟨by omega, ⟨Nat.le_refl _, fun z => absurd z.symm q⟩, fun m hm h => by omega⟩
theorem Perm.rv {n : Nat} {ord rkf : Nat → Nat} (h : Perm n ord rkf) : Perm n (fun k => ord (n - 1 - k)) (fun r => n - 1 - rkf r) := ⟨fun k hk => by
  have a := h.1 (n - 1 - k) (by omega)
  exact ⟨a.1, by show n - 1 - rkf (ord (n - 1 - k)) = k; rw [a.2]; omega⟩, fun r hr => by
  have a := h.2 r hr
  exact ⟨by show n - 1 - rkf r < n; omega, by show ord (n - 1 - (n - 1 - rkf r)) = r; rw [show n - 1 - (n - 1 - rkf r) = rkf r by omega]; exact a.2⟩⟩
theorem nI_m1 {n k : Nat} (h : k < n) : (nI n - 1) - nI k = nI (n - 1 - k) := by
  rw [show nI n - 1 = nI (n - 1) from by rw [show (1 : Int32) = nI 1 from rfl, pk_sub (by omega)], pk_sub (by omega)]
/-- upward and downward, of the reference -/
theorem risenU_s {n fu f : Nat} {ra w a : Nat → Int32} {W : Nat → Nat → Nat} {ord rkf : Nat → Nat} (hn : n ≤ 12) (hfu : n < fu) (hP : Perm n ord rkf) (hw : Rpb n w W) (hr : ∀ j, j < n → ra j = nI (ord j)) (hf : f < n) : ∃ a', f8_layRisen fu (nI n) (nI f) a 1 ra w = some a' ∧ ∀ s, s < n → a' s = nI (fw (dU rkf W) n f s) :=
  layRisen_s hn hfu hP hw (e := fun k => k) (fun k hk => ⟨by rw [if_neg i10], hk, hr k hk⟩) hf
theorem risenD_s {n fu f : Nat} {ra w a : Nat → Int32} {W : Nat → Nat → Nat} {ord rkf : Nat → Nat} (hn : n ≤ 12) (hfu : n < fu) (hP : Perm n ord rkf) (hw : Rpb n w W) (hr : ∀ j, j < n → ra j = nI (ord j)) (hf : f < n) : ∃ a', f8_layRisen fu (nI n) (nI f) a 0 ra w = some a' ∧ ∀ s, s < n → a' s = nI (fw (dU (fun r => n - 1 - rkf r) W) n f s) :=
  layRisen_s hn hfu hP.rv hw (e := fun k => n - 1 - k) (fun k hk => ⟨by rw [if_pos rfl, nI_m1 hk], by omega, hr _ (by omega)⟩) hf
theorem leadsUp_s {n r s : Nat} {rk : Nat → Int32} {rkf : Nat → Nat} (hn : n ≤ 12) (hk : ∀ r, r < n → rk r = nI (rkf r) ∧ rkf r < n) (hr : r < n) (hs : s < n) : f2_leadsUp (nI s) (nI r) rk = some (if rkf r < rkf s then 1 else 0) := by
  have h1 := hk r hr
  have h2 := hk s hs
  unfold f2_leadsUp
  rw [ckN (by omega), ckN (by omega), clN (by omega), clN (by omega), h1.1, h2.1]
  by_cases hc : rkf r < rkf s
  · rw [if_neg (fun q => by rw [nI_leB (by omega) (by omega)] at q; omega), if_pos hc, bnd1_s, ckb1]
  · rw [if_pos (by rw [nI_leB (by omega) (by omega)]; omega), if_neg hc, bnd1_s, ckb0]
theorem measure0_s {n fu : Nat} {w rk u d : Nat → Int32} {W : Nat → Nat → Nat} {ord rkf : Nat → Nat} (hn : n ≤ 12) (hfu : n < fu) (hP : Perm n ord rkf) (hw : Rpb n w W) (hk : ∀ r, r < n → rk r = nI (rkf r)) : ∃ u' d', f0_measure fu (nI n) w rk u d = some (u', d') ∧ Rpb n u' (fw (dU rkf W) n) ∧ Rpb n d' (fw (dU (fun r => n - 1 - rkf r) W) n) := by
  have hFA := FAe
  have hW : ∀ r s, r < n → s < n → W r s ≤ FA := fun r s hr hs => (hw r s hr hs).2
  have hrow : ∀ r u d, r < n → ∃ u' d', f0_measure_b1 fu (nI n) w rk (nI r) u d = some (.inl (nI (r + 1), u', d')) ∧ (∀ r' s', s' < 12 → u' (12 * r' + s') = if r' = r ∧ s' < n then nI (dU rkf W r s') else u (12 * r' + s')) ∧ ∀ r' s', s' < 12 → d' (12 * r' + s') = if r' = r ∧ s' < n then nI (dU (fun r => n - 1 - rkf r) W r s') else d (12 * r' + s') := by
    intro r u d hr
    obtain ⟨u', d', e1, e2, e3⟩ := lp_r2 (b := fun z => f0_measure_b2 (nI n) (nI r) w rk z.1 z.2.1 z.2.2) n fu r hn hfu (fun s => nI (if rkf r < rkf s then W r s else FA)) (fun s => nI (if rkf r < rkf s then FA else W r s)) (fun s a a2 hs => by
        show f0_measure_b2 (nI n) (nI r) w rk (nI s) a a2 = _
        unfold f0_measure_b2
        rw [if_neg (nI_ge hs (by omega)), get_s (by omega) (by omega), bnd1_s, leadsUp_s hn (fun r hr => ⟨hk r hr, (hP.2 r hr).1⟩) hr hs, bnd1_s, (hw r s hr hs).1]
        by_cases hc : rkf r < rkf s
        · rw [if_pos hc, if_neg i10, bnd1_s, set_s (by omega) (by omega), bnd1_s, if_neg i10, bnd1_s, set_s (by omega) (by omega), bnd1_s, bd_s, nI_1, if_pos hc, if_pos hc]
          rfl
        · rw [if_neg hc, if_pos rfl, bnd1_s, set_s (by omega) (by omega), bnd1_s, if_pos rfl, bnd1_s, set_s (by omega) (by omega), bnd1_s, bd_s, nI_1, if_neg hc, if_neg hc]
          rfl) (fun a a2 => by
        show f0_measure_b2 (nI n) (nI r) w rk (nI n) a a2 = _
        unfold f0_measure_b2
        rw [if_pos (nI_le (Nat.le_refl n) (by omega))]) u d
    refine ⟨upd u' (12 * r + r) 0, upd d' (12 * r + r) 0, ?_, fun r' s' hs' => ?_, fun r' s' hs' => ?_⟩
    · unfold f0_measure_b1
      rw [if_neg (nI_ge hr (by omega)), e1, bnd2_s, set_s (by omega) (by omega), bnd1_s, set_s (by omega) (by omega), bnd1_s, bd_s, nI_1]
    · rw [updm (by omega) hs', e2 r' s' hs']
      by_cases q : r' = r ∧ s' = r
      · rw [if_pos q, if_pos (show r' = r ∧ s' < n by omega), q.2, dU_0]; rfl
      · rw [if_neg q]
        by_cases q2 : r' = r ∧ s' < n
        · rw [if_pos q2, if_pos q2]
          unfold dU
          rw [if_neg (show ¬ r = s' from fun z => q ⟨q2.1, z.symm⟩)]
        · rw [if_neg q2, if_neg q2]
    · rw [updm (by omega) hs', e3 r' s' hs']
      by_cases q : r' = r ∧ s' = r
      · rw [if_pos q, if_pos (show r' = r ∧ s' < n by omega), q.2, dU_0]; rfl
      · rw [if_neg q]
        by_cases q2 : r' = r ∧ s' < n
        · rw [if_pos q2, if_pos q2]
          unfold dU
          rw [if_neg (show ¬ r = s' from fun z => q ⟨q2.1, z.symm⟩)]
          have a1 := hP.2 r hr
          have a2 := hP.2 s' q2.2
          have hne : rkf r ≠ rkf s' := fun z => q ⟨q2.1, by rw [z] at a1; omega⟩
          by_cases q3 : rkf r < rkf s'
          · rw [if_pos q3, if_neg (show ¬ n - 1 - rkf r < n - 1 - rkf s' by omega)]
          · rw [if_neg q3, if_pos (show n - 1 - rkf r < n - 1 - rkf s' by omega)]
        · rw [if_neg q2, if_neg q2]
  have key := lp_e (em := fun i (x : (Nat → Int32) × (Nat → Int32)) => (nI i, x)) (b := fun z => f0_measure_b1 fu (nI n) w rk z.1 z.2.1 z.2.2) (N := n) (I := fun r x => (∀ r' s', r' < r → s' < n → x.1 (12 * r' + s') = nI (dU rkf W r' s')) ∧ ∀ r' s', r' < r → s' < n → x.2 (12 * r' + s') = nI (dU (fun r => n - 1 - rkf r) W r' s')) (Q := fun x => (∀ r' s', r' < n → s' < n → x.1 (12 * r' + s') = nI (dU rkf W r' s')) ∧ ∀ r' s', r' < n → s' < n → x.2 (12 * r' + s') = nI (dU (fun r => n - 1 - rkf r) W r' s')) (fun r x hr hI => ?_) (fun x hI => ⟨x, ?_, hI⟩) n 0 fu (u, d) (by omega) hfu ⟨fun r' s' h => by omega, fun r' s' h => by omega⟩
  · obtain ⟨⟨u1, d1⟩, e1, e2, e3⟩ := key
    obtain ⟨u', e4, e5⟩ := shorten_s hn hfu (a := u1) (E := dU rkf W) (fun r s hr hs => ⟨e2 r s hr hs, dU_FA rkf hW r s hr hs⟩)
    obtain ⟨d', e6, e7⟩ := shorten_s hn hfu (a := d1) (E := dU (fun r => n - 1 - rkf r) W) (fun r s hr hs => ⟨e3 r s hr hs, dU_FA _ hW r s hr hs⟩)
    refine ⟨u', d', ?_, e5, e7⟩
    unfold f0_measure
    have e1 : lpG (fun z => f0_measure_b1 fu (nI n) w rk z.1 z.2.1 z.2.2) fu ((0 : Int32), u, d) = some (u1, d1) := e1
    rw [e1, bnd2_s, e4, bnd1_s, e6, bnd1_s]
  · obtain ⟨a', m', f1, f2, f3⟩ := hrow r x.1 x.2 hr
    refine ⟨(a', m'), f1, fun r' s' hr' hs' => ?_, fun r' s' hr' hs' => ?_⟩
    · show a' _ = _
      rw [f2 r' s' (by omega)]
      by_cases e : r' = r
      · rw [if_pos ⟨e, hs'⟩, e]
      · rw [if_neg (fun q => e q.1)]; exact hI.1 r' s' (by omega) hs'
    · show m' _ = _
      rw [f3 r' s' (by omega)]
      by_cases e : r' = r
      · rw [if_pos ⟨e, hs'⟩, e]
      · rw [if_neg (fun q => e q.1)]; exact hI.2 r' s' (by omega) hs'
  · show f0_measure_b1 fu (nI n) w rk (nI n) x.1 x.2 = _
    unfold f0_measure_b1
    rw [if_pos (nI_le (Nat.le_refl n) (by omega))]
/-- where the least sum is, first of all -/
def mt (v : Nat → Nat) : Nat → Nat × Nat
  | 0 => (FA, 99)
  | m + 1 => if v m < (mt v m).1 then (v m, m) else mt v m
theorem mt_le (v : Nat → Nat) : ∀ m, (mt v m).1 ≤ FA
  | 0 => Nat.le_refl _
  | m + 1 => by
    have := mt_le v m
    unfold mt
    split
    · dsimp only; omega
    · exact this
theorem meeting_s {n fu r s : Nat} {u d : Nat → Int32} {U Dn : Nat → Nat → Nat} (hn : n ≤ 12) (hfu : n < fu) (hu : Rpb n u U) (hd : Rpb n d Dn) (hr : r < n) (hs : s < n) : f0_meeting fu (nI n) (nI r) u (nI s) d = some (oI (mt (fun m => U r m + Dn m s) n).2) := by
  have hFA := FAe
  have key := lp_e (em := fun i (x : Int32 × Int32) => (x.1, x.2, nI i)) (b := fun z => f0_meeting_b1 (nI n) (nI r) u (nI s) d z.1 z.2.1 z.2.2) (N := n) (I := fun m x => x = (oI (mt (fun m => U r m + Dn m s) m).2, nI (mt (fun m => U r m + Dn m s) m).1)) (Q := fun x => x = oI (mt (fun m => U r m + Dn m s) n).2) (fun m x hm hI => ?_) (fun x hI => ?_) n 0 fu ((-1 : Int32), (268435456 : Int32)) (by omega) hfu rfl
  · obtain ⟨o, e1, e2⟩ := key
    have e2 : o = oI (mt (fun m => U r m + Dn m s) n).2 := e2
    subst e2
    unfold f0_meeting
    have e1 : lpG (fun z => f0_meeting_b1 (nI n) (nI r) u (nI s) d z.1 z.2.1 z.2.2) fu ((-1 : Int32), (268435456 : Int32), (0 : Int32)) = some (oI (mt (fun m => U r m + Dn m s) n).2) := e1
    rw [e1, bnd1_s]
  · have hI : x = (oI (mt (fun m => U r m + Dn m s) m).2, nI (mt (fun m => U r m + Dn m s) m).1) := hI
    subst hI
    have c1 := hu r m hr hm
    have c2 := hd m s hm hs
    have c3 := mt_le (fun m => U r m + Dn m s) m
    refine ⟨(oI (mt (fun m => U r m + Dn m s) (m + 1)).2, nI (mt (fun m => U r m + Dn m s) (m + 1)).1), ?_, rfl⟩
    show f0_meeting_b1 (nI n) (nI r) u (nI s) d (oI (mt (fun m => U r m + Dn m s) m).2) (nI (mt (fun m => U r m + Dn m s) m).1) (nI m) = some (.inl (oI (mt (fun m => U r m + Dn m s) (m + 1)).2, nI (mt (fun m => U r m + Dn m s) (m + 1)).1, nI (m + 1)))
    unfold f0_meeting_b1
    rw [if_neg (nI_ge hm (by omega)), get_s (by omega) (by omega), bnd1_s, get_s (by omega) (by omega), bnd1_s, c1.1, c2.1, nI_add, bd_s]
    by_cases hc : U r m + Dn m s < (mt (fun m => U r m + Dn m s) m).1
    · have e : mt (fun m => U r m + Dn m s) (m + 1) = (U r m + Dn m s, m) := by
        show (if U r m + Dn m s < (mt (fun m => U r m + Dn m s) m).1 then (U r m + Dn m s, m) else mt (fun m => U r m + Dn m s) m) = _
        rw [if_pos hc]
      rw [if_neg (fun q => by rw [nI_leB (by omega) (by omega)] at q; omega), bnd2_s, bd_s, nI_1, e, oI_lt (by omega)]
    · have e : mt (fun m => U r m + Dn m s) (m + 1) = mt (fun m => U r m + Dn m s) m := by
        show (if U r m + Dn m s < (mt (fun m => U r m + Dn m s) m).1 then (U r m + Dn m s, m) else mt (fun m => U r m + Dn m s) m) = _
        rw [if_neg hc]
      rw [if_pos (by rw [nI_leB (by omega) (by omega)]; omega), bnd2_s, bd_s, nI_1, e]
  · have hI : x = (oI (mt (fun m => U r m + Dn m s) n).2, nI (mt (fun m => U r m + Dn m s) n).1) := hI
    subst hI
    refine ⟨_, ?_, rfl⟩
    show f0_meeting_b1 (nI n) (nI r) u (nI s) d (oI (mt (fun m => U r m + Dn m s) n).2) (nI (mt (fun m => U r m + Dn m s) n).1) (nI n) = _
    unfold f0_meeting_b1
    rw [if_pos (nI_le (Nat.le_refl n) (by omega))]
theorem meetNow_s {n fu r s : Nat} {ra w a up : Nat → Int32} {W : Nat → Nat → Nat} {ord rkf : Nat → Nat} (hn : n ≤ 12) (hfu : n < fu) (hP : Perm n ord rkf) (hw : Rpb n w W) (hra : ∀ j, j < n → ra j = nI (ord j)) (hr : r < n) (hs : s < n) : ∃ a' up', f8_meetNow fu (nI n) (nI r) a ra w up (nI s) = some (oI (mt (fun m => fw (dU rkf W) n r m + fw (dU (fun r => n - 1 - rkf r) W) n m s) n).2, a', up') := by
  have hFA := FAe
  have hW : ∀ r s, r < n → s < n → W r s ≤ FA := fun r s hr hs => (hw r s hr hs).2
  obtain ⟨a1, e1, e2⟩ := risenU_s (a := a) hn hfu hP hw hra hr
  obtain ⟨up', e3, e4⟩ := lp_e (em := fun i (x : Nat → Int32) => (nI i, x)) (b := fun z => f8_meetNow_b1 (nI n) a1 z.1 z.2) (N := n) (I := fun i x => ∀ j, j < i → x j = a1 j) (Q := fun x => ∀ j, j < n → x j = a1 j) (fun i x hi hI => ⟨upd x i (a1 i), (by
      show f8_meetNow_b1 (nI n) a1 (nI i) x = some (.inl (nI (i + 1), upd x i (a1 i)))
      unfold f8_meetNow_b1
      rw [if_neg (nI_ge hi (by omega)), ckN (by omega), ckN (by omega), clN (by omega), bd_s, bd_s, nI_1]), fun j hj => by
      rw [upds]
      by_cases q : j = i
      · rw [if_pos q, q]
      · rw [if_neg q]; exact hI j (by omega)⟩) (fun x hI => ⟨x, (by
      show f8_meetNow_b1 (nI n) a1 (nI n) x = _
      unfold f8_meetNow_b1
      rw [if_pos (nI_le (Nat.le_refl n) (by omega))]), hI⟩) n 0 fu up (by omega) hfu (fun j hj => by omega)
  have e3 : lpG (fun z => f8_meetNow_b1 (nI n) a1 z.1 z.2) fu ((0 : Int32), up) = some up' := e3
  generalize hv : (fun m => fw (dU rkf W) n r m + fw (dU (fun r => n - 1 - rkf r) W) n m s) = v
  have key := lp_e (em := fun i (x : Int32 × Int32 × (Nat → Int32)) => (x.1, x.2.1, nI i, x.2.2)) (b := fun z => f8_meetNow_b2 fu (nI n) ra w (nI s) up' z.1 z.2.1 z.2.2.1 z.2.2.2) (N := n) (I := fun m x => x.1 = oI (mt v m).2 ∧ x.2.1 = nI (mt v m).1) (Q := fun x => x.1 = oI (mt v n).2) (fun m x hm hI => ?_) (fun x hI => ?_) n 0 fu ((-1 : Int32), (268435456 : Int32), a1) (by omega) hfu ⟨rfl, rfl⟩
  · obtain ⟨⟨o, a'⟩, f1, f2⟩ := key
    have f2 : o = oI (mt v n).2 := f2
    subst f2
    refine ⟨a', up', ?_⟩
    unfold f8_meetNow
    have f1 : lpG (fun z => f8_meetNow_b2 fu (nI n) ra w (nI s) up' z.1 z.2.1 z.2.2.1 z.2.2.2) fu ((-1 : Int32), (268435456 : Int32), (0 : Int32), a1) = some (oI (mt v n).2, a') := f1
    rw [e1, bnd1_s, e3, bnd1_s, f1, bnd2_s]
  · obtain ⟨b, sc, a⟩ := x
    obtain ⟨i1, i2⟩ := hI
    dsimp only at i1 i2
    subst i1
    subst i2
    obtain ⟨a', g1, g2⟩ := risenD_s (a := a) hn hfu hP hw hra hm
    have c3 := mt_le v m
    have c1 := fw_le (dU rkf W) n r m
    have c2 := fw_le (dU (fun r => n - 1 - rkf r) W) n m s
    have c4 := dU_FA rkf hW r m hr hm
    have c5 := dU_FA (fun r => n - 1 - rkf r) hW m s hm hs
    have hvm : v m = fw (dU rkf W) n r m + fw (dU (fun r => n - 1 - rkf r) W) n m s := by rw [← hv]
    refine ⟨(oI (mt v (m + 1)).2, nI (mt v (m + 1)).1, a'), ?_, rfl, rfl⟩
    show f8_meetNow_b2 fu (nI n) ra w (nI s) up' (oI (mt v m).2) (nI (mt v m).1) (nI m) a = some (.inl (oI (mt v (m + 1)).2, nI (mt v (m + 1)).1, nI (m + 1), a'))
    unfold f8_meetNow_b2
    rw [if_neg (nI_ge hm (by omega)), g1, bnd1_s, ckN (by omega), ckN (by omega), clN (by omega), clN (by omega), e4 m hm, e2 m hm, g2 s hs, nI_add, ← hvm, bd_s]
    by_cases hc : v m < (mt v m).1
    · have e : mt v (m + 1) = (v m, m) := by
        show (if v m < (mt v m).1 then (v m, m) else mt v m) = _
        rw [if_pos hc]
      rw [if_neg (fun q => by rw [nI_leB (by omega) (by omega)] at q; omega), bnd1_s, if_neg (fun q => by rw [nI_leB (by omega) (by omega)] at q; omega), bnd1_s, bd_s, nI_1, e, oI_lt (by omega)]
    · have e : mt v (m + 1) = mt v m := by
        show (if v m < (mt v m).1 then (v m, m) else mt v m) = _
        rw [if_neg hc]
      rw [if_pos (by rw [nI_leB (by omega) (by omega)]; omega), bnd1_s, if_pos (by rw [nI_leB (by omega) (by omega)]; omega), bnd1_s, bd_s, nI_1, e]
  · obtain ⟨b, sc, a⟩ := x
    refine ⟨(b, a), ?_, hI.1⟩
    show f8_meetNow_b2 fu (nI n) ra w (nI s) up' b sc (nI n) a = _
    unfold f8_meetNow_b2
    rw [if_pos (nI_le (Nat.le_refl n) (by omega))]
