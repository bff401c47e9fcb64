/-! all routes; what a shut road does -/
def RpP (a : Nat → Int32) (g : Nat → Nat → Nat) : Prop := ∀ f t, f < 8 → t < 8 → a (8 * f + t) = nI (g f t)
theorem RpP.a {a : Nat → Int32} {g : Nat → Nat → Nat} (h : RpP a g) {j : Nat} (hj : j < 64) : a j = nI (g (j / 8) (j % 8)) := by
  have := h (j / 8) (j % 8) (by omega) (by omega)
  rw [show 8 * (j / 8) + j % 8 = j by omega] at this
  exact this
def cnF (g : Nat → Nat → Nat) (k : Nat) (x : Int32) : Int32 := x + (if g (k / 8) (k % 8) < FA then 1 else 0)
def smF (g : Nat → Nat → Nat) (k : Nat) (x : Int32) : Int32 := x + (if g (k / 8) (k % 8) < FA then nI (g (k / 8) (k % 8)) else 0)
def lsF (g h : Nat → Nat → Nat) (p : Int32) (k : Nat) (x : Int32) : Int32 := if g (k / 8) (k % 8) < FA then x + (if h (k / 8) (k % 8) < FA then nI (h (k / 8) (k % 8)) - nI (g (k / 8) (k % 8)) else p) else x
theorem FA_le {x : Nat} (h : x ≤ FA) : (268435456 : Int32) ≤ nI x ↔ ¬ x < FA := by
  have hFA := FAe
  rw [FA_nI, nI_leB (by omega) (by omega)]
  omega
theorem FA_lt {x : Nat} (h : x ≤ FA) : nI x < (268435456 : Int32) ↔ x < FA := by
  have hFA := FAe
  rw [FA_nI, nI_ltB (by omega) (by omega)]
section LOSS
variable {n : Nat} {S : Nat → Nat → Nat} {beg en len : Nat → Nat} {tc : Nat → Nat → Nat}
theorem rOp_FA (v f t : Nat) : rOp n S beg en len v f t ≤ FA := by
  unfold rOp
  split
  · exact Nat.le_refl _
  · exact mnR_FA _ n
theorem countOpen_s {fu : Nat} {o : Nat → Int32} {g : Nat → Nat → Nat} (hfu : 64 < fu) (ho : RpP o g) (hg : ∀ f t, g f t ≤ FA) : f5_countOpen fu o = some (itr (cnF g) 0 64) := by
  have e := lp_it (b := fun z => f5_countOpen_b1 o z.1 z.2) 64 fu hfu (cnF g) (fun k x hk => by
      show f5_countOpen_b1 o x (nI k) = _
      unfold f5_countOpen_b1 cnF
      rw [if_neg (show ¬ (64 : Int32) ≤ nI k from nI_ge hk (by decide)), ckN hk, clN (by omega), ho.a hk]
      by_cases hc : g (k / 8) (k % 8) < FA
      · rw [if_neg (fun q => (FA_le (hg _ _)).mp q hc), bnd1_s, bd_s, bd_s, nI_1, if_pos hc]
      · rw [if_pos ((FA_le (hg _ _)).mpr hc), bnd1_s, bd_s, bd_s, nI_1, if_neg hc]) (fun x => by
      show f5_countOpen_b1 o x (nI 64) = _
      unfold f5_countOpen_b1
      rw [if_pos (show (64 : Int32) ≤ nI 64 from nI_le (Nat.le_refl 64) (by decide))]) 0
  unfold f5_countOpen
  rw [e, bnd1_s]
theorem sumOpen_s {fu : Nat} {o : Nat → Int32} {g : Nat → Nat → Nat} (hfu : 64 < fu) (ho : RpP o g) (hg : ∀ f t, g f t ≤ FA) : f5_sumOpen fu o = some (itr (smF g) 0 64) := by
  have e := lp_it (b := fun z => f5_sumOpen_b1 o z.1 z.2) 64 fu hfu (smF g) (fun k x hk => by
      show f5_sumOpen_b1 o x (nI k) = _
      unfold f5_sumOpen_b1 smF
      rw [if_neg (show ¬ (64 : Int32) ≤ nI k from nI_ge hk (by decide)), ckN hk, ckN hk, clN (by omega), ho.a hk]
      by_cases hc : g (k / 8) (k % 8) < FA
      · rw [if_neg (fun q => (FA_le (hg _ _)).mp q hc), bnd1_s, bd_s, bd_s, nI_1, if_pos hc]
      · rw [if_pos ((FA_le (hg _ _)).mpr hc), bnd1_s, bd_s, bd_s, nI_1, if_neg hc]) (fun x => by
      show f5_sumOpen_b1 o x (nI 64) = _
      unfold f5_sumOpen_b1
      rw [if_pos (show (64 : Int32) ≤ nI 64 from nI_le (Nat.le_refl 64) (by decide))]) 0
  unfold f5_sumOpen
  rw [e, bnd1_s]
theorem lossWithout_s {fu v : Nat} {c l sk sh b e o : Nat → Int32} {g : Nat → Nat → Nat} {p : Int32} (hn : n ≤ 12) (hfu : 64 < fu) (h : RpC n cB c tc) (hlo : LenOK n len) (hb : Rp1 n b beg) (he : Rp1 n e en) (hl : Rp1 n l len) (hb8 : ∀ r, r < n → beg r < 8 ∧ en r < 8) (ho : RpP o g) (hg : ∀ f t, g f t ≤ FA) (hv : v < n) : ∃ sk' sh', f5_lossWithout fu (nI n) (nI v) c l sk sh b e o p = some (itr (lsF g (rOp n (stp len tc) beg en len v) p) 0 64, sk', sh') := by
  obtain ⟨sk', e1, e2⟩ := fillLeastKeys_s (v := v) (a := sk) hn (show n < fu by omega) h hl hlo
  obtain ⟨sh', e3, e4⟩ := fillWith_s (v := v) (o := sh) hn hfu (stp_1 hlo) hlo hb he hl hb8 e2
  rw [oI_lt (show v < 12 by omega)] at e1 e3
  have e4 : RpP sh' (rOp n (stp len tc) beg en len v) := e4
  have hr := rOp_FA (n := n) (S := stp len tc) (beg := beg) (en := en) (len := len) v
  have ee := lp_it (b := fun z => f5_lossWithout_b1 o sh' p z.1 z.2) 64 fu hfu (lsF g (rOp n (stp len tc) beg en len v) p) (fun k x hk => by
      show f5_lossWithout_b1 o sh' p x (nI k) = _
      unfold f5_lossWithout_b1 lsF
      rw [if_neg (show ¬ (64 : Int32) ≤ nI k from nI_ge hk (by decide)), ckN hk, ckN hk, ckN hk, ckN hk, clN (by omega), ho.a hk, e4.a hk]
      by_cases hc : g (k / 8) (k % 8) < FA
      · rw [if_neg (fun q => (FA_le (hg _ _)).mp q hc), if_pos hc]
        by_cases hd : rOp n (stp len tc) beg en len v (k / 8) (k % 8) < FA
        · rw [if_neg (fun q => (FA_le (hr _ _)).mp q hd), bnd1_s, bd_s, bnd1_s, bd_s, nI_1, if_pos hd]
        · rw [if_pos ((FA_le (hr _ _)).mpr hd), bnd1_s, bd_s, bnd1_s, bd_s, nI_1, if_neg hd]
      · rw [if_pos ((FA_le (hg _ _)).mpr hc), bnd1_s, bd_s, nI_1, if_neg hc]) (fun x => by
      show f5_lossWithout_b1 o sh' p x (nI 64) = _
      unfold f5_lossWithout_b1
      rw [if_pos (show (64 : Int32) ≤ nI 64 from nI_le (Nat.le_refl 64) (by decide))]) 0
  refine ⟨sk', sh', ?_⟩
  unfold f5_lossWithout
  rw [e1, bnd1_s, e3, bnd1_s, ee, bnd1_s]
theorem d8 {k : Nat} (hk : k < 64) : nI k / 8 = nI (k / 8) := by
  rw [show (8 : Int32) = nI 8 from rfl, pk_div (by omega) (by decide) (by decide)]
theorem r8 {k : Nat} (hk : k < 64) : nI k - nI k / 8 * 8 = nI (k % 8) := by
  rw [show (8 : Int32) = nI 8 from rfl, pk_rem (by omega) (by decide) (by decide)]
theorem layRoutes_s {fu : Nat} {c l tr b e ro : Nat → Int32} (hn : n ≤ 12) (hfu : 144 < fu) (h : RpC n cM c tc) (hlo : LenOK n len) (hb : Rp1 n b beg) (he : Rp1 n e en) (hl : Rp1 n l len) (hb8 : ∀ r, r < n → beg r < 8 ∧ en r < 8) : ∃ tr' ro', f8_layRoutes fu (nI n) c l tr b e ro = some (itr (cnF (rOp n (stp len tc) beg en len 99)) 0 64, itr (smF (rOp n (stp len tc) beg en len 99)) 0 64, tr', ro') ∧ RpP ro' (rOp n (stp len tc) beg en len 99) := by
  obtain ⟨tr', e1, e2⟩ := layTried_s (v := 99) (a := tr) hn (show n < fu by omega) h hl hlo
  rw [oI_none (by decide)] at e1
  have hr := rOp_FA (n := n) (S := stp len tc) (beg := beg) (en := en) (len := len) 99
  have key := lp_e (em := fun i (x : Int32 × Int32 × (Nat → Int32)) => (nI i, x)) (b := fun z => f8_layRoutes_b1 fu (nI n) b e l tr' z.1 z.2.1 z.2.2.1 z.2.2.2) (N := 64) (I := fun k x => x.1 = itr (cnF (rOp n (stp len tc) beg en len 99)) 0 k ∧ x.2.1 = itr (smF (rOp n (stp len tc) beg en len 99)) 0 k ∧ ∀ j, j < k → x.2.2 j = nI (rOp n (stp len tc) beg en len 99 (j / 8) (j % 8))) (Q := fun x => x.1 = itr (cnF (rOp n (stp len tc) beg en len 99)) 0 64 ∧ x.2.1 = itr (smF (rOp n (stp len tc) beg en len 99)) 0 64 ∧ ∀ j, j < 64 → x.2.2 j = nI (rOp n (stp len tc) beg en len 99 (j / 8) (j % 8))) (fun k x hk hI => ?_) (fun x hI => ⟨x, ?_, hI⟩) 64 0 fu ((0 : Int32), (0 : Int32), ro) (by omega) (by omega) ⟨rfl, rfl, fun j hj => by omega⟩
  · obtain ⟨⟨x, y, ro'⟩, f1, f2, f3, f4⟩ := key
    dsimp only at f2 f3 f4
    subst f2
    subst f3
    refine ⟨tr', ro', ?_, fun f t hf ht => ?_⟩
    · unfold f8_layRoutes
      have f1 : lpG (fun z => f8_layRoutes_b1 fu (nI n) b e l tr' z.1 z.2.1 z.2.2.1 z.2.2.2) fu ((0 : Int32), (0 : Int32), (0 : Int32), ro) = some (_, _, ro') := f1
      rw [e1, bnd1_s, f1, bnd3_s]
    · rw [f4 (8 * f + t) (by omega), show (8 * f + t) / 8 = f by omega, show (8 * f + t) % 8 = t by omega]
  · obtain ⟨x, y, ro⟩ := x
    obtain ⟨i1, i2, i3⟩ := hI
    dsimp only at i1 i2 i3
    have hval : (if nI k / 8 = nI k - nI k / 8 * 8 then (some (268435456 : Int32)) else bnd1 (f8_routeBy fu (nI n) b (nI k / 8) e (nI k - nI k / 8 * 8) (-1) l tr') fun (r_15 : Int32) => some r_15) = some (nI (rOp n (stp len tc) beg en len 99 (k / 8) (k % 8))) := by
      rw [r8 hk, d8 hk]
      by_cases q : k / 8 = k % 8
      · rw [if_pos (by rw [q])]
        unfold rOp
        rw [if_pos q]
        rfl
      · have er := routeBy_s (v := 99) hn (show n < fu by omega) (stp_1 hlo) hlo hb he hl hb8 e2 (show k / 8 < 8 by omega) (show k % 8 < 8 by omega)
        rw [oI_none (by decide)] at er
        rw [if_neg (fun z => q ((nI_inj (by omega) (by omega)).mp z)), er, bnd1_s]
        unfold rOp
        rw [if_neg q]
    refine ⟨(itr (cnF (rOp n (stp len tc) beg en len 99)) 0 (k + 1), itr (smF (rOp n (stp len tc) beg en len 99)) 0 (k + 1), upd ro k (nI (rOp n (stp len tc) beg en len 99 (k / 8) (k % 8)))), ?_, rfl, rfl, fun j hj => ?_⟩
    · show f8_layRoutes_b1 fu (nI n) b e l tr' (nI k) x y ro = _
      unfold f8_layRoutes_b1
      rw [if_neg (show ¬ (64 : Int32) ≤ nI k from nI_ge hk (by decide)), hval, bnd1_s, ckN hk, bd_s, ckN hk, ckN hk, clN (by omega), upds, if_pos rfl, i1, i2]
      by_cases hc : rOp n (stp len tc) beg en len 99 (k / 8) (k % 8) < FA
      · rw [if_neg (fun q => (FA_le (hr _ _)).mp q hc), bnd1_s, bd_s, ckN hk, if_neg (fun q => (FA_le (hr _ _)).mp q hc), bnd1_s, bd_s, bd_s, nI_1]
        show _ = some (Sum.inl (nI (k + 1), cnF _ k (itr _ 0 k), smF _ k (itr _ 0 k), _))
        unfold cnF smF
        rw [if_pos hc, if_pos hc]
      · rw [if_pos ((FA_le (hr _ _)).mpr hc), bnd1_s, bd_s, ckN hk, if_pos ((FA_le (hr _ _)).mpr hc), bnd1_s, bd_s, bd_s, nI_1]
        show _ = some (Sum.inl (nI (k + 1), cnF _ k (itr _ 0 k), smF _ k (itr _ 0 k), _))
        unfold cnF smF
        rw [if_neg hc, if_neg hc]
    · dsimp only
      rw [upds]
      by_cases q : j = k
      · rw [if_pos q, q]
      · rw [if_neg q]; exact i3 j (by omega)
  · obtain ⟨x, y, ro⟩ := x
    show f8_layRoutes_b1 fu (nI n) b e l tr' (nI 64) x y ro = _
    unfold f8_layRoutes_b1
    rw [if_pos (show (64 : Int32) ≤ nI 64 from nI_le (Nat.le_refl 64) (by decide))]
theorem lossNow_s {fu v : Nat} {c l tr b e ro : Nat → Int32} {p : Int32} (hn : n ≤ 12) (hfu : 144 < fu) (h : RpC n cM c tc) (hlo : LenOK n len) (hb : Rp1 n b beg) (he : Rp1 n e en) (hl : Rp1 n l len) (hb8 : ∀ r, r < n → beg r < 8 ∧ en r < 8) (hv : v < n) : ∃ x y tr' ro', f8_lossNow fu (nI n) c l tr b e ro (nI v) p = some (itr (lsF (rOp n (stp len tc) beg en len 99) (rOp n (stp len tc) beg en len v) p) 0 64, x, y, tr', ro') := by
  obtain ⟨tr1, ro', e1, e2⟩ := layRoutes_s (tr := tr) (ro := ro) hn hfu h hlo hb he hl hb8
  obtain ⟨tr', e3, e4⟩ := layTried_s (v := v) (a := tr1) hn (show n < fu by omega) h hl hlo
  have hg := rOp_FA (n := n) (S := stp len tc) (beg := beg) (en := en) (len := len) 99
  have hr := rOp_FA (n := n) (S := stp len tc) (beg := beg) (en := en) (len := len) v
  have ee := lp_it (b := fun z => f8_lossNow_b1 fu ro' (nI n) b e (nI v) l tr' p z.1 z.2) 64 fu (by omega) (lsF (rOp n (stp len tc) beg en len 99) (rOp n (stp len tc) beg en len v) p) (fun k x hk => by
      show f8_lossNow_b1 fu ro' (nI n) b e (nI v) l tr' p x (nI k) = _
      unfold f8_lossNow_b1 lsF
      rw [if_neg (show ¬ (64 : Int32) ≤ nI k from nI_ge hk (by decide)), ckN hk, clN (by omega), e2.a hk]
      by_cases hc : rOp n (stp len tc) beg en len 99 (k / 8) (k % 8) < FA
      · have hne : k / 8 ≠ k % 8 := fun q => by
          unfold rOp at hc
          rw [if_pos q] at hc
          omega
        have er := routeBy_s (v := v) hn (show n < fu by omega) (stp_1 hlo) hlo hb he hl hb8 e4 (show k / 8 < 8 by omega) (show k % 8 < 8 by omega)
        rw [oI_lt (by omega)] at er
        have eo : RT n (stp len tc) beg en len v (k / 8) (k % 8) = rOp n (stp len tc) beg en len v (k / 8) (k % 8) := by
          unfold rOp
          rw [if_neg hne]
        rw [if_neg (fun q => (FA_le (hg _ _)).mp q hc), r8 hk, d8 hk, er, bnd1_s, eo, if_pos hc]
        by_cases hd : rOp n (stp len tc) beg en len v (k / 8) (k % 8) < FA
        · rw [if_pos ((FA_lt (hr _ _)).mpr hd), ckN hk, bnd1_s, bd_s, bnd1_s, bd_s, nI_1, if_pos hd]
        · rw [if_neg (fun q => hd ((FA_lt (hr _ _)).mp q)), bnd1_s, bd_s, bnd1_s, bd_s, nI_1, if_neg hd]
      · rw [if_pos ((FA_le (hg _ _)).mpr hc), bnd1_s, bd_s, nI_1, if_neg hc]) (fun x => by
      show f8_lossNow_b1 fu ro' (nI n) b e (nI v) l tr' p x (nI 64) = _
      unfold f8_lossNow_b1
      rw [if_pos (show (64 : Int32) ≤ nI 64 from nI_le (Nat.le_refl 64) (by decide))]) 0
  refine ⟨itr (cnF (rOp n (stp len tc) beg en len 99)) 0 64, itr (smF (rOp n (stp len tc) beg en len 99)) 0 64, tr', ro', ?_⟩
  unfold f8_lossNow
  rw [oI_lt (show v < 12 by omega)] at e3
  rw [e1, bnd4_s, e3, bnd1_s, ee, bnd1_s]
theorem routeNow_s {fu f t : Nat} {c l tr b e : Nat → Int32} (hn : n ≤ 12) (hfu : 144 < fu) (h : RpC n cM c tc) (hlo : LenOK n len) (hb : Rp1 n b beg) (he : Rp1 n e en) (hl : Rp1 n l len) (hb8 : ∀ r, r < n → beg r < 8 ∧ en r < 8) (hf : f < 8) (ht : t < 8) (hne : f ≠ t) : ∃ tr', f8_routeNow fu (nI n) c l tr b (nI f) e (nI t) = some (if rOp n (stp len tc) beg en len 99 f t < FA then nI (rOp n (stp len tc) beg en len 99 f t) else -1, tr') := by
  obtain ⟨tr', e1, e2⟩ := layTried_s (v := 99) (a := tr) hn (show n < fu by omega) h hl hlo
  have er := routeBy_s (v := 99) hn (show n < fu by omega) (stp_1 hlo) hlo hb he hl hb8 e2 hf ht
  rw [oI_none (by decide)] at er e1
  have eo : RT n (stp len tc) beg en len 99 f t = rOp n (stp len tc) beg en len 99 f t := by
    unfold rOp
    rw [if_neg hne]
  have hr := rOp_FA (n := n) (S := stp len tc) (beg := beg) (en := en) (len := len) 99 f t
  refine ⟨tr', ?_⟩
  unfold f8_routeNow
  rw [e1, bnd1_s, er, bnd1_s, eo]
  by_cases hd : rOp n (stp len tc) beg en len 99 f t < FA
  · rw [if_pos ((FA_lt hr).mpr hd), bnd1_s, if_pos hd]
  · rw [if_neg (fun q => hd ((FA_lt hr).mp q)), bnd1_s, if_neg hd]
theorem measure5_s {fu : Nat} {o k b e l : Nat → Int32} (hn : n ≤ 12) (hfu : 64 < fu) (hw : Stp1 n S) (hlo : LenOK n len) (hb : Rp1 n b beg) (he : Rp1 n e en) (hl : Rp1 n l len) (hb8 : ∀ r, r < n → beg r < 8 ∧ en r < 8) (hk : Rpb n k (fw (scl 64 S) n)) : ∃ o', f5_measure fu o (nI n) k b e l = some o' ∧ RpP o' (rOp n S beg en len 99) := by
  obtain ⟨o', e3, e4⟩ := fillWith_s (v := 99) (o := o) hn hfu hw hlo hb he hl hb8 (k := k) (fun r s hr hs => by rw [wst99 hn 64 S r s hr hs]; exact hk r s hr hs)
  rw [oI_none (by decide)] at e3
  refine ⟨o', ?_, e4⟩
  unfold f5_measure
  rw [e3, bnd1_s]
end LOSS
