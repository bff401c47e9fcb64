/-! counts -/
theorem lp_c2 {bo : Int32 × Int32 → Option ((Int32 × Int32) ⊕ Int32)} (bi : Nat → Int32 × Int32 → Option ((Int32 × Int32) ⊕ Int32)) (n fu : Nat) (hfu : n < fu) (f : Nat → Nat → Nat) (ho : ∀ r x, r < n → bo (x, nI r) = bnd1 (lpG (bi r) fu (x, (0 : Int32))) fun y => some (.inl (y, nI (r + 1)))) (hoe : ∀ m, bo (nI m, nI n) = some (.inr (nI m))) (hb : ∀ r s m, r < n → s < n → bi r (nI m, nI s) = some (.inl (nI (m + f r s), nI (s + 1)))) (he : ∀ r m, r < n → bi r (nI m, nI n) = some (.inr (nI m))) : lpG bo fu ((0 : Int32), (0 : Int32)) = some (nI (sumN (fun r => sumN (f r) n) n)) := by
  have e := lp_c1 (b := bo) n fu hfu (fun r => sumN (f r) n) (fun r m hr => by
    rw [ho r _ hr, lp_c1 (b := bi r) n fu hfu (f r) (fun s m hs => hb r s m hr hs) (fun m => he r m hr) m, bnd1_s]) hoe 0
  rw [Nat.zero_add] at e
  exact e
theorem sumN_sq (n : Nat) (f : Nat → Nat → Nat) (hn : 0 < n) : ∀ (r s : Nat), s ≤ n → sumN (fun k => f (k / n) (k % n)) (n * r + s) = sumN (fun r => sumN (f r) n) r + sumN (f r) s
  | 0, 0, _ => by rw [Nat.mul_zero]; rfl
  | r + 1, 0, _ => by
    have h := sumN_sq n f hn r n (Nat.le_refl n)
    rw [show n * (r + 1) + 0 = n * r + n by rw [Nat.mul_succ, Nat.add_zero], h, sumN_s]
    rfl
  | r, s + 1, hs => by
    have h := sumN_sq n f hn r s (by omega)
    rw [show n * r + (s + 1) = (n * r + s) + 1 by omega, sumN_s, sumN_s, h]
    rw [Nat.mul_add_div hn, Nat.div_eq_of_lt (show s < n by omega), Nat.mul_add_mod, Nat.mod_eq_of_lt (show s < n by omega), Nat.add_zero, Nat.add_assoc]
theorem lp_sq {b : Int32 × Int32 → Option ((Int32 × Int32) ⊕ Int32)} (n fu : Nat) (hn : n ≤ 12) (hfu : 144 < fu) (f : Nat → Nat → Nat) (hb : ∀ k m, k < n * n → 0 < n → k / n < n → k % n < n → b (nI m, nI k) = some (.inl (nI (m + f (k / n) (k % n)), nI (k + 1)))) (he : ∀ m, b (nI m, nI (n * n)) = some (.inr (nI m))) : lpG b fu ((0 : Int32), (0 : Int32)) = some (nI (sumN (fun r => sumN (f r) n) n)) := by
  have hle : n * n ≤ 12 * 12 := Nat.mul_le_mul hn hn
  have e := lp_c1 (b := b) (n * n) fu (by omega) (fun k => f (k / n) (k % n)) (fun k m hk => by
    have h0 : 0 < n := by
      rcases Nat.eq_zero_or_pos n with q | q
      · subst q; omega
      · exact q
    exact hb k m hk h0 (Nat.div_lt_of_lt_mul hk) (Nat.mod_lt _ h0)) he 0
  rw [Nat.zero_add] at e
  have h2 : sumN (fun k => f (k / n) (k % n)) (n * n) = sumN (fun r => sumN (f r) n) n := by
    rcases Nat.eq_zero_or_pos n with q | q
    · subst q; rfl
    · have := sumN_sq n f q n 0 (Nat.zero_le _)
      rw [Nat.add_zero] at this
      rw [this]
      rfl
  rw [h2] at e
  exact e
theorem sumN_sw (f : Nat → Nat → Nat) (n : Nat) : ∀ (k : Nat), sumN (fun m => sumN (f m) n) k = sumN (fun r => sumN (fun m => f m r) k) n
  | 0 => by
    have : sumN (fun _ => 0) n = 0 * n := sumN_const 0 n
    rw [Nat.zero_mul] at this
    exact this.symm
  | k + 1 => by
    rw [sumN_s, sumN_sw f n k]
    have hadd : ∀ (g h : Nat → Nat) (m : Nat), sumN g m + sumN h m = sumN (fun i => g i + h i) m := fun g h m => by
      induction m with
      | zero => rfl
      | succ m ih => rw [sumN_s, sumN_s, sumN_s, ← ih]; omega
    rw [hadd]
    rfl
theorem sumN_eq (x : Nat) : ∀ (n : Nat), sumN (fun m => if x = m then 1 else 0) n = if x < n then 1 else 0
  | 0 => by rw [if_neg (by omega)]; rfl
  | n + 1 => by
    rw [sumN_s, sumN_eq x n]
    by_cases h1 : x < n
    · rw [if_pos h1, if_neg (by omega), if_pos (by omega)]
    · rw [if_neg h1]
      by_cases h2 : x = n
      · rw [if_pos h2, if_pos (by omega)]
      · rw [if_neg h2, if_neg (by omega)]
theorem t01 {c : Prop} [Decidable c] : (if c then some (1 : Int32) else some 0) = some (nI (if c then 1 else 0)) := by
  by_cases h : c
  · rw [if_pos h, if_pos h]; rfl
  · rw [if_neg h, if_neg h]; rfl
theorem sq_ix {n k : Nat} (hn : n ≤ 12) (h0 : 0 < n) (hk : k < n * n) : nI k / nI n = nI (k / n) ∧ nI k - nI k / nI n * nI n = nI (k % n) ∧ ¬ nI n = 0 := by
  have hle : n * n ≤ 12 * 12 := Nat.mul_le_mul hn hn
  exact ⟨pk_div (by omega) h0 (by omega), pk_rem (by omega) h0 (by omega), nI_ne0 h0 (by omega)⟩
theorem ckz_n {α : Type} {y : Int32} {K : Option α} (h : ¬ y = 0) : ckz y K = K := if_neg h
section CNT
variable {n : Nat} {W Md : Nat → Nat → Nat} {w m : Nat → Int32}
theorem countArcs_s {fu : Nat} (hn : n ≤ 12) (hfu : n < fu) (hw : Rpb n w W) : f2_countArcs fu (nI n) w = some (nI (sumN (fun r => sumN (fun s => if W r s < FA then 1 else 0) n) n)) := by
  have e := lp_c2 (bo := fun z => f2_countArcs_b1 fu (nI n) w z.1 z.2) (fun r => fun z => f2_countArcs_b2 (nI n) (nI r) w z.1 z.2) n fu hfu (fun r s => if W r s < FA then 1 else 0) (fun r x hr => by
      show f2_countArcs_b1 fu (nI n) w x (nI r) = _
      unfold f2_countArcs_b1
      rw [if_neg (nI_ge hr (by omega)), nI_1]
      rfl) (fun x => by
      show f2_countArcs_b1 fu (nI n) w _ (nI n) = _
      unfold f2_countArcs_b1
      rw [if_pos (nI_le (Nat.le_refl n) (by omega))]) (fun r s x hr hs => by
      show f2_countArcs_b2 (nI n) (nI r) w _ (nI s) = _
      unfold f2_countArcs_b2
      rw [if_neg (nI_ge hs (by omega)), hasArc_s hn hw hr hs, bnd1_s, t10, bnd1_s, bd_s, bd_s, nI_add, nI_1]) (fun r x hr => by
      show f2_countArcs_b2 (nI n) (nI r) w _ (nI n) = _
      unfold f2_countArcs_b2
      rw [if_pos (nI_le (Nat.le_refl n) (by omega))])
  unfold f2_countArcs
  rw [e, bnd1_s]
theorem countArcsOver_s {fu v : Nat} (hn : n ≤ 12) (hfu : n < fu) (hm : RpO n m Md) (hv : v < n) : f2_countArcsOver fu (nI n) m (nI v) = some (nI (sumN (fun r => sumN (fun s => if Md r s = v then 1 else 0) n) n)) := by
  have e := lp_c2 (bo := fun z => f2_countArcsOver_b1 fu (nI n) m (nI v) z.1 z.2) (fun r => fun z => f2_countArcsOver_b2 (nI n) (nI r) m (nI v) z.1 z.2) n fu hfu (fun r s => if Md r s = v then 1 else 0) (fun r x hr => by
      show f2_countArcsOver_b1 fu (nI n) m (nI v) x (nI r) = _
      unfold f2_countArcsOver_b1
      rw [if_neg (nI_ge hr (by omega)), nI_1]
      rfl) (fun x => by
      show f2_countArcsOver_b1 fu (nI n) m (nI v) _ (nI n) = _
      unfold f2_countArcsOver_b1
      rw [if_pos (nI_le (Nat.le_refl n) (by omega))]) (fun r s x hr hs => by
      show f2_countArcsOver_b2 (nI n) (nI r) m (nI v) _ (nI s) = _
      unfold f2_countArcsOver_b2
      have hiff : oI (Md r s) = nI v ↔ Md r s = v := ⟨fun q => ((oI_eq (by omega)).mp q.symm).symm, fun q => ((oI_eq (by omega)).mpr q.symm).symm⟩
      rw [if_neg (nI_ge hs (by omega)), get_s (by omega) (by omega), bnd1_s, hm r s hr hs]
      by_cases hc : Md r s = v
      · rw [if_pos (hiff.mpr hc), bnd1_s, bd_s, bd_s, nI_1, nI_1, if_pos hc]
      · rw [if_neg (fun q => hc (hiff.mp q)), bnd1_s, bd_s, bd_s, nI_1, show (0 : Int32) = nI 0 from rfl, nI_add, if_neg hc]) (fun r x hr => by
      show f2_countArcsOver_b2 (nI n) (nI r) m (nI v) _ (nI n) = _
      unfold f2_countArcsOver_b2
      rw [if_pos (nI_le (Nat.le_refl n) (by omega))])
  unfold f2_countArcsOver
  rw [e, bnd1_s]
theorem countShortcuts_s {fu : Nat} (hn : n ≤ 12) (hfu : n < fu) (hm : RpO n m Md) : f2_countShortcuts fu (nI n) m = some (nI (sumN (fun r => sumN (fun s => if Md r s < n then 1 else 0) n) n)) := by
  have e := lp_c1 (b := fun z => f2_countShortcuts_b1 fu (nI n) m z.1 z.2) n fu hfu (fun v => sumN (fun r => sumN (fun s => if Md r s = v then 1 else 0) n) n) (fun v x hv => by
      show f2_countShortcuts_b1 fu (nI n) m _ (nI v) = _
      unfold f2_countShortcuts_b1
      rw [if_neg (nI_ge hv (by omega)), countArcsOver_s hn hfu hm hv, bnd1_s, bd_s, bd_s, nI_add, nI_1]) (fun x => by
      show f2_countShortcuts_b1 fu (nI n) m _ (nI n) = _
      unfold f2_countShortcuts_b1
      rw [if_pos (nI_le (Nat.le_refl n) (by omega))]) 0
  have e2 : sumN (fun v => sumN (fun r => sumN (fun s => if Md r s = v then 1 else 0) n) n) n = sumN (fun r => sumN (fun s => if Md r s < n then 1 else 0) n) n := by
    rw [sumN_sw (fun v r => sumN (fun s => if Md r s = v then 1 else 0) n) n n]
    refine sumN_congr n (fun r hr => ?_)
    rw [sumN_sw (fun v s => if Md r s = v then 1 else 0) n n]
    exact sumN_congr n (fun s hs => sumN_eq (Md r s) n)
  rw [Nat.zero_add, e2] at e
  unfold f2_countShortcuts
  have e : lpG (fun z => f2_countShortcuts_b1 fu (nI n) m z.1 z.2) fu ((0 : Int32), (0 : Int32)) = _ := e
  rw [e, bnd1_s]
theorem middleOf_s {fu v : Nat} (hn : n ≤ 12) (hfu : 144 < fu) (hw : Rpb n w W) (hm : RpO n m Md) (hE : ∀ u x, u < n → x < n → Md u x = 99 ∨ Md u x < n ∧ W u x < FA) (hv : v < n) : f8_middleOf fu (nI n) w m (nI v) = some (nI (sumN (fun r => sumN (fun s => if Md r s = v then 1 else 0) n) n)) := by
  have e := lp_sq (b := fun z => f8_middleOf_b1 (nI n) w m (nI v) z.1 z.2) n fu hn hfu (fun r s => if Md r s = v then 1 else 0) (fun k x hk h0 h1 h2 => by
      show f8_middleOf_b1 (nI n) w m (nI v) _ (nI k) = _
      obtain ⟨s1, s2, s3⟩ := sq_ix hn h0 hk
      have hle : n * n ≤ 12 * 12 := Nat.mul_le_mul hn hn
      have hww := hw (k / n) (k % n) h1 h2
      have hiff : oI (Md (k / n) (k % n)) = nI v ↔ Md (k / n) (k % n) = v := ⟨fun q => ((oI_eq (by omega)).mp q.symm).symm, fun q => ((oI_eq (by omega)).mpr q.symm).symm⟩
      unfold f8_middleOf_b1
      rw [pk_mul, if_neg (nI_ge hk (by omega)), ckz_n s3, ckz_n s3, s2, s1, nx_m, nI_add, bd_s, ckN (show 12 * (k / n) + k % n < 144 by omega), ckN (show 12 * (k / n) + k % n < 144 by omega), clN (by omega), hww.1, hm _ _ h1 h2]
      by_cases hc : Md (k / n) (k % n) = v
      · have : W (k / n) (k % n) < FA := by rcases hE _ _ h1 h2 with q | q <;> omega
        rw [if_neg (fun q => (FA_le hww.2).mp q this), if_pos (hiff.mpr hc), bnd1_s, bd_s, bd_s, nI_1, nI_1, if_pos hc]
      · rw [if_neg (fun q => hc (hiff.mp q)), ite_self, bnd1_s, bd_s, bd_s, nI_1, show (0 : Int32) = nI 0 from rfl, nI_add, if_neg hc]) (fun x => by
      show f8_middleOf_b1 (nI n) w m (nI v) _ (nI (n * n)) = _
      have hle : n * n ≤ 12 * 12 := Nat.mul_le_mul hn hn
      unfold f8_middleOf_b1
      rw [pk_mul, if_pos (nI_le (Nat.le_refl _) (by omega))])
  unfold f8_middleOf
  rw [e, bnd1_s]
theorem arcsAll0_s {fu : Nat} (hn : n ≤ 12) (hfu : 144 < fu) (hw : Rpb n w W) : f8_arcsAll fu (nI n) w 0 m = some (nI (sumN (fun r => sumN (fun s => if W r s < FA then 1 else 0) n) n)) := by
  have e := lp_sq (b := fun z => f8_arcsAll_b1 (nI n) w 0 m z.1 z.2) n fu hn hfu (fun r s => if W r s < FA then 1 else 0) (fun k x hk h0 h1 h2 => by
      show f8_arcsAll_b1 (nI n) w 0 m _ (nI k) = _
      obtain ⟨s1, s2, s3⟩ := sq_ix hn h0 hk
      have hle : n * n ≤ 12 * 12 := Nat.mul_le_mul hn hn
      have hww := hw (k / n) (k % n) h1 h2
      unfold f8_arcsAll_b1 f8_arcsAll_k1
      rw [pk_mul, if_neg (nI_ge hk (by omega)), ckz_n s3, ckz_n s3, s2, s1, nx_m, nI_add, bd_s, ckN (show 12 * (k / n) + k % n < 144 by omega), clN (by omega), hww.1]
      by_cases hc : W (k / n) (k % n) < FA
      · rw [if_neg (fun q => (FA_le hww.2).mp q hc), if_pos rfl, bnd1_s, bd_s, bd_s, nI_1, nI_1, if_pos hc]
      · rw [if_pos ((FA_le hww.2).mpr hc), bnd1_s, bd_s, bd_s, nI_1, show (0 : Int32) = nI 0 from rfl, nI_add, if_neg hc]) (fun x => by
      show f8_arcsAll_b1 (nI n) w 0 m _ (nI (n * n)) = _
      have hle : n * n ≤ 12 * 12 := Nat.mul_le_mul hn hn
      unfold f8_arcsAll_b1
      rw [pk_mul, if_pos (nI_le (Nat.le_refl _) (by omega))])
  unfold f8_arcsAll
  rw [e, bnd1_s]
theorem arcsAll1_s {fu : Nat} (hn : n ≤ 12) (hfu : 144 < fu) (hw : Rpb n w W) (hm : RpO n m Md) (hE : ∀ u x, u < n → x < n → Md u x = 99 ∨ Md u x < n ∧ W u x < FA) : f8_arcsAll fu (nI n) w 1 m = some (nI (sumN (fun r => sumN (fun s => if Md r s < n then 1 else 0) n) n)) := by
  have e := lp_sq (b := fun z => f8_arcsAll_b1 (nI n) w 1 m z.1 z.2) n fu hn hfu (fun r s => if Md r s < n then 1 else 0) (fun k x hk h0 h1 h2 => by
      show f8_arcsAll_b1 (nI n) w 1 m _ (nI k) = _
      obtain ⟨s1, s2, s3⟩ := sq_ix hn h0 hk
      have hle : n * n ≤ 12 * 12 := Nat.mul_le_mul hn hn
      have hww := hw (k / n) (k % n) h1 h2
      unfold f8_arcsAll_b1 f8_arcsAll_k1
      rw [pk_mul, if_neg (nI_ge hk (by omega)), ckz_n s3, ckz_n s3, s2, s1, nx_m, nI_add, bd_s, ckN (show 12 * (k / n) + k % n < 144 by omega), ckN (show 12 * (k / n) + k % n < 144 by omega), clN (by omega), hww.1, hm _ _ h1 h2, if_neg i10]
      rcases hE _ _ h1 h2 with q | q
      · rw [q, oI_none (by decide), if_pos rfl, ite_self, bnd1_s, bd_s, bd_s, nI_1, show (0 : Int32) = nI 0 from rfl, nI_add, if_neg (by omega)]
      · rw [if_neg (fun z => (FA_le hww.2).mp z q.2), oI_lt (by omega), if_neg (nI_ne_m1 (by omega)), bnd1_s, bd_s, bd_s, nI_1, nI_1, if_pos q.1]) (fun x => by
      show f8_arcsAll_b1 (nI n) w 1 m _ (nI (n * n)) = _
      have hle : n * n ≤ 12 * 12 := Nat.mul_le_mul hn hn
      unfold f8_arcsAll_b1
      rw [pk_mul, if_pos (nI_le (Nat.le_refl _) (by omega))])
  unfold f8_arcsAll
  rw [e, bnd1_s]
end CNT
/-! turns -/
def TcOK (n : Nat) (beg en : Nat → Nat) (tc : Nat → Nat → Nat) : Prop := ∀ r s, r < n → s < n → tc r s ≤ 52 ∧ (tc r s = 52 ↔ en r ≠ beg s)
theorem cB_52 {t : Nat} (h : t ≤ 52) : cB t = -6 ↔ t = 52 := by
  unfold cB
  by_cases h1 : t ≤ 50
  · rw [if_pos h1]
    refine ⟨fun q => ?_, fun q => by omega⟩
    have h1 := congrArg Int32.toInt q
    rw [nI_toInt (by omega)] at h1
    have h2 : (-6 : Int32).toInt = -6 := by decide
    omega
  · rw [if_neg h1]
    by_cases h2 : t = 51
    · rw [if_pos h2]; exact ⟨fun q => absurd q (by decide), fun q => by omega⟩
    · rw [if_neg h2]; exact ⟨fun _ => by omega, fun _ => rfl⟩
theorem cB_51 {t : Nat} : cB t = -5 ↔ t = 51 := by
  unfold cB
  by_cases h1 : t ≤ 50
  · rw [if_pos h1]
    refine ⟨fun q => ?_, fun q => by omega⟩
    have h1 := congrArg Int32.toInt q
    rw [nI_toInt (by omega)] at h1
    have h2 : (-5 : Int32).toInt = -5 := by decide
    omega
  · rw [if_neg h1]
    by_cases h2 : t = 51
    · rw [if_pos h2]; exact ⟨fun _ => h2, fun _ => rfl⟩
    · rw [if_neg h2]; exact ⟨fun q => absurd q (by decide), fun q => by omega⟩
theorem cM_51 {t : Nat} : cM t = -5 ↔ t = 51 := by
  unfold cM
  by_cases h1 : t ≤ 50
  · rw [if_pos h1]
    refine ⟨fun q => ?_, fun q => by omega⟩
    have h1 := congrArg Int32.toInt q
    rw [nI_toInt (by omega)] at h1
    have h2 : (-5 : Int32).toInt = -5 := by decide
    omega
  · rw [if_neg h1]
    by_cases h2 : t = 51
    · rw [if_pos h2]; exact ⟨fun _ => h2, fun _ => rfl⟩
    · rw [if_neg h2]; exact ⟨fun q => absurd q (by decide), fun q => by omega⟩
theorem cBM {t : Nat} (h : t ≠ 52) (h2 : t ≤ 52) : cB t = cM t := by
  unfold cB cM
  by_cases h1 : t ≤ 50
  · rw [if_pos h1, if_pos h1]
  · rw [if_neg h1, if_neg h1, if_pos (by omega), if_pos (by omega)]
section TRN
variable {n : Nat} {tc : Nat → Nat → Nat} {beg en : Nat → Nat} {c b e : Nat → Int32}
theorem hasTurn_s {r s : Nat} (hn : n ≤ 12) (h : RpC n cB c tc) (ht : TcOK n beg en tc) (hr : r < n) (hs : s < n) : f3_hasTurn (nI r) (nI s) c = some (if en r = beg s then 1 else 0) := by
  have h1 := ht r s hr hs
  unfold f3_hasTurn
  rw [get_s (by omega) (by omega), bnd1_s, h r s hr hs]
  by_cases q : en r = beg s
  · rw [if_neg (fun z => h1.2.mp ((cB_52 h1.1).mp z) q), if_pos q, bnd1_s, ckb1]
  · rw [if_pos ((cB_52 h1.1).mpr (h1.2.mpr q)), if_neg q, bnd1_s, ckb0]
theorem isTurn_s {r s : Nat} (hn : n ≤ 12) (hb : Rp1 n b beg) (he : Rp1 n e en) (hb8 : ∀ r, r < n → beg r < 8 ∧ en r < 8) (hr : r < n) (hs : s < n) : f8_isTurn (nI r) (nI s) e b = some (if en r = beg s then 1 else 0) := by
  have h1 := hb8 r hr
  have h2 := hb8 s hs
  unfold f8_isTurn
  rw [ckN (by omega), ckN (by omega), clN (by omega), clN (by omega), he r hr, hb s hs]
  by_cases q : en r = beg s
  · rw [if_pos (by rw [q]), if_pos q, bnd1_s, ckb1]
  · rw [if_neg (fun z => q ((nI_inj (by omega) (by omega)).mp z)), if_neg q, bnd1_s, ckb0]
theorem countTurns_s {fu : Nat} (hn : n ≤ 12) (hfu : n < fu) (h : RpC n cB c tc) (ht : TcOK n beg en tc) : f3_countTurns fu (nI n) c = some (nI (sumN (fun r => sumN (fun s => if en r = beg s then 1 else 0) n) n)) := by
  have ee := lp_c2 (bo := fun z => f3_countTurns_b1 fu (nI n) c z.1 z.2) (fun r => fun z => f3_countTurns_b2 (nI n) (nI r) c z.1 z.2) n fu hfu (fun r s => if en r = beg s then 1 else 0) (fun r x hr => by
      show f3_countTurns_b1 fu (nI n) c x (nI r) = _
      unfold f3_countTurns_b1
      rw [if_neg (nI_ge hr (by omega)), nI_1]
      rfl) (fun x => by
      show f3_countTurns_b1 fu (nI n) c _ (nI n) = _
      unfold f3_countTurns_b1
      rw [if_pos (nI_le (Nat.le_refl n) (by omega))]) (fun r s x hr hs => by
      show f3_countTurns_b2 (nI n) (nI r) c _ (nI s) = _
      unfold f3_countTurns_b2
      rw [if_neg (nI_ge hs (by omega)), hasTurn_s hn h ht hr hs, bnd1_s, t10, bnd1_s, bd_s, bd_s, nI_add, nI_1]) (fun r x hr => by
      show f3_countTurns_b2 (nI n) (nI r) c _ (nI n) = _
      unfold f3_countTurns_b2
      rw [if_pos (nI_le (Nat.le_refl n) (by omega))])
  unfold f3_countTurns
  rw [ee, bnd1_s]
theorem countBarred_s {fu : Nat} (hn : n ≤ 12) (hfu : n < fu) (h : RpC n cB c tc) : f3_countBarred fu (nI n) c = some (nI (sumN (fun r => sumN (fun s => if tc r s = 51 then 1 else 0) n) n)) := by
  have ee := lp_c2 (bo := fun z => f3_countBarred_b1 fu (nI n) c z.1 z.2) (fun r => fun z => f3_countBarred_b2 (nI n) (nI r) c z.1 z.2) n fu hfu (fun r s => if tc r s = 51 then 1 else 0) (fun r x hr => by
      show f3_countBarred_b1 fu (nI n) c x (nI r) = _
      unfold f3_countBarred_b1
      rw [if_neg (nI_ge hr (by omega)), nI_1]
      rfl) (fun x => by
      show f3_countBarred_b1 fu (nI n) c _ (nI n) = _
      unfold f3_countBarred_b1
      rw [if_pos (nI_le (Nat.le_refl n) (by omega))]) (fun r s x hr hs => by
      show f3_countBarred_b2 (nI n) (nI r) c _ (nI s) = _
      unfold f3_countBarred_b2
      rw [if_neg (nI_ge hs (by omega)), get_s (by omega) (by omega), bnd1_s, h r s hr hs]
      by_cases q : tc r s = 51
      · rw [if_pos (cB_51.mpr q), bnd1_s, bd_s, bd_s, nI_1, nI_1, if_pos q]
      · rw [if_neg (fun z => q (cB_51.mp z)), bnd1_s, bd_s, bd_s, nI_1, show (0 : Int32) = nI 0 from rfl, nI_add, if_neg q]) (fun r x hr => by
      show f3_countBarred_b2 (nI n) (nI r) c _ (nI n) = _
      unfold f3_countBarred_b2
      rw [if_pos (nI_le (Nat.le_refl n) (by omega))])
  unfold f3_countBarred
  rw [ee, bnd1_s]
theorem turnsAll0_s {fu : Nat} (hn : n ≤ 12) (hfu : 144 < fu) (hb : Rp1 n b beg) (he : Rp1 n e en) (hb8 : ∀ r, r < n → beg r < 8 ∧ en r < 8) : f8_turnsAll fu (nI n) e b 0 c = some (nI (sumN (fun r => sumN (fun s => if en r = beg s then 1 else 0) n) n)) := by
  have ee := lp_sq (b := fun z => f8_turnsAll_b1 (nI n) e b 0 c z.1 z.2) n fu hn hfu (fun r s => if en r = beg s then 1 else 0) (fun k x hk h0 h1 h2 => by
      show f8_turnsAll_b1 (nI n) e b 0 c _ (nI k) = _
      obtain ⟨s1, s2, s3⟩ := sq_ix hn h0 hk
      have hle : n * n ≤ 12 * 12 := Nat.mul_le_mul hn hn
      unfold f8_turnsAll_b1 f8_turnsAll_k1
      rw [pk_mul, if_neg (nI_ge hk (by omega)), ckz_n s3, s1, bd_s, ckz_n s3, ← s1, s2, bd_s, s1, isTurn_s hn hb he hb8 h1 h2, bnd1_s, if_pos rfl, t10, bnd1_s, bd_s, bd_s, nI_add, nI_1]) (fun x => by
      show f8_turnsAll_b1 (nI n) e b 0 c _ (nI (n * n)) = _
      have hle : n * n ≤ 12 * 12 := Nat.mul_le_mul hn hn
      unfold f8_turnsAll_b1
      rw [pk_mul, if_pos (nI_le (Nat.le_refl _) (by omega))])
  unfold f8_turnsAll
  rw [ee, bnd1_s]
theorem turnsAll1_s {fu : Nat} (hn : n ≤ 12) (hfu : 144 < fu) (h : RpC n cM c tc) (ht : TcOK n beg en tc) (hb : Rp1 n b beg) (he : Rp1 n e en) (hb8 : ∀ r, r < n → beg r < 8 ∧ en r < 8) : f8_turnsAll fu (nI n) e b 1 c = some (nI (sumN (fun r => sumN (fun s => if tc r s = 51 then 1 else 0) n) n)) := by
  have ee := lp_sq (b := fun z => f8_turnsAll_b1 (nI n) e b 1 c z.1 z.2) n fu hn hfu (fun r s => if tc r s = 51 then 1 else 0) (fun k x hk h0 h1 h2 => by
      show f8_turnsAll_b1 (nI n) e b 1 c _ (nI k) = _
      obtain ⟨s1, s2, s3⟩ := sq_ix hn h0 hk
      have hle : n * n ≤ 12 * 12 := Nat.mul_le_mul hn hn
      have hT := ht _ _ h1 h2
      unfold f8_turnsAll_b1 f8_turnsAll_k1
      rw [pk_mul, if_neg (nI_ge hk (by omega)), ckz_n s3, s1, bd_s, ckz_n s3, ← s1, s2, bd_s, s1, isTurn_s hn hb he hb8 h1 h2, bnd1_s, if_neg i10, nx_m, nI_add, ckN (show 12 * (k / n) + k % n < 144 by omega), clN (by omega), h _ _ h1 h2]
      by_cases q : tc (k / n) (k % n) = 51
      · have hq : en (k / n) = beg (k % n) := by
          by_cases z : en (k / n) = beg (k % n)
          · exact z
          · have := hT.2.mpr z; omega
        rw [if_pos hq, if_neg i10, if_pos (cM_51.mpr q), bnd1_s, bd_s, bd_s, nI_1, nI_1, if_pos q]
      · rw [if_neg (fun z => q (cM_51.mp z)), ite_self, bnd1_s, bd_s, bd_s, nI_1, show (0 : Int32) = nI 0 from rfl, nI_add, if_neg q]) (fun x => by
      show f8_turnsAll_b1 (nI n) e b 1 c _ (nI (n * n)) = _
      have hle : n * n ≤ 12 * 12 := Nat.mul_le_mul hn hn
      unfold f8_turnsAll_b1
      rw [pk_mul, if_pos (nI_le (Nat.le_refl _) (by omega))])
  unfold f8_turnsAll
  rw [ee, bnd1_s]
end TRN
/-! the busiest -/
def bsy (a : Nat → Int32) : Nat → Nat
  | 0 => 99
  | k + 1 => if bsy a k = 99 then k else if a k ≤ a (bsy a k) then bsy a k else k
theorem bsy_lt (a : Nat → Int32) : ∀ k, k ≤ 12 → (k = 0 ∧ bsy a k = 99) ∨ bsy a k < k
  | 0, _ => Or.inl ⟨rfl, rfl⟩
  | k + 1, hk => by
    right
    unfold bsy
    rcases bsy_lt a k (by omega) with h | h
    · rw [if_pos h.2]; omega
    · rw [if_neg (by omega)]
      split <;> omega
theorem bsy_congr {a b : Nat → Int32} {n : Nat} (hn : n ≤ 12) (h : Eqn n a b) : ∀ k, k ≤ n → bsy a k = bsy b k
  | 0, _ => rfl
  | k + 1, hk => by
    unfold bsy
    rw [bsy_congr hn h k (by omega)]
    rcases bsy_lt b k (by omega) with q | q
    · rw [if_pos q.2, if_pos q.2]
    · have hne : ¬ bsy b k = 99 := by omega
      rw [if_neg hne, if_neg hne, h k (by omega), h (bsy b k) (by omega)]
theorem busiestB_s {n fu : Nat} {a : Nat → Int32} (hn : n ≤ 12) (hfu : n < fu) : f6_busiest fu (nI n) a = some (oI (bsy a n)) := by
  obtain ⟨o, e1, e2⟩ := lp_e (em := fun i (x : Int32) => (x, nI i)) (b := fun z => f6_busiest_b1 (nI n) a z.1 z.2) (N := n) (I := fun k y => y = oI (bsy a k)) (Q := fun y => y = oI (bsy a n)) (fun k y hk hI => by
      have hI : y = oI (bsy a k) := hI
      subst hI
      refine ⟨oI (bsy a (k + 1)), ?_, rfl⟩
      show f6_busiest_b1 (nI n) a (oI (bsy a k)) (nI k) = some (.inl (oI (bsy a (k + 1)), nI (k + 1)))
      unfold f6_busiest_b1
      have ed : bsy a (k + 1) = if bsy a k = 99 then k else if a k ≤ a (bsy a k) then bsy a k else k := rfl
      rw [if_neg (nI_ge hk (by omega)), ed]
      rcases bsy_lt a k (by omega) with q | q
      · rw [q.2, oI_none (by decide), if_pos rfl, bnd1_s, bd_s, nI_1, if_pos rfl, oI_lt (by omega)]
      · have hne : ¬ bsy a k = 99 := by omega
        rw [oI_lt (show bsy a k < 12 by omega), if_neg (nI_ne_m1 (by omega)), ckN (by omega), ckN (by omega), clN (by omega), clN (by omega), if_neg hne]
        by_cases z : a k ≤ a (bsy a k)
        · rw [if_pos z, bnd1_s, bd_s, nI_1, if_pos z, oI_lt (by omega)]
        · rw [if_neg z, bnd1_s, bd_s, nI_1, if_neg z, oI_lt (by omega)]) (fun y hI => ⟨y, by
      show f6_busiest_b1 (nI n) a y (nI n) = _
      unfold f6_busiest_b1
      rw [if_pos (nI_le (Nat.le_refl n) (by omega))], hI⟩) n 0 fu (-1 : Int32) (by omega) hfu rfl
  have e2 : o = oI (bsy a n) := e2
  subst e2
  unfold f6_busiest
  have e1 : lpG (fun z => f6_busiest_b1 (nI n) a z.1 z.2) fu ((-1 : Int32), (0 : Int32)) = some (oI (bsy a n)) := e1
  rw [e1, bnd1_s]
theorem busiestM_s {n fu : Nat} {a : Nat → Int32} (hn : n ≤ 12) (hfu : n < fu) : f8_busiest fu (nI n) a = some (oI (bsy a n)) := busiestB_s hn hfu
theorem mostBusy_s {n fu : Nat} {a : Nat → Int32} (hn : n ≤ 12) (hfu : n < fu) : f6_mostBusy fu (nI n) a = some (if n = 0 then 0 else a (bsy a n)) := by
  unfold f6_mostBusy
  rw [busiestB_s hn hfu, bnd1_s]
  rcases bsy_lt a n hn with q | q
  · rw [q.2, oI_none (by decide), if_pos rfl, bnd1_s, if_pos q.1]
  · rw [oI_lt (by omega), if_neg (nI_ne_m1 (by omega)), ckN (by omega), clN (by omega), bnd1_s, if_neg (by omega)]
