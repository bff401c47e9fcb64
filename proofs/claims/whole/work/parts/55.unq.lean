/-! the reference's waiting arcs -/
def stk (Md : Nat → Nat → Nat) (a b : Nat → Nat) : Nat → List Nat
  | 0 => []
  | w + 1 => upl Md (a w) (b w) ++ stk Md a b w
theorem stk_congr (Md : Nat → Nat → Nat) (a b a' b' : Nat → Nat) : ∀ (w : Nat), (∀ i, i < w → a' i = a i ∧ b' i = b i) → stk Md a' b' w = stk Md a b w
  | 0, _ => rfl
  | w + 1, h => by
    show upl Md (a' w) (b' w) ++ stk Md a' b' w = upl Md (a w) (b w) ++ stk Md a b w
    rw [(h w (by omega)).1, (h w (by omega)).2, stk_congr Md a b a' b' w (fun i hi => h i (by omega))]
theorem stk_len {n : Nat} {S W Md rho : Nat → Nat → Nat} (hn : n ≤ 12) (h : UH n S W Md rho) (a b : Nat → Nat) : ∀ (w : Nat), (∀ i, i < w → a i < n ∧ b i < n ∧ W (a i) (b i) < FA) → w ≤ (stk Md a b w).length
  | 0, _ => Nat.zero_le _
  | w + 1, h1 => by
    show w + 1 ≤ (upl Md (a w) (b w) ++ stk Md a b w).length
    rw [List.length_append]
    have c := h1 w (by omega)
    have d := (upl_ok hn h _ (a w) (b w) (Nat.le_refl _) c.1 c.2.1 c.2.2).2.2.2
    have e := stk_len hn h a b w (fun i hi => h1 i (by omega))
    omega
def QW (n : Nat) (W Md : Nat → Nat → Nat) (P : List Nat) (w t : Nat) (wf wt ta : Nat → Int32) : Prop := ∃ a b : Nat → Nat, (∀ i, i < w → wf i = nI (a i) ∧ wt i = nI (b i)) ∧ (∀ i, i < w → a i < n ∧ b i < n ∧ W (a i) (b i) < FA) ∧ t ≤ P.length ∧ (∀ i, i < t → ta i = nI (P.getD i 0)) ∧ P.drop t = stk Md a b w
theorem layUnpacked_s {n fu u x : Nat} {S W Md rho : Nat → Nat → Nat} {wf wt ta md : Nat → Int32} (hn : n ≤ 12) (hfu : 50 < fu) (hS : Stp1 n S) (h : UH n S W Md rho) (hm : RpO n md Md) (hM : ∀ u x, u < n → x < n → Md u x = 99 ∨ Md u x < n) (hu : u < n) (hx : x < n) (hw : W u x < FA) : ∃ wf' wt' ta', f8_layUnpacked fu ta (nI u) wf wt (nI x) md = some (nI (1 + (upl Md u x).length), wf', wt', ta') ∧ ∀ i, i < 1 + (upl Md u x).length → ta' i = nI ((u :: upl Md u x).getD i 0) := by
  have hlen := upl_len hn hS h u x hu hx hw
  have hlen1 := (upl_ok hn h _ u x (Nat.le_refl _) hu hx hw).2.2.2
  generalize hP : u :: upl Md u x = P
  have hPl : P.length = 1 + (upl Md u x).length := by rw [← hP, List.length_cons]; omega
  rw [← hPl]
  have key := lp_m (b := fun z => f8_layUnpacked_b1 md z.1 z.2.1 z.2.2.1 z.2.2.2.1 z.2.2.2.2) (fun k z => ∃ w t, z.1 = nI w ∧ z.2.1 = nI t ∧ k + w = 2 * (P.length - t) ∧ QW n W Md P w t z.2.2.1 z.2.2.2.1 z.2.2.2.2) (fun y => y.1 = nI P.length ∧ ∀ i, i < P.length → y.2.2.2 i = nI (P.getD i 0)) (fun k z hI => ?_) (fun z hI => ?_) (2 * (P.length - 1) - 1) fu (nI 1, nI 1, upd wf 0 (nI u), upd wt 0 (nI x), upd ta 0 (nI u)) (by omega) ?_
  · obtain ⟨⟨o, wf', wt', ta'⟩, e1, e2, e3⟩ := key
    dsimp only at e2 e3
    subst e2
    refine ⟨wf', wt', ta', ?_, e3⟩
    unfold f8_layUnpacked
    have e1 : lpG (fun z => f8_layUnpacked_b1 md z.1 z.2.1 z.2.2.1 z.2.2.2.1 z.2.2.2.2) fu ((1 : Int32), (1 : Int32), upd wf (0 : Int32).toNatClampNeg (nI u), upd wt (0 : Int32).toNatClampNeg (nI x), upd ta (0 : Int32).toNatClampNeg (nI u)) = some (nI P.length, wf', wt', ta') := e1
    rw [ck0 (by decide), bd_s, ck0 (by decide), bd_s, ck0 (by decide), bd_s, e1, bnd4_s]
  · obtain ⟨w', t', wf, wt, ta⟩ := z
    obtain ⟨w, t, i1, i2, i3, a, b, r1, r2, r3, r4, r5⟩ := hI
    dsimp only at i1 i2 r1 r4
    subst i1
    subst i2
    have hsl := stk_len hn h a b w r2
    have hl0 := congrArg List.length r5
    rw [List.length_drop] at hl0
    rcases Nat.eq_zero_or_pos w with hw0 | hw0
    · right
      subst hw0
      have r5 : P.drop t = [] := r5
      have hl : P.length ≤ t := List.drop_eq_nil_iff.mp r5
      refine ⟨(nI t, wf, wt, ta), ?_, by rw [show t = P.length by omega], fun i hi => r4 i (by omega)⟩
      show f8_layUnpacked_b1 md (nI 0) (nI t) wf wt ta = _
      unfold f8_layUnpacked_b1
      rw [if_pos (show nI 0 ≤ (0 : Int32) from nI_le (Nat.le_refl 0) (by decide))]
    · obtain ⟨v, rfl⟩ : ∃ v, w = v + 1 := ⟨w - 1, by omega⟩
      left
      have c1 := r1 v (by omega)
      obtain ⟨c2, c3, c4⟩ := r2 v (by omega)
      have r5 : P.drop t = upl Md (a v) (b v) ++ stk Md a b v := r5
      rcases hM (a v) (b v) c2 c3 with hmd | hmd
      · rw [upl_1 hmd] at r5
        have r5 : P.drop t = b v :: stk Md a b v := r5
        have hl1 := congrArg List.length r5
        rw [List.length_drop, List.length_cons] at hl1
        refine ⟨(nI v, nI (t + 1), wf, wt, upd ta t (nI (b v))), ?_, v, t + 1, rfl, rfl, by omega, a, b, fun i hi => r1 i (by omega), fun i hi => r2 i (by omega), by omega, fun i hi => ?_, ?_⟩
        · show f8_layUnpacked_b1 md (nI (v + 1)) (nI t) wf wt ta = _
          unfold f8_layUnpacked_b1
          rw [if_neg (nI_nle (by omega) (by omega)), pk_m1, bd_s, ckN (by omega), clN (by omega), bd_s, ckN (by omega), bd_s, c1.1, c1.2, nx_m, nI_add, ckN (by omega), clN (by omega), bd_s, hm _ _ c2 c3, hmd, oI_none (by decide), if_pos rfl, ckN (by omega), clN (by omega), bd_s, bd_s, nI_1, bnd5_s]
        · dsimp only
          rw [upds]
          by_cases e : i = t
          · rw [if_pos e, e]
            have e2 := congrArg (fun l => List.getD l 0 0) r5
            rw [List.getD_eq_getElem?_getD, List.getElem?_drop] at e2
            rw [List.getD_eq_getElem?_getD]
            have e2 : P[t]?.getD 0 = b v := e2
            rw [e2]
          · rw [if_neg e]; exact r4 i (by omega)
        · have e2 := congrArg (List.drop 1) r5
          rw [List.drop_drop] at e2
          exact e2
      · obtain ⟨_, z | ⟨z1, z2, z3, z4, z5, z6, z7⟩⟩ := h (a v) (b v) c2 c3 c4
        · omega
        rw [upl_2 hn h c2 c3 c4 (by omega)] at r5
        have hl1 := congrArg List.length r5
        rw [List.length_drop, List.length_append, List.length_append] at hl1
        have hla := (upl_ok hn h _ (a v) _ (Nat.le_refl _) c2 z1 z2).2.2.2
        have hlb := (upl_ok hn h _ _ (b v) (Nat.le_refl _) z1 c3 z3).2.2.2
        have hsl2 := stk_len hn h a b v (fun i hi => r2 i (by omega))
        refine ⟨(nI (v + 2), nI t, upd (upd wf v (nI (Md (a v) (b v)))) (v + 1) (nI (a v)), upd (upd wt v (nI (b v))) (v + 1) (nI (Md (a v) (b v))), ta), ?_, v + 2, t, rfl, rfl, by omega, fun i => if i = v + 1 then a v else if i = v then Md (a v) (b v) else a i, fun i => if i = v + 1 then Md (a v) (b v) else if i = v then b v else b i, fun i hi => ?_, fun i hi => ?_, r3, r4, ?_⟩
        · show f8_layUnpacked_b1 md (nI (v + 1)) (nI t) wf wt ta = _
          unfold f8_layUnpacked_b1
          have hne : ¬ nI (Md (a v) (b v)) = -1 := nI_ne_m1 (by omega)
          rw [if_neg (nI_nle (by omega) (by omega)), pk_m1, bd_s, ckN (by omega), clN (by omega), bd_s, ckN (by omega), bd_s, c1.1, c1.2, nx_m, nI_add, ckN (by omega), clN (by omega), bd_s, hm _ _ c2 c3, oI_lt (by omega), if_neg hne, ckN (by omega), bd_s, ckN (by omega), bd_s, nI_1, ckN (by omega), clN (by omega), bd_s, ckN (by omega), bd_s, show nI v + 2 = nI (v + 2) from nI_add v 2, bd_s, bnd5_s]
        · dsimp only
          rw [upds, upds, upds, upds]
          by_cases e : i = v + 1
          · rw [if_pos e, if_pos e, if_pos e, if_pos e]; exact ⟨rfl, rfl⟩
          · rw [if_neg e, if_neg e, if_neg e, if_neg e]
            by_cases e2 : i = v
            · rw [if_pos e2, if_pos e2, if_pos e2, if_pos e2]; exact ⟨rfl, rfl⟩
            · rw [if_neg e2, if_neg e2, if_neg e2, if_neg e2]; exact r1 i (by omega)
        · dsimp only
          by_cases e : i = v + 1
          · rw [if_pos e, if_pos e]; exact ⟨c2, z1, z2⟩
          · rw [if_neg e, if_neg e]
            by_cases e2 : i = v
            · rw [if_pos e2, if_pos e2]; exact ⟨z1, c3, z3⟩
            · rw [if_neg e2, if_neg e2]; exact r2 i (by omega)
        · rw [r5]
          show _ = upl Md _ _ ++ (upl Md _ _ ++ stk Md _ _ v)
          rw [stk_congr Md a b (fun i => if i = v + 1 then a v else if i = v then Md (a v) (b v) else a i) (fun i => if i = v + 1 then Md (a v) (b v) else if i = v then b v else b i) v (fun i hi => by
            rw [if_neg (show ¬ i = v + 1 by omega), if_neg (show ¬ i = v by omega), if_neg (show ¬ i = v + 1 by omega), if_neg (show ¬ i = v by omega)]
            exact ⟨rfl, rfl⟩)]
          dsimp only
          rw [if_pos rfl, if_pos rfl, if_neg (show ¬ v = v + 1 by omega), if_neg (show ¬ v = v + 1 by omega), if_pos rfl, if_pos rfl, List.append_assoc]
  · obtain ⟨w', t', wf, wt, ta⟩ := z
    obtain ⟨w, t, i1, i2, i3, a, b, r1, r2, r3, r4, r5⟩ := hI
    dsimp only at i1 i2 r1 r4
    subst i1
    subst i2
    have hsl := stk_len hn h a b w r2
    have hl0 := congrArg List.length r5
    rw [List.length_drop] at hl0
    have hw0 : w = 0 := by omega
    have ht : t = P.length := by omega
    subst hw0
    refine ⟨(nI t, wf, wt, ta), ?_, by rw [ht], fun i hi => r4 i (by omega)⟩
    show f8_layUnpacked_b1 md (nI 0) (nI t) wf wt ta = _
    unfold f8_layUnpacked_b1
    rw [if_pos (show nI 0 ≤ (0 : Int32) from nI_le (Nat.le_refl 0) (by decide))]
  · refine ⟨1, 1, rfl, rfl, by omega, fun _ => u, fun _ => x, fun i hi => ?_, fun i hi => ⟨hu, hx, hw⟩, by omega, fun i hi => ?_, ?_⟩
    · have e : i = 0 := by omega
      dsimp only
      rw [upds, upds, if_pos e, if_pos e]; exact ⟨rfl, rfl⟩
    · have e : i = 0 := by omega
      dsimp only
      rw [upds, if_pos e, e, ← hP]; rfl
    · rw [← hP]
      show upl Md u x = upl Md u x ++ []
      rw [List.append_nil]
/-- arcs at the end of the ranks -/
theorem UH_of {n : Nat} {S : Nat → Nat → Nat} {ord rkf : Nat → Nat} (hn : n ≤ 12) (hS : Stp2 n S) (hP : Perm n ord rkf) : UH n S (kst n S ord n).1 (kst n S ord n).2.1 (fun u x => if (kst n S ord n).2.1 u x < 12 then rkf ((kst n S ord n).2.1 u x) + 1 else 0) := by
  have hFA := FAe
  obtain ⟨hB, hL, hC, hDd, hE⟩ := CI_all hn hS hP.o n (Nat.le_refl n)
  generalize (kst n S ord n).1 = W at hB hC hDd hE ⊢
  generalize (kst n S ord n).2.1 = Md at hDd hE ⊢
  have hml : ∀ j m, j < n → mlt ord j m → (if m < 12 then rkf m + 1 else 0) ≤ j := fun j m hj h => by
    rcases h with h | ⟨i, hi, h⟩
    · rw [if_neg (by omega)]; exact Nat.zero_le _
    · have a := hP.1 i (by omega)
      rw [h, if_pos (by omega), a.2]
      omega
  intro u x hu hx hw
  dsimp only
  refine ⟨?_, ?_⟩
  · rcases hE u x hu hx with q | q
    · rw [if_neg (by omega)]; exact Nat.zero_le _
    · have := (hP.2 _ q.1).1
      rw [if_pos (by omega)]; omega
  · rcases hDd u x hu hx hw with q | ⟨j, hj, q1, q2, q3, q4, q5, q6, q7, q8⟩
    · exact Or.inl q
    · right
      have a := hP.1 j hj
      have b1 := hml j _ hj q7
      have b2 := hml j _ hj q8
      rw [q1, if_pos (show ord j < 12 by omega), a.2]
      exact ⟨a.1, by omega, by omega, q5, q6, by omega, by omega⟩
