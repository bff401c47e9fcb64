/-! arcs unpacked -/
def unp (Md : Nat → Nat → Nat) : Nat → Nat → Nat → List Nat
  | 0, _, x => [x]
  | f + 1, u, x => if Md u x < 12 then unp Md f u (Md u x) ++ unp Md f (Md u x) x else [x]
def upl (Md : Nat → Nat → Nat) (u x : Nat) : List Nat := unp Md 13 u x
def psum (S : Nat → Nat → Nat) : Nat → List Nat → Nat
  | _, [] => 0
  | u, p :: l => S u p + psum S p l
def lst : Nat → List Nat → Nat
  | u, [] => u
  | _, p :: l => lst p l
theorem psum_app (S : Nat → Nat → Nat) : ∀ (l m : List Nat) (u : Nat), psum S u (l ++ m) = psum S u l + psum S (lst u l) m
  | [], m, u => by show psum S u m = 0 + psum S u m; omega
  | p :: l, m, u => by
    show S u p + psum S p (l ++ m) = S u p + psum S p l + psum S (lst p l) m
    rw [psum_app S l m p]
    omega
theorem lst_app : ∀ (l m : List Nat) (u : Nat), lst u (l ++ m) = lst (lst u l) m
  | [], m, u => rfl
  | p :: l, m, u => lst_app l m p
/-- arcs: steps, or two arcs over a middle that got its rank before -/
def UH (n : Nat) (S W Md rho : Nat → Nat → Nat) : Prop := ∀ u x, u < n → x < n → W u x < FA → rho u x ≤ 12 ∧ (Md u x = 99 ∧ W u x = S u x ∨ (Md u x < n ∧ W u (Md u x) < FA ∧ W (Md u x) x < FA ∧ W u x = W u (Md u x) + W (Md u x) x ∧ W u x = fw (scl 1 S) n u x ∧ rho u (Md u x) < rho u x ∧ rho (Md u x) x < rho u x))
section UN
variable {n : Nat} {S W Md rho : Nat → Nat → Nat}
theorem unp_st (hn : n ≤ 12) (h : UH n S W Md rho) : ∀ (f g u x : Nat), u < n → x < n → W u x < FA → rho u x ≤ f → rho u x ≤ g → unp Md f u x = unp Md g u x
  | 0, 0, u, x, _, _, _, _, _ => rfl
  | 0, g + 1, u, x, hu, hx, hw, h1, h2 => by
    rcases (h u x hu hx hw).2 with q | q
    · show [x] = if Md u x < 12 then _ else [x]
      rw [if_neg (by omega)]
    · omega
  | f + 1, 0, u, x, hu, hx, hw, h1, h2 => by
    rcases (h u x hu hx hw).2 with q | q
    · show (if Md u x < 12 then _ else [x]) = [x]
      rw [if_neg (by omega)]
    · omega
  | f + 1, g + 1, u, x, hu, hx, hw, h1, h2 => by
    show (if Md u x < 12 then unp Md f u (Md u x) ++ unp Md f (Md u x) x else [x]) = if Md u x < 12 then unp Md g u (Md u x) ++ unp Md g (Md u x) x else [x]
    rcases (h u x hu hx hw).2 with q | ⟨q1, q2, q3, q4, q5, q6, q7⟩
    · rw [if_neg (by omega), if_neg (by omega)]
    · rw [if_pos (by omega), if_pos (by omega), unp_st hn h f g u _ hu q1 q2 (by omega) (by omega), unp_st hn h f g _ x q1 hx q3 (by omega) (by omega)]
theorem upl_1 {u x : Nat} (h : Md u x = 99) : upl Md u x = [x] := by
  show (if Md u x < 12 then _ else [x]) = [x]
  rw [if_neg (by omega)]
theorem upl_2 (hn : n ≤ 12) (h : UH n S W Md rho) {u x : Nat} (hu : u < n) (hx : x < n) (hw : W u x < FA) (hm : Md u x ≠ 99) : upl Md u x = upl Md u (Md u x) ++ upl Md (Md u x) x := by
  obtain ⟨q0, q | ⟨q1, q2, q3, q4, q5, q6, q7⟩⟩ := h u x hu hx hw
  · exact absurd q.1 hm
  · show (if Md u x < 12 then unp Md 12 u (Md u x) ++ unp Md 12 (Md u x) x else [x]) = _
    rw [if_pos (by omega), unp_st hn h 12 13 u _ hu q1 q2 (by omega) (by omega), unp_st hn h 12 13 _ x q1 hx q3 (by omega) (by omega)]
    rfl
theorem upl_ok (hn : n ≤ 12) (h : UH n S W Md rho) : ∀ (f u x : Nat), rho u x ≤ f → u < n → x < n → W u x < FA → (∀ p, p ∈ upl Md u x → p < n) ∧ lst u (upl Md u x) = x ∧ psum S u (upl Md u x) = W u x ∧ 1 ≤ (upl Md u x).length
  | 0, u, x, h1, hu, hx, hw => by
    obtain ⟨q0, q | ⟨q1, q2, q3, q4, q5, q6, q7⟩⟩ := h u x hu hx hw
    · rw [upl_1 q.1]
      refine ⟨fun p hp => ?_, rfl, ?_, Nat.le_refl _⟩
      · rw [List.mem_singleton] at hp; omega
      · show S u x + 0 = W u x; omega
    · omega
  | f + 1, u, x, h1, hu, hx, hw => by
    obtain ⟨q0, q | ⟨q1, q2, q3, q4, q5, q6, q7⟩⟩ := h u x hu hx hw
    · rw [upl_1 q.1]
      refine ⟨fun p hp => ?_, rfl, ?_, Nat.le_refl _⟩
      · rw [List.mem_singleton] at hp; omega
      · show S u x + 0 = W u x; omega
    · rw [upl_2 hn h hu hx hw (by omega)]
      obtain ⟨a1, a2, a3, a4⟩ := upl_ok hn h f u (Md u x) (by omega) hu q1 q2
      obtain ⟨b1, b2, b3, b4⟩ := upl_ok hn h f (Md u x) x (by omega) q1 hx q3
      refine ⟨fun p hp => ?_, ?_, ?_, ?_⟩
      · rcases List.mem_append.mp hp with z | z
        · exact a1 p z
        · exact b1 p z
      · rw [lst_app, a2, b2]
      · rw [psum_app, a2, a3, b3]; omega
      · rw [List.length_append]; omega
theorem path_ge (hS : Stp1 n S) (x : Nat) (hx : x < n) : ∀ (l : List Nat) (u : Nat), u < n → (∀ p, p ∈ l → p < n) → lst u l = x → psum S u l < FA → fw (scl 1 S) n u x ≤ psum S u l
  | [], u, hu, _, h2, h3 => by
    have h2 : u = x := h2
    subst h2
    rw [fw_diag _ (fun s _ => scl_diag 1 s) u hu]
    exact Nat.zero_le _
  | p :: l, u, hu, h1, h2, h3 => by
    have hFA := FAe
    have hp : p < n := h1 p (List.mem_cons_self ..)
    have h3 : S u p + psum S p l < FA := h3
    have a := path_ge hS x hx l p hp (fun q hq => h1 q (List.mem_cons_of_mem _ hq)) h2 (by omega)
    have b := fw_tri (scl 1 S) n p u x hp
    have c := fw_le (scl 1 S) n u p
    have d : scl 1 S u p ≤ S u p := by
      unfold scl
      split
      · exact Nat.zero_le _
      · rw [if_pos (by omega), if_pos rfl]; omega
    show _ ≤ S u p + psum S p l
    omega
theorem path_len (hS : Stp1 n S) (x : Nat) (hx : x < n) : ∀ (l : List Nat) (u : Nat), u < n → (∀ p, p ∈ l → p < n) → lst u l = x → psum S u l < FA → psum S u l = fw (scl 1 S) n u x → l.length ≤ cnt (fw (scl 1 S) n) n u x
  | [], u, _, _, _, _, _ => Nat.zero_le _
  | p :: l, u, hu, h1, h2, h3, h4 => by
    have hFA := FAe
    have hp : p < n := h1 p (List.mem_cons_self ..)
    have h3 : S u p + psum S p l < FA := h3
    have h4 : S u p + psum S p l = fw (scl 1 S) n u x := h4
    have a := path_ge hS x hx l p hp (fun q hq => h1 q (List.mem_cons_of_mem _ hq)) h2 (by omega)
    have b := fw_tri (scl 1 S) n p u x hp
    have c := fw_le (scl 1 S) n u p
    have d : scl 1 S u p ≤ S u p := by
      unfold scl
      split
      · exact Nat.zero_le _
      · rw [if_pos (by omega), if_pos rfl]; omega
    have e : 1 ≤ S u p := by rcases hS u p hu hp with z | z <;> omega
    have f := cnt_lt (fw (scl 1 S) n) u x p hp (by omega)
    have g := path_len hS x hx l p hp (fun q hq => h1 q (List.mem_cons_of_mem _ hq)) h2 (by omega) (by omega)
    rw [List.length_cons]
    omega
theorem upl_len (hn : n ≤ 12) (hS : Stp1 n S) (h : UH n S W Md rho) (u x : Nat) (hu : u < n) (hx : x < n) (hw : W u x < FA) : (upl Md u x).length ≤ 11 := by
  obtain ⟨a1, a2, a3, a4⟩ := upl_ok hn h _ u x (Nat.le_refl _) hu hx hw
  obtain ⟨q0, q | ⟨q1, q2, q3, q4, q5, q6, q7⟩⟩ := h u x hu hx hw
  · rw [upl_1 q.1]; show 1 ≤ 11; decide
  · have b := path_len hS x hx _ u hu a1 a2 (by omega) (by omega)
    have c := cnt_le (fw (scl 1 S) n) u x hu
    omega
end UN
/-! the class's row -/
theorem putIntoRow_s {fu F d : Nat} {row : Nat → Int32} {m : Int32} (hF : F < 12) (hd : d + 1 < F) (hfu : 12 < fu) : ∃ row', f2_putIntoRow fu (nI (d + 1)) (nI F) row m = some row' ∧ ∀ j, row' j = if j ≤ d then row j else if j = d + 1 then m else if j ≤ F then row (j - 1) else row j := by
  obtain ⟨r1, e1, e2⟩ := lp_m (b := fun z => f2_putIntoRow_b1 (nI (d + 1)) z.1 z.2) (fun k z => d + 1 + k ≤ F ∧ z.1 = nI (d + 1 + k) ∧ ∀ j, z.2 j = if d + 1 + k < j ∧ j ≤ F then row (j - 1) else row j) (fun y => ∀ j, y j = if d + 1 < j ∧ j ≤ F then row (j - 1) else row j) (fun k z hI => by
      obtain ⟨i, a⟩ := z
      obtain ⟨i1, i2, i3⟩ := hI
      dsimp only at i2 i3
      subst i2
      refine Or.inl ⟨(nI (d + 1 + k), upd a (d + 1 + (k + 1)) (a (d + 1 + k))), ?_, by omega, rfl, fun j => ?_⟩
      · show f2_putIntoRow_b1 (nI (d + 1)) (nI (d + 1 + (k + 1))) a = _
        unfold f2_putIntoRow_b1
        rw [if_neg (nI_ge (by omega) (by omega)), show nI (d + 1 + (k + 1)) - 1 = nI (d + 1 + k) from by rw [show (1 : Int32) = nI 1 from rfl, pk_sub (by omega)]; rfl, ckN (by omega), ckN (by omega), clN (by omega), clN (by omega), bd_s, show nI (d + 1 + (k + 1)) + (-1) = nI (d + 1 + k) from pk_m1 _, bd_s]
      · dsimp only
        rw [upds, i3 j]
        by_cases e : j = d + 1 + (k + 1)
        · rw [if_pos e, i3 (d + 1 + k), if_neg (by omega), if_pos (by omega), e]
          rfl
        · rw [if_neg e]
          by_cases e2 : d + 1 + (k + 1) < j ∧ j ≤ F
          · rw [if_pos e2, if_pos (by omega)]
          · rw [if_neg e2, if_neg (by omega)]) (fun z hI => by
      obtain ⟨i, a⟩ := z
      obtain ⟨i1, i2, i3⟩ := hI
      dsimp only at i2 i3
      subst i2
      refine ⟨a, ?_, i3⟩
      show f2_putIntoRow_b1 (nI (d + 1)) (nI (d + 1 + 0)) a = _
      unfold f2_putIntoRow_b1
      rw [if_pos (nI_le (by omega) (by omega))]) (F - (d + 1)) fu (nI F, row) (by omega) ⟨by omega, (by rw [show d + 1 + (F - (d + 1)) = F by omega]), fun j => by rw [if_neg (by omega)]⟩
  refine ⟨upd r1 (d + 1) m, ?_, fun j => ?_⟩
  · unfold f2_putIntoRow
    rw [e1, bnd1_s, ckN (by omega), clN (by omega), bd_s]
  · rw [upds, e2 j]
    by_cases q1 : j = d + 1
    · rw [if_pos q1, if_neg (by omega), if_pos q1]
    · rw [if_neg q1]
      by_cases q2 : j ≤ d
      · rw [if_neg (by omega), if_pos q2]
      · rw [if_neg q2, if_neg q1]
        by_cases q3 : j ≤ F
        · rw [if_pos (by omega), if_pos q3]
        · rw [if_neg (by omega), if_neg q3]
def exl (Md : Nat → Nat → Nat) (q : Nat → Nat) : Nat → Nat → List Nat
  | _, 0 => []
  | d, k + 1 => upl Md (q d) (q (d + 1)) ++ exl Md q (d + 1) k
theorem exl_congr (Md : Nat → Nat → Nat) (q q' : Nat → Nat) (o : Nat) : ∀ (k d : Nat), (∀ i, d ≤ i → i ≤ d + k → q' (i + o) = q i) → exl Md q' (d + o) k = exl Md q d k
  | 0, d, h => rfl
  | k + 1, d, h => by
    show upl Md (q' (d + o)) (q' (d + o + 1)) ++ exl Md q' (d + o + 1) k = upl Md (q d) (q (d + 1)) ++ exl Md q (d + 1) k
    rw [h d (by omega) (by omega), show d + o + 1 = (d + 1) + o by omega, h (d + 1) (by omega) (by omega), exl_congr Md q q' o k (d + 1) (fun i h1 h2 => h i (by omega) (by omega))]
/-- what holds of the row while it is filled -/
def RW (n : Nat) (W Md : Nat → Nat → Nat) (P : List Nat) (F d : Nat) (row : Nat → Int32) : Prop := ∃ q : Nat → Nat, (∀ i, i < F → row i = nI (q i) ∧ q i < n) ∧ (∀ i, d ≤ i → i + 1 < F → W (q i) (q (i + 1)) < FA) ∧ d < F ∧ F ≤ P.length ∧ (∀ i, i ≤ d → P.getD i 0 = q i) ∧ P.drop (d + 1) = exl Md q d (F - 1 - d)
theorem exl_len {n : Nat} {S W Md rho : Nat → Nat → Nat} (hn : n ≤ 12) (h : UH n S W Md rho) (q : Nat → Nat) : ∀ (k d : Nat), (∀ i, d ≤ i → i ≤ d + k → q i < n) → (∀ i, d ≤ i → i < d + k → W (q i) (q (i + 1)) < FA) → k ≤ (exl Md q d k).length
  | 0, d, _, _ => Nat.zero_le _
  | k + 1, d, h1, h2 => by
    show k + 1 ≤ (upl Md (q d) (q (d + 1)) ++ exl Md q (d + 1) k).length
    rw [List.length_append]
    have a := (upl_ok hn h _ (q d) (q (d + 1)) (Nat.le_refl _) (h1 d (by omega) (by omega)) (h1 (d + 1) (by omega) (by omega)) (h2 d (by omega) (by omega))).2.2.2
    have b := exl_len hn h q k (d + 1) (fun i c1 c2 => h1 i (by omega) (by omega)) (fun i c1 c2 => h2 i (by omega) (by omega))
    omega
theorem unpack_s {n fu u x : Nat} {S W Md rho : Nat → Nat → Nat} {row md : Nat → Int32} (hn : n ≤ 12) (hfu : 50 < fu) (hS : Stp1 n S) (h : UH n S W Md rho) (hm : RpO n md Md) (hM : ∀ u x, u < n → x < n → Md u x = 99 ∨ Md u x < n) (hu : u < n) (hx : x < n) (hw : W u x < FA) : ∃ row', f2_unpack fu row (nI u) (nI x) md = some (nI (1 + (upl Md u x).length), row') ∧ ∀ i, i < 1 + (upl Md u x).length → row' i = nI ((u :: upl Md u x).getD i 0) := by
  have hlen := upl_len hn hS h u x hu hx hw
  have hlen1 := (upl_ok hn h _ u x (Nat.le_refl _) hu hx hw).2.2.2
  generalize hP : u :: upl Md u x = P
  have hPl : P.length = 1 + (upl Md u x).length := by rw [← hP, List.length_cons]; omega
  rw [← hPl]
  have key := lp_m (b := fun z => f2_unpack_b1 fu md z.1 z.2.1 z.2.2.1 z.2.2.2) (fun k z => ∃ F d, z.1 = nI F ∧ z.2.1 = nI d ∧ z.2.2.1 = nI (d + F - 2) ∧ 2 ≤ F ∧ k = (P.length - 1 - d) + (P.length - F) ∧ RW n W Md P F d z.2.2.2) (fun y => y.1 = nI P.length ∧ ∀ i, i < P.length → y.2 i = nI (P.getD i 0)) (fun k z hI => ?_) (fun z hI => ?_) ((P.length - 1 - 0) + (P.length - 2)) fu (nI 2, nI 0, nI 0, upd (upd row 0 (nI u)) 1 (nI x)) (by omega) ?_
  · obtain ⟨⟨o, row'⟩, e1, e2, e3⟩ := key
    dsimp only at e2 e3
    subst e2
    refine ⟨row', ?_, e3⟩
    unfold f2_unpack
    have e1 : lpG (fun z => f2_unpack_b1 fu md z.1 z.2.1 z.2.2.1 z.2.2.2) fu ((2 : Int32), (0 : Int32), (0 : Int32), upd (upd row (0 : Int32).toNatClampNeg (nI u)) (1 : Int32).toNatClampNeg (nI x)) = some (nI P.length, row') := e1
    rw [ck0 (by decide), bd_s, ck1 (by decide), bd_s, e1, bnd2_s]
  · obtain ⟨f, d', i', row⟩ := z
    obtain ⟨F, d, i1, i2, i3, i4, i5, q, r1, r2, r3, r4, r5, r6⟩ := hI
    dsimp only at i1 i2 i3 r1
    subst i1
    subst i2
    subst i3
    by_cases hex : F ≤ d + 1
    · right
      have e0 : F - 1 - d = 0 := by omega
      rw [e0] at r6
      have r6 : P.drop (d + 1) = [] := r6
      have hl : P.length ≤ d + 1 := List.drop_eq_nil_iff.mp r6
      have hFe : F = P.length := by omega
      refine ⟨(nI F, row), ?_, by rw [hFe], fun i hi => ?_⟩
      · show f2_unpack_b1 fu md (nI F) (nI d) (nI (d + F - 2)) row = _
        unfold f2_unpack_b1
        rw [if_neg (show ¬ (24 : Int32) ≤ nI (d + F - 2) from nI_ge (show d + F - 2 < 24 by omega) (by decide)), nI_1, if_pos (nI_le (by omega) (by omega))]
      · dsimp only
        rw [(r1 i (by omega)).1, r5 i (by omega)]
    · left
      have hd1 := r1 d (by omega)
      have hd2 := r1 (d + 1) (by omega)
      have hww := r2 d (Nat.le_refl d) (by omega)
      have e0 : F - 1 - d = (F - 1 - (d + 1)) + 1 := by omega
      rw [e0] at r6
      have r6 : P.drop (d + 1) = upl Md (q d) (q (d + 1)) ++ exl Md q (d + 1) (F - 1 - (d + 1)) := r6
      have hl0 := congrArg List.length r6
      rw [List.length_drop, List.length_append] at hl0
      have hl1 := exl_len hn h q (F - 1 - (d + 1)) (d + 1) (fun i c1 c2 => (r1 i (by omega)).2) (fun i c1 c2 => r2 i (by omega) (by omega))
      have hl2 := (upl_ok hn h _ (q d) (q (d + 1)) (Nat.le_refl _) hd1.2 hd2.2 hww).2.2.2
      have hstart : ∀ Y, f2_unpack_b1 fu md (nI F) (nI d) (nI (d + F - 2)) row = Y ↔ (bnd3 (if oI (Md (q d) (q (d + 1))) = (-1) then (bd (nI (d + 1)) fun x4_23 => some (nI F, x4_23, row)) else if nI F < 12 then (bnd1 (f2_putIntoRow fu (nI (d + 1)) (nI F) row (oI (Md (q d) (q (d + 1))))) fun (aRow_25 : (Nat → Int32)) => bd (nI (F + 1)) fun x3_27 => some (x3_27, nI d, aRow_25)) else bd (nI (d + 1)) fun x4_28 => some (nI F, x4_28, row)) fun (x3_18 : Int32) (x4_19 : Int32) (aRow_20 : (Nat → Int32)) => bd (nI (d + F - 2 + 1)) fun x5_29 => some (Sum.inl (β := Int32 × (Nat → Int32)) (x3_18, x4_19, x5_29, aRow_20))) = Y := fun Y => by
        unfold f2_unpack_b1
        rw [if_neg (show ¬ (24 : Int32) ≤ nI (d + F - 2) from nI_ge (show d + F - 2 < 24 by omega) (by decide)), nI_1, if_neg (nI_ge (by omega) (by omega)), ckN (by omega), ckN (by omega), clN (by omega), clN (by omega), hd1.1, hd2.1, get_s (by omega) (by omega), bnd1_s, hm _ _ hd1.2 hd2.2, nI_1, nI_1]
      rcases hM (q d) (q (d + 1)) hd1.2 hd2.2 with hmd | hmd
      · rw [upl_1 hmd] at r6 hl0
        have r6 : P.drop (d + 1) = q (d + 1) :: exl Md q (d + 1) (F - 1 - (d + 1)) := r6
        have hl0 : P.length - (d + 1) = 1 + (exl Md q (d + 1) (F - 1 - (d + 1))).length := hl0
        refine ⟨(nI F, nI (d + 1), nI (d + F - 2 + 1), row), ?_, F, d + 1, rfl, rfl, ?_, i4, by omega, q, r1, fun i c1 c2 => r2 i (by omega) c2, by omega, r4, fun i hi => ?_, ?_⟩
        · show f2_unpack_b1 fu md (nI F) (nI d) (nI (d + F - 2)) row = _
          rw [hstart, hmd, oI_none (by decide), if_pos rfl, bd_s, bnd3_s, bd_s]
        · dsimp only; rw [show d + F - 2 + 1 = d + 1 + F - 2 by omega]
        · by_cases e : i = d + 1
          · have e2 := congrArg (fun l => List.getD l 0 0) r6
            rw [List.getD_eq_getElem?_getD, List.getElem?_drop] at e2
            rw [e, List.getD_eq_getElem?_getD]
            exact e2
          · exact r5 i (by omega)
        · have e2 := congrArg (List.drop 1) r6
          rw [List.drop_drop] at e2
          exact e2
      · have hne : ¬ oI (Md (q d) (q (d + 1))) = -1 := by rw [oI_lt (by omega)]; exact nI_ne_m1 (by omega)
        have r7 := r6
        rw [upl_2 hn h hd1.2 hd2.2 hww (by omega)] at r7 hl0
        obtain ⟨_, z | ⟨z1, z2, z3, z4, z5, z6, z7⟩⟩ := h (q d) (q (d + 1)) hd1.2 hd2.2 hww
        · omega
        have hla := (upl_ok hn h _ (q d) _ (Nat.le_refl _) hd1.2 z1 z2).2.2.2
        have hlb := (upl_ok hn h _ _ (q (d + 1)) (Nat.le_refl _) z1 hd2.2 z3).2.2.2
        rw [List.length_append] at hl0
        obtain ⟨row', g1, g2⟩ := putIntoRow_s (fu := fu) (row := row) (m := nI (Md (q d) (q (d + 1)))) (show F < 12 by omega) (show d + 1 < F by omega) (by omega)
        refine ⟨(nI (F + 1), nI d, nI (d + F - 2 + 1), row'), ?_, F + 1, d, rfl, rfl, ?_, by omega, by omega, fun i => if i ≤ d then q i else if i = d + 1 then Md (q d) (q (d + 1)) else q (i - 1), fun i hi => ?_, fun i c1 c2 => ?_, by omega, by omega, fun i hi => ?_, ?_⟩
        · show f2_unpack_b1 fu md (nI F) (nI d) (nI (d + F - 2)) row = _
          rw [hstart, if_neg hne, if_pos (show nI F < (12 : Int32) from nI_lt (show F < 12 by omega) (by decide)), oI_lt (by omega), g1, bnd1_s, bd_s, bnd3_s, bd_s]
        · dsimp only; rw [show d + F - 2 + 1 = d + (F + 1) - 2 by omega]
        · dsimp only
          rw [g2 i]
          by_cases c1 : i ≤ d
          · rw [if_pos c1, if_pos c1]; exact r1 i (by omega)
          · rw [if_neg c1, if_neg c1]
            by_cases c2 : i = d + 1
            · rw [if_pos c2, if_pos c2]; exact ⟨rfl, z1⟩
            · rw [if_neg c2, if_neg c2, if_pos (by omega)]; exact r1 (i - 1) (by omega)
        · dsimp only
          by_cases c3 : i = d
          · rw [if_pos (show i ≤ d by omega), if_neg (show ¬ i + 1 ≤ d by omega), if_pos (show i + 1 = d + 1 by omega), c3]; exact z2
          · by_cases c4 : i = d + 1
            · rw [if_neg (show ¬ i ≤ d by omega), if_pos c4, if_neg (show ¬ i + 1 ≤ d by omega), if_neg (show ¬ i + 1 = d + 1 by omega), show i + 1 - 1 = d + 1 by omega]; exact z3
            · rw [if_neg (show ¬ i ≤ d by omega), if_neg c4, if_neg (show ¬ i + 1 ≤ d by omega), if_neg (show ¬ i + 1 = d + 1 by omega), show i + 1 - 1 = (i - 1) + 1 by omega]
              exact r2 (i - 1) (by omega) (by omega)
        · dsimp only
          rw [if_pos hi]; exact r5 i hi
        · rw [r7, show F + 1 - 1 - d = (F - 1 - (d + 1)) + 2 by omega]
          show _ = upl Md _ _ ++ (upl Md _ _ ++ exl Md _ (d + 1 + 1) (F - 1 - (d + 1)))
          rw [exl_congr Md q (fun i => if i ≤ d then q i else if i = d + 1 then Md (q d) (q (d + 1)) else q (i - 1)) 1 (F - 1 - (d + 1)) (d + 1) (fun i c1 c2 => by
            rw [if_neg (show ¬ i + 1 ≤ d by omega), if_neg (show ¬ i + 1 = d + 1 by omega)]
            rfl)]
          dsimp only
          rw [if_pos (Nat.le_refl d), if_neg (show ¬ d + 1 ≤ d by omega), if_pos rfl, if_neg (show ¬ d + 1 + 1 ≤ d by omega), if_neg (show ¬ d + 1 + 1 = d + 1 by omega), List.append_assoc]
          rfl
  · obtain ⟨f, d', i', row⟩ := z
    obtain ⟨F, d, i1, i2, i3, i4, i5, q, r1, r2, r3, r4, r5, r6⟩ := hI
    dsimp only at i1 i2 i3 r1
    subst i1
    subst i2
    subst i3
    have hFe : F = P.length := by omega
    have hde : d + 1 = P.length := by omega
    refine ⟨(nI F, row), ?_, by rw [hFe], fun i hi => ?_⟩
    · show f2_unpack_b1 fu md (nI F) (nI d) (nI (d + F - 2)) row = _
      unfold f2_unpack_b1
      rw [if_neg (show ¬ (24 : Int32) ≤ nI (d + F - 2) from nI_ge (show d + F - 2 < 24 by omega) (by decide)), nI_1, if_pos (nI_le (by omega) (by omega))]
    · dsimp only
      rw [(r1 i (by omega)).1, r5 i (by omega)]
  · refine ⟨2, 0, rfl, rfl, rfl, Nat.le_refl _, rfl, fun i => if i = 0 then u else x, fun i hi => ?_, fun i c1 c2 => ?_, by omega, by omega, fun i hi => ?_, ?_⟩
    · dsimp only
      rw [upds, upds]
      by_cases e : i = 0
      · rw [if_neg (by omega), if_pos e, if_pos e]; exact ⟨rfl, hu⟩
      · rw [if_pos (by omega), if_neg e]; exact ⟨rfl, hx⟩
    · have e : i = 0 := by omega
      dsimp only
      rw [if_pos e, if_neg (by omega)]; exact hw
    · have e : i = 0 := by omega
      dsimp only
      rw [if_pos e, e, ← hP]; rfl
    · rw [← hP]
      show upl Md u x = upl Md u x ++ []
      rw [List.append_nil]
