/-! the page looked through by class and reference -/
theorem within_s {k a b : Nat} (hk : k < 2000000000) (ha : a < 2000000000) (hb : b < 2000000000) : f8_within (nI k) (nI a) (nI b) = some (if a ≤ k ∧ k ≤ b then 1 else 0) := by
  unfold f8_within
  by_cases h1 : a ≤ k
  · rw [if_neg (fun q => by rw [nI_ltB hk ha] at q; omega)]
    by_cases h2 : k ≤ b
    · rw [if_neg (fun q => by rw [nI_ltB hb hk] at q; omega), bnd1_s, ckb1, if_pos ⟨h1, h2⟩]
    · rw [if_pos (by rw [nI_ltB hb hk]; omega), bnd1_s, ckb0, if_neg (fun q => h2 q.2)]
  · rw [if_pos (by rw [nI_ltB hk ha]; omega), bnd1_s, ckb0, if_neg (fun q => h1 q.1)]
theorem isPlace_s {k : Nat} (hk : k < 1000) : f7_isPlace (nI k - 97) = some (if 97 ≤ k ∧ k ≤ 104 then 1 else 0) := by
  unfold f7_isPlace
  by_cases h1 : 97 ≤ k
  · rw [show nI k - 97 = nI (k - 97) from by rw [show (97 : Int32) = nI 97 from rfl, pk_sub h1], if_neg (nI_pos (by omega))]
    by_cases h2 : k ≤ 104
    · rw [if_neg (show ¬ (8 : Int32) ≤ nI (k - 97) from nI_ge (show k - 97 < 8 by omega) (by decide)), bnd1_s, ckb1, if_pos ⟨h1, h2⟩]
    · rw [if_pos (show (8 : Int32) ≤ nI (k - 97) from nI_le (show 8 ≤ k - 97 by omega) (by omega)), bnd1_s, ckb0, if_neg (fun q => h2 q.2)]
  · rw [if_pos (show nI k - (97 : Int32) < 0 from pk_sneg (b := 97) (by decide) (by omega)), bnd1_s, ckb0, if_neg (fun q => h1 q.1)]
def PR (c d f : Nat) (beg en len : Nat → Nat) (cur due : Int32) (pb pe pl : Nat → Int32) (st fi nr : Int32) (nb ne nl : Nat → Int32) : Prop := cur = nI c ∧ nr = nI c ∧ due = nI d ∧ st = nI (min d 2) ∧ fi = nI f ∧ c < 12 ∧ d ≤ 4 ∧ f < 100 ∧ (d = 2 → f = 0) ∧ (d = 3 → 1 ≤ f ∧ f ≤ 9 ∧ len c = f) ∧ (d = 4 → 10 ≤ f ∧ len c = f) ∧ (∀ j, j < c ∨ j = c ∧ 1 ≤ d → pb j = nI (beg j) ∧ nb j = nI (beg j) ∧ beg j < 8) ∧ (∀ j, j < c ∨ j = c ∧ 2 ≤ d → pe j = nI (en j) ∧ ne j = nI (en j) ∧ en j < 8 ∧ en j ≠ beg j) ∧ ∀ j, j < c ∨ j = c ∧ 3 ≤ d → pl j = nI (len j) ∧ nl j = nI (len j) ∧ 1 ≤ len j ∧ len j ≤ 99
def TK (k : Nat) (cur due : Int32) (pb pe pl : Nat → Int32) (st fi nr : Int32) (nb ne nl : Nat → Int32) : Prop := (∃ c' d' f' beg' en' len' cur' due' pb' pe' pl' st' fi' nr' nb' ne' nl', f4_takes due (nI k) pb cur pe pl = some (1, cur', due', pb', pe', pl') ∧ f8_takes st (nI k) fi nr nb ne nl = some (1, st', fi', nr', nb', ne', nl') ∧ PR c' d' f' beg' en' len' cur' due' pb' pe' pl' st' fi' nr' nb' ne' nl') ∨ ∃ cur' due' pb' pe' pl' st' fi' nr' nb' ne' nl', f4_takes due (nI k) pb cur pe pl = some (0, cur', due', pb', pe', pl') ∧ f8_takes st (nI k) fi nr nb ne nl = some (0, st', fi', nr', nb', ne', nl')
section PG
variable {c d f k : Nat} {beg en len : Nat → Nat} {cur due : Int32} {pb pe pl : Nat → Int32} {st fi nr : Int32} {nb ne nl : Nat → Int32}
theorem k97 {k : Nat} (h : 97 ≤ k) : nI k - 97 = nI (k - 97) := by rw [show (97 : Int32) = nI 97 from rfl, pk_sub h]
theorem tk0 (h : PR c 0 f beg en len cur due pb pe pl st fi nr nb ne nl) (h1 : 32 ≤ k) (h2 : k ≤ 126) : TK k cur due pb pe pl st fi nr nb ne nl := by
  obtain ⟨rfl, rfl, rfl, rfl, rfl, g1, g2, g3, g4, g5, g6, g7, g8, g9⟩ := h
  by_cases hk : 97 ≤ k ∧ k ≤ 104
  · left
    refine ⟨c, 1, 0, fun j => if j = c then k - 97 else beg j, en, len, nI c, nI 1, upd pb c (nI (k - 97)), pe, pl, nI 1, nI 0, nI c, upd nb c (nI (k - 97)), ne, nl, ?_, ?_, rfl, rfl, rfl, rfl, rfl, g1, by omega, by omega, by omega, by omega, by omega, fun j hj => ?_, fun j hj => ?_, fun j hj => ?_⟩
    · unfold f4_takes f4_takesBegin
      rw [if_pos (show nI 0 = 0 from rfl), bd_s, isPlace_s (by omega), bnd1_s, if_pos hk, if_neg i10, ckN (by omega), clN (by omega), k97 hk.1, bd_s, bnd3_s, ckb1]
      rfl
    · unfold f8_takes f8_takesPlace f8_takesPlace_k1
      rw [if_neg (show ¬ (2 : Int32) ≤ nI (min 0 2) by decide), show (97 : Int32) = nI 97 from rfl, show (104 : Int32) = nI 104 from rfl, within_s (by omega) (by decide) (by decide), bnd1_s, if_pos hk, if_neg i10, if_pos (show nI (min 0 2) = 0 from rfl), bnd1_s, if_neg i10, if_pos (show nI (min 0 2) = 0 from rfl), ckN (by omega), clN (by omega), pk_sub hk.1, bd_s, bnd2_s, bd_s, bnd5_s, ckb1]
      rfl
    · dsimp only
      rw [upds, upds]
      by_cases e : j = c
      · rw [if_pos e, if_pos e, if_pos e]; exact ⟨rfl, rfl, by omega⟩
      · rw [if_neg e, if_neg e, if_neg e]; exact g7 j (by omega)
    · have := g8 j (by omega)
      dsimp only
      rw [if_neg (by omega)]; exact this
    · exact g9 j (by omega)
  · right
    refine ⟨nI c, nI 0, pb, pe, pl, nI 0, nI f, nI c, nb, ne, nl, ?_, ?_⟩
    · unfold f4_takes f4_takesBegin
      rw [if_pos (show nI 0 = 0 from rfl), bd_s, isPlace_s (by omega), bnd1_s, if_neg hk, if_pos rfl, bnd3_s, ckb0]
    · unfold f8_takes f8_takesPlace
      rw [if_neg (show ¬ (2 : Int32) ≤ nI (min 0 2) by decide), show (97 : Int32) = nI 97 from rfl, show (104 : Int32) = nI 104 from rfl, within_s (by omega) (by decide) (by decide), bnd1_s, if_neg hk, if_pos rfl, bnd1_s, if_pos rfl, bnd5_s, ckb0]
      rfl
theorem tk1 (h : PR c 1 f beg en len cur due pb pe pl st fi nr nb ne nl) (h1 : 32 ≤ k) (h2 : k ≤ 126) : TK k cur due pb pe pl st fi nr nb ne nl := by
  obtain ⟨rfl, rfl, rfl, rfl, rfl, g1, g2, g3, g4, g5, g6, g7, g8, g9⟩ := h
  have gc := g7 c (by omega)
  by_cases hk : 97 ≤ k ∧ k ≤ 104
  · by_cases hb : k - 97 = beg c
    · right
      refine ⟨nI c, nI 1, pb, pe, pl, nI 1, nI f, nI c, nb, ne, nl, ?_, ?_⟩
      · unfold f4_takes f4_takesEnd
        rw [if_neg (show ¬ nI 1 = 0 by decide), if_pos (show nI 1 = 1 from rfl), bd_s, isPlace_s (by omega), bnd1_s, if_pos hk, if_neg i10, ckN (by omega), clN (by omega), k97 hk.1, gc.1, if_pos (by rw [hb]), bnd3_s, ckb0]
      · unfold f8_takes f8_takesPlace
        rw [if_neg (show ¬ (2 : Int32) ≤ nI (min 1 2) by decide), show (97 : Int32) = nI 97 from rfl, show (104 : Int32) = nI 104 from rfl, within_s (by omega) (by decide) (by decide), bnd1_s, if_pos hk, if_neg i10, if_neg (show ¬ nI (min 1 2) = 0 by decide), ckN (by omega), clN (by omega), pk_sub hk.1, gc.2.1, if_pos (by rw [hb]), bnd1_s, if_pos rfl, bnd5_s, ckb0]
        rfl
    · left
      refine ⟨c, 2, 0, beg, fun j => if j = c then k - 97 else en j, len, nI c, nI 2, pb, upd pe c (nI (k - 97)), pl, nI 2, nI 0, nI c, nb, upd ne c (nI (k - 97)), nl, ?_, ?_, rfl, rfl, rfl, rfl, rfl, g1, by omega, by omega, by omega, by omega, by omega, fun j hj => g7 j (by omega), fun j hj => ?_, fun j hj => g9 j (by omega)⟩
      · unfold f4_takes f4_takesEnd
        rw [if_neg (show ¬ nI 1 = 0 by decide), if_pos (show nI 1 = 1 from rfl), bd_s, isPlace_s (by omega), bnd1_s, if_pos hk, if_neg i10, ckN (by omega), clN (by omega), k97 hk.1, gc.1, if_neg (fun q => hb ((nI_inj (by omega) (by omega)).mp q)), ckN (by omega), bd_s, bnd3_s, ckb1]
        rfl
      · unfold f8_takes f8_takesPlace f8_takesPlace_k1
        rw [if_neg (show ¬ (2 : Int32) ≤ nI (min 1 2) by decide), show (97 : Int32) = nI 97 from rfl, show (104 : Int32) = nI 104 from rfl, within_s (by omega) (by decide) (by decide), bnd1_s, if_pos hk, if_neg i10, if_neg (show ¬ nI (min 1 2) = 0 by decide), ckN (by omega), clN (by omega), pk_sub hk.1, gc.2.1, if_neg (fun q => hb ((nI_inj (by omega) (by omega)).mp q)), bnd1_s, if_neg i10, if_neg (show ¬ nI (min 1 2) = 0 by decide), ckN (by omega), bd_s, bnd2_s, bd_s, bnd5_s, ckb1]
        rfl
      · dsimp only
        rw [upds, upds]
        by_cases e : j = c
        · rw [if_pos e, if_pos e, if_pos e, e]; exact ⟨rfl, rfl, by omega, hb⟩
        · rw [if_neg e, if_neg e, if_neg e]; exact g8 j (by omega)
  · right
    refine ⟨nI c, nI 1, pb, pe, pl, nI 1, nI f, nI c, nb, ne, nl, ?_, ?_⟩
    · unfold f4_takes f4_takesEnd
      rw [if_neg (show ¬ nI 1 = 0 by decide), if_pos (show nI 1 = 1 from rfl), bd_s, isPlace_s (by omega), bnd1_s, if_neg hk, if_pos rfl, bnd3_s, ckb0]
    · unfold f8_takes f8_takesPlace
      rw [if_neg (show ¬ (2 : Int32) ≤ nI (min 1 2) by decide), show (97 : Int32) = nI 97 from rfl, show (104 : Int32) = nI 104 from rfl, within_s (by omega) (by decide) (by decide), bnd1_s, if_neg hk, if_pos rfl, bnd1_s, if_pos rfl, bnd5_s, ckb0]
      rfl
/-- a figure, of the reference -/
theorem fig_s (hf : f < 100) (hc : c < 12) (hk : 48 ≤ k ∧ k ≤ 57) : f8_takesFigure (nI f) (nI k) (nI c) nl = if 1 ≤ 10 * f + (k - 48) ∧ 10 * f + (k - 48) ≤ 99 then some (1, nI (10 * f + (k - 48)), upd nl c (nI (10 * f + (k - 48)))) else some (0, nI f, upd nl c (nI f)) := by
  unfold f8_takesFigure
  rw [show (10 : Int32) = nI 10 from rfl, pk_mul, nI_add, show (48 : Int32) = nI 48 from rfl, pk_sub (by omega), show 10 * f + k - 48 = 10 * f + (k - 48) by omega, bd_s, show f8_within (nI (10 * f + (k - 48))) 1 99 = f8_within (nI (10 * f + (k - 48))) (nI 1) (nI 99) from rfl, within_s (by omega) (by decide) (by decide), bnd1_s]
  by_cases h : 1 ≤ 10 * f + (k - 48) ∧ 10 * f + (k - 48) ≤ 99
  · rw [if_pos h, if_neg i10, bnd1_s, ckN (by omega), clN (by omega), bd_s, ckb1, if_pos h]
  · rw [if_neg h, if_pos rfl, bnd1_s, ckN (by omega), clN (by omega), bd_s, ckb0, if_neg h]
/-- behind the places: a figure or a comma, of the reference -/
theorem tkM (hf : f < 100) (hc : c < 12) (h2 : k ≤ 126) : f8_takes (nI 2) (nI k) (nI f) (nI c) nb ne nl = if 48 ≤ k ∧ k ≤ 57 then (if 1 ≤ 10 * f + (k - 48) ∧ 10 * f + (k - 48) ≤ 99 then some (1, nI 2, nI (10 * f + (k - 48)), nI c, nb, ne, upd nl c (nI (10 * f + (k - 48)))) else some (0, nI 2, nI f, nI c, nb, ne, upd nl c (nI f))) else if k = 44 ∧ 0 < f ∧ c < 11 then some (1, nI 0, nI f, nI (c + 1), nb, ne, nl) else some (0, nI 2, nI f, nI c, nb, ne, nl) := by
  unfold f8_takes
  rw [if_pos (show (2 : Int32) ≤ nI 2 by decide), show f8_within (nI k) 48 57 = f8_within (nI k) (nI 48) (nI 57) from rfl, within_s (by omega) (by decide) (by decide), bnd1_s]
  by_cases hk : 48 ≤ k ∧ k ≤ 57
  · rw [if_pos hk, if_neg i10, fig_s hf hc hk, if_pos hk]
    by_cases h : 1 ≤ 10 * f + (k - 48) ∧ 10 * f + (k - 48) ≤ 99
    · rw [if_pos h, bnd3_s, ckb1, if_pos h]
    · rw [if_neg h, bnd3_s, ckb0, if_neg h]
  · rw [if_neg hk, if_pos rfl, if_neg hk]
    have hcond : (if nI k = 44 then (if nI f ≤ 0 then (some (0 : Int32)) else if 11 ≤ nI c then (some 0) else some 1) else some 0) = some (if k = 44 ∧ 0 < f ∧ c < 11 then 1 else 0) := by
      by_cases e1 : k = 44
      · rw [if_pos (show nI k = 44 by rw [e1]; rfl)]
        by_cases e2 : 0 < f
        · rw [if_neg (nI_nle e2 (by omega))]
          by_cases e3 : c < 11
          · rw [if_neg (show ¬ (11 : Int32) ≤ nI c from nI_ge e3 (by decide)), if_pos ⟨e1, e2, e3⟩]
          · rw [if_pos (show (11 : Int32) ≤ nI c from nI_le (show 11 ≤ c by omega) (by omega)), if_neg (fun q => e3 q.2.2)]
        · rw [if_pos (show nI f ≤ 0 from nI_le (show f ≤ 0 by omega) (by decide)), if_neg (fun q => e2 q.2.1)]
      · rw [if_neg (show ¬ nI k = (44 : Int32) from fun q => e1 ((nI_inj (show k < 1000000 by omega) (show 44 < 1000000 by decide)).mp q)), if_neg (fun q => e1 q.1)]
    rw [hcond, bnd1_s]
    by_cases h : k = 44 ∧ 0 < f ∧ c < 11
    · rw [if_pos h, if_neg i10, bnd1_s, bd_s, nI_1, if_neg i10, bnd1_s, ckb1, if_pos h]
      rfl
    · rw [if_neg h, if_pos rfl, bnd1_s, bd_s, show (0 : Int32) = nI 0 from rfl, nI_add, if_pos rfl, bnd1_s, show nI 0 = (0 : Int32) from rfl, ckb0, if_neg h]
      rfl
theorem comma_s (hc : c < 12) (h2 : k ≤ 126) (due : Int32) : f4_takesComma (nI k) (nI c) due = if k = 44 ∧ c < 11 then some (1, nI (c + 1), 0) else some (0, nI c, due) := by
  unfold f4_takesComma
  by_cases e1 : k = 44
  · rw [if_pos (show nI k = 44 by rw [e1]; rfl), nI_1]
    by_cases e3 : c < 11
    · rw [if_pos (show nI (c + 1) < (12 : Int32) from nI_lt (show c + 1 < 12 by omega) (by decide)), bd_s, if_pos ⟨e1, e3⟩]
    · rw [if_neg (show ¬ nI (c + 1) < (12 : Int32) from nI_nlt (show 12 ≤ c + 1 by omega) (by omega)), if_neg (fun q => e3 q.2)]
  · rw [if_neg (show ¬ nI k = (44 : Int32) from fun q => e1 ((nI_inj (show k < 1000000 by omega) (show 44 < 1000000 by decide)).mp q)), if_neg (fun q => e1 q.1)]
theorem tk2 (h : PR c 2 f beg en len cur due pb pe pl st fi nr nb ne nl) (h1 : 32 ≤ k) (h2 : k ≤ 126) : TK k cur due pb pe pl st fi nr nb ne nl := by
  obtain ⟨rfl, rfl, rfl, rfl, rfl, g1, g2, g3, g4, g5, g6, g7, g8, g9⟩ := h
  have hf0 : f = 0 := g4 rfl
  subst hf0
  have hM := tkM (k := k) (nb := nb) (ne := ne) (nl := nl) g3 g1 h2
  by_cases hk : 49 ≤ k ∧ k ≤ 57
  · left
    refine ⟨c, 3, k - 48, beg, en, fun j => if j = c then k - 48 else len j, nI c, nI 3, pb, pe, upd pl c (nI (k - 48)), nI 2, nI (k - 48), nI c, nb, ne, upd nl c (nI (k - 48)), ?_, ?_, rfl, rfl, rfl, rfl, rfl, g1, by omega, by omega, by omega, fun _ => ⟨by omega, by omega, if_pos rfl⟩, by omega, fun j hj => g7 j (by omega), fun j hj => g8 j (by omega), fun j hj => ?_⟩
    · unfold f4_takes f4_takesFirstFigure
      rw [if_neg (show ¬ nI 2 = 0 by decide), if_neg (show ¬ nI 2 = 1 by decide), if_pos (show nI 2 = 2 from rfl), if_neg (show ¬ nI k < (49 : Int32) from nI_nlt hk.1 (by omega)), if_pos (show nI k ≤ (57 : Int32) from nI_le hk.2 (by decide)), ckN (by omega), clN (by omega), show nI k - 48 = nI (k - 48) from pk_sub (show 48 ≤ k by omega), bd_s, bnd3_s, ckb1]
      rfl
    · show f8_takes (nI 2) (nI k) (nI 0) (nI c) nb ne nl = _
      rw [hM, if_pos (by omega), if_pos (by omega), show 10 * 0 + (k - 48) = k - 48 by omega]
    · dsimp only
      rw [upds, upds]
      by_cases e : j = c
      · rw [if_pos e, if_pos e, if_pos e]; exact ⟨rfl, rfl, by omega, by omega⟩
      · rw [if_neg e, if_neg e, if_neg e]; exact g9 j (by omega)
  · right
    have hB : f4_takes (nI 2) (nI k) pb (nI c) pe pl = some (0, nI c, nI 2, pb, pe, pl) := by
      unfold f4_takes f4_takesFirstFigure
      rw [if_neg (show ¬ nI 2 = 0 by decide), if_neg (show ¬ nI 2 = 1 by decide), if_pos (show nI 2 = 2 from rfl)]
      by_cases e : 49 ≤ k
      · rw [if_neg (show ¬ nI k < (49 : Int32) from nI_nlt e (by omega)), if_neg (show ¬ nI k ≤ (57 : Int32) from nI_ge (show 57 < k by omega) (by omega)), bnd3_s, ckb0]
      · rw [if_pos (show nI k < (49 : Int32) from nI_lt (show k < 49 by omega) (by decide)), bnd3_s, ckb0]
    by_cases e : 48 ≤ k ∧ k ≤ 57
    · rw [if_pos e, if_neg (by omega)] at hM
      exact ⟨_, _, _, _, _, _, _, _, _, _, _, hB, hM⟩
    · rw [if_neg e, if_neg (by omega)] at hM
      exact ⟨_, _, _, _, _, _, _, _, _, _, _, hB, hM⟩
theorem tk3 (h : PR c 3 f beg en len cur due pb pe pl st fi nr nb ne nl) (h1 : 32 ≤ k) (h2 : k ≤ 126) : TK k cur due pb pe pl st fi nr nb ne nl := by
  obtain ⟨rfl, rfl, rfl, rfl, rfl, g1, g2, g3, g4, g5, g6, g7, g8, g9⟩ := h
  have hM := tkM (k := k) (nb := nb) (ne := ne) (nl := nl) g3 g1 h2
  obtain ⟨q1, q2, q3⟩ := g5 rfl
  have gc := g9 c (by omega)
  have hB0 : ∀ Y, (bnd3 (f4_takesSecondFigure (nI k) (nI 3) pl (nI c)) fun (r_17 : Int32) (iDue_18 : Int32) (aPlengths_19 : (Nat → Int32)) => bnd3 (if r_17 = 0 then (bnd3 (f4_takesComma (nI k) (nI c) iDue_18) fun (r_26 : Int32) (iCurrent_27 : Int32) (iDue_28 : Int32) => if r_26 = 0 then (some (0, iCurrent_27, iDue_28)) else some (1, iCurrent_27, iDue_28)) else some (1, nI c, iDue_18)) fun (y_21 : Int32) (iCurrent_22 : Int32) (iDue_23 : Int32) => ckb y_21 (some (y_21, iCurrent_22, iDue_23, pb, pe, aPlengths_19))) = Y → f4_takes (nI 3) (nI k) pb (nI c) pe pl = Y := fun Y hY => by
    unfold f4_takes
    rw [if_neg (show ¬ nI 3 = 0 by decide), if_neg (show ¬ nI 3 = 1 by decide), if_neg (show ¬ nI 3 = 2 by decide), if_pos (show nI 3 = 3 from rfl)]
    exact hY
  by_cases hk : 48 ≤ k ∧ k ≤ 57
  · left
    refine ⟨c, 4, 10 * f + (k - 48), beg, en, fun j => if j = c then 10 * f + (k - 48) else len j, nI c, nI 4, pb, pe, upd pl c (nI (10 * f + (k - 48))), nI 2, nI (10 * f + (k - 48)), nI c, nb, ne, upd nl c (nI (10 * f + (k - 48))), hB0 _ ?_, ?_, rfl, rfl, rfl, rfl, rfl, g1, by omega, by omega, by omega, by omega, fun _ => ⟨by omega, if_pos rfl⟩, fun j hj => g7 j (by omega), fun j hj => g8 j (by omega), fun j hj => ?_⟩
    · unfold f4_takesSecondFigure
      rw [if_neg (show ¬ nI k < (48 : Int32) from nI_nlt hk.1 (by omega)), if_pos (show nI k ≤ (57 : Int32) from nI_le hk.2 (by decide)), ckN (by omega), ckN (by omega), clN (by omega), gc.1, q3, show nI f * 10 = nI (10 * f) from by rw [show (10 : Int32) = nI 10 from rfl, pk_mul, Nat.mul_comm], nI_add, show nI (10 * f + k) - 48 = nI (10 * f + (k - 48)) from by rw [show (48 : Int32) = nI 48 from rfl, pk_sub (by omega), show 10 * f + k - 48 = 10 * f + (k - 48) by omega], bd_s, bnd3_s, if_neg i10, bnd3_s, ckb1]
      rfl
    · show f8_takes (nI 2) (nI k) (nI f) (nI c) nb ne nl = _
      rw [hM, if_pos hk, if_pos (by omega)]
    · dsimp only
      rw [upds, upds]
      by_cases e : j = c
      · rw [if_pos e, if_pos e, if_pos e]; exact ⟨rfl, rfl, by omega, by omega⟩
      · rw [if_neg e, if_neg e, if_neg e]; exact g9 j (by omega)
  · have hB1 : f4_takesSecondFigure (nI k) (nI 3) pl (nI c) = some (0, nI 3, pl) := by
      unfold f4_takesSecondFigure
      by_cases e : 48 ≤ k
      · rw [if_neg (show ¬ nI k < (48 : Int32) from nI_nlt e (by omega)), if_neg (show ¬ nI k ≤ (57 : Int32) from nI_ge (show 57 < k by omega) (by omega))]
      · rw [if_pos (show nI k < (48 : Int32) from nI_lt (show k < 48 by omega) (by decide))]
    rw [if_neg hk] at hM
    by_cases hc : k = 44 ∧ c < 11
    · left
      rw [if_pos ⟨hc.1, by omega, hc.2⟩] at hM
      refine ⟨c + 1, 0, f, beg, en, len, nI (c + 1), nI 0, pb, pe, pl, nI 0, nI f, nI (c + 1), nb, ne, nl, hB0 _ ?_, hM, rfl, rfl, rfl, rfl, rfl, by omega, by omega, g3, by omega, by omega, by omega, fun j hj => g7 j (by omega), fun j hj => g8 j (by omega), fun j hj => g9 j (by omega)⟩
      rw [hB1, bnd3_s, if_pos rfl, comma_s g1 h2, if_pos hc, bnd3_s, if_neg i10, bnd3_s, ckb1]
      rfl
    · right
      rw [if_neg (fun q => hc ⟨q.1, q.2.2⟩)] at hM
      have hB2 := hB0 (some (0, nI c, nI 3, pb, pe, pl)) (by rw [hB1, bnd3_s, if_pos rfl, comma_s g1 h2, if_neg hc, bnd3_s, if_pos rfl, bnd3_s, ckb0])
      exact ⟨_, _, _, _, _, _, _, _, _, _, _, hB2, hM⟩
theorem tk4 (h : PR c 4 f beg en len cur due pb pe pl st fi nr nb ne nl) (h1 : 32 ≤ k) (h2 : k ≤ 126) : TK k cur due pb pe pl st fi nr nb ne nl := by
  obtain ⟨rfl, rfl, rfl, rfl, rfl, g1, g2, g3, g4, g5, g6, g7, g8, g9⟩ := h
  have hM := tkM (k := k) (nb := nb) (ne := ne) (nl := nl) g3 g1 h2
  obtain ⟨q1, q3⟩ := g6 rfl
  have gc := g9 c (by omega)
  have hB0 : ∀ Y, (bnd3 (f4_takesComma (nI k) (nI c) (nI 4)) fun (r_31 : Int32) (iCurrent_32 : Int32) (iDue_33 : Int32) => ckb r_31 (some (r_31, iCurrent_32, iDue_33, pb, pe, pl))) = Y → f4_takes (nI 4) (nI k) pb (nI c) pe pl = Y := fun Y hY => by
    unfold f4_takes
    rw [if_neg (show ¬ nI 4 = 0 by decide), if_neg (show ¬ nI 4 = 1 by decide), if_neg (show ¬ nI 4 = 2 by decide), if_neg (show ¬ nI 4 = 3 by decide)]
    exact hY
  by_cases hc : k = 44 ∧ c < 11
  · left
    rw [if_neg (by omega), if_pos ⟨hc.1, by omega, hc.2⟩] at hM
    refine ⟨c + 1, 0, f, beg, en, len, nI (c + 1), nI 0, pb, pe, pl, nI 0, nI f, nI (c + 1), nb, ne, nl, hB0 _ ?_, hM, rfl, rfl, rfl, rfl, rfl, by omega, by omega, g3, by omega, by omega, by omega, fun j hj => g7 j (by omega), fun j hj => g8 j (by omega), fun j hj => g9 j (by omega)⟩
    rw [comma_s g1 h2, if_pos hc, bnd3_s, ckb1]
    rfl
  · right
    have hB2 := hB0 (some (0, nI c, nI 4, pb, pe, pl)) (by rw [comma_s g1 h2, if_neg hc, bnd3_s, ckb0])
    by_cases hk : 48 ≤ k ∧ k ≤ 57
    · rw [if_pos hk, if_neg (by omega)] at hM
      exact ⟨_, _, _, _, _, _, _, _, _, _, _, hB2, hM⟩
    · rw [if_neg hk, if_neg (fun q => hc ⟨q.1, q.2.2⟩)] at hM
      exact ⟨_, _, _, _, _, _, _, _, _, _, _, hB2, hM⟩
theorem tk (h : PR c d f beg en len cur due pb pe pl st fi nr nb ne nl) (h1 : 32 ≤ k) (h2 : k ≤ 126) : TK k cur due pb pe pl st fi nr nb ne nl := by
  have hd : d ≤ 4 := h.2.2.2.2.2.2.1
  rcases (show d = 0 ∨ d = 1 ∨ d = 2 ∨ d = 3 ∨ d = 4 by omega) with rfl | rfl | rfl | rfl | rfl
  · exact tk0 h h1 h2
  · exact tk1 h h1 h2
  · exact tk2 h h1 h2
  · exact tk3 h h1 h2
  · exact tk4 h h1 h2
end PG
