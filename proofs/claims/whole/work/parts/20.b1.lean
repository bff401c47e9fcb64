section
variable {l : Launch} {D : va_G} {cI cZ : ClassId} {q : Nat → Nat} {iReadings iAlterations iRankings iLetters iCurrent iDue iSize iLsize : Int32} {gCosts gWorths gMiddles gApart gApartWithout gNeeded gUps gDowns gKeys gNexts gShutKeys aCodes aPbegins aPends aPlengths aBegins aEnds aLengths aRanks aRoadsByRank aRow aRanksBefore aBusy aOpen aShut : Nat → Int32}
def f4_put (iLetters : Int32) (aCodes : (Nat → Int32)) (p1 : Int32) : Option (Int32 × (Nat → Int32)) :=
  bnd2 (if 60 ≤ iLetters then (some (iLetters, aCodes)) else ckin iLetters 60 (bd (upd aCodes iLetters.toNatClampNeg p1) fun aCodes_6 => bd ((iLetters + 1)) fun iLetters_7 => some (iLetters_7, aCodes_6))) fun (iLetters_1 : Int32) (aCodes_2 : (Nat → Int32)) => some (iLetters_1, aCodes_2)
set_option maxHeartbeats 4000000 in
set_option maxRecDepth 100000 in
theorem c_X4_put (hq : gJ layB q) {p1 : Int32} {o_iLetters : Int32} {o_aCodes : (Nat → Int32)} (h : f4_put iLetters aCodes p1 = some (o_iLetters, o_aCodes)) :
    GM l yX4_put cX4_put 2 none 0 0 D cI cZ layB q [.ref (q 23), .int p1] ([iReadings, iAlterations, iRankings, iLetters, iCurrent, iDue, iSize, iLsize], [], [gCosts, gWorths, gMiddles, gApart, gApartWithout, gNeeded, gUps, gDowns, gKeys, gNexts, gShutKeys, aCodes, aPbegins, aPends, aPlengths, aBegins, aEnds, aLengths, aRanks, aRoadsByRank, aRow, aRanksBefore, aBusy, aOpen, aShut]) none ([iReadings, iAlterations, iRankings, o_iLetters, iCurrent, iDue, iSize, iLsize], [], [gCosts, gWorths, gMiddles, gApart, gApartWithout, gNeeded, gUps, gDowns, gKeys, gNexts, gShutKeys, o_aCodes, aPbegins, aPends, aPlengths, aBegins, aEnds, aLengths, aRanks, aRoadsByRank, aRow, aRanksBefore, aBusy, aOpen, aShut]) := by
  refine GM.go RX4 (by decide) rfl (Nat.le_of_ble_eq_true rfl) ?_
  intro p e s m args below meth c ls R Q H locs X hr hlk hT hG hl hR hQ
  have hx := X.1
  have hb := X.2.1
  have hl : lv_has ls 2 [(0, .ref (q 23)), (1, .int p1)] := hl
  unfold f4_put at h
  refine lv_aload_n hx hb dX4_put_0 rfl (lv_at hl 0 rfl) ?_
  refine g_get (v := .int iLetters) X hT hG fl_X4_24 23 rfl rfl rfl dX4_put_1 ?_
  refine lv_bipush (v := 60) hx hb dX4_put_4 (by decide) ?_
  obtain ⟨iLetters_1, aCodes_2, er3, h⟩ := bnd2_some h
  have J3 : ∀ (H : Heap) (locs : List Loc) (ls : Array Slot), GH D cI cZ layB q s ([iReadings, iAlterations, iRankings, iLetters_1, iCurrent, iDue, iSize, iLsize], [], [gCosts, gWorths, gMiddles, gApart, gApartWithout, gNeeded, gUps, gDowns, gKeys, gNexts, gShutKeys, aCodes_2, aPbegins, aPends, aPlengths, aBegins, aEnds, aLengths, aRanks, aRoadsByRank, aRow, aRanksBefore, aBusy, aOpen, aShut]) H locs → lv_has ls 2 [] → W p l e R s m args below meth c H locs 0 0 Q (F0 m 29 ls []) := by
    intro H locs ls hG hl
    cases h
    rw [hQ]
    exact g_vret X hT hG hr hlk dX4_put_29
  refine lv_icmp_ge (tgt := 29) hx hb dX4_put_6 (by decide) (fun cb4 => ?_) (fun cb4 => ?_)
  · have er3 := ite_t cb4 er3
    cases er3
    exact J3 H locs ls hG (lv_sub hl [] rfl)
  · have er3 := ite_f cb4 er3
    refine lv_aload_n hx hb dX4_put_9 rfl (lv_at hl 0 rfl) ?_
    refine g_get (v := .ref (q 29)) X hT hG fl_X4_9 23 rfl rfl rfl dX4_put_10 ?_
    refine lv_aload_n hx hb dX4_put_13 rfl (lv_at hl 0 rfl) ?_
    refine g_get (v := .int iLetters) X hT hG fl_X4_24 23 rfl rfl rfl dX4_put_14 ?_
    refine lv_iload_n hx hb dX4_put_17 rfl (lv_at hl 1 rfl) ?_
    obtain ⟨hi5, er3⟩ := ckin_some er3
    obtain ⟨aCodes_6, eaCodes_6⟩ : ∃ z : Nat → Int32, z = upd aCodes iLetters.toNatClampNeg p1 := ⟨_, rfl⟩
    have er3 := bd_e eaCodes_6 er3
    refine g_ast (w' := ([iReadings, iAlterations, iRankings, iLetters, iCurrent, iDue, iSize, iLsize], [], [gCosts, gWorths, gMiddles, gApart, gApartWithout, gNeeded, gUps, gDowns, gKeys, gNexts, gShutKeys, aCodes_6, aPbegins, aPends, aPlengths, aBegins, aEnds, aLengths, aRanks, aRoadsByRank, aRow, aRanksBefore, aBusy, aOpen, aShut])) X hT hq hG 29 rfl ga_B_aCodes (Nat.le_of_ble_eq_true rfl) hi5 (by subst eaCodes_6; rfl) dX4_put_18 (fun H locs hG => ?_)
    refine lv_aload_n hx hb dX4_put_19 rfl (lv_at hl 0 rfl) ?_
    refine lv_dup hx hb dX4_put_20 rfl ?_
    refine g_get (v := .int iLetters) X hT hG fl_X4_24 23 rfl rfl rfl dX4_put_21 ?_
    refine lv_iconst (v := 1) hx hb dX4_put_24 (by decide) ?_
    refine lv_iadd hx hb dX4_put_25 ?_
    refine lv_topi (fun iLetters_7 eiLetters_7 => ?_)
    have er3 := bd_e eiLetters_7 er3
    refine g_putI (w' := ([iReadings, iAlterations, iRankings, iLetters_7, iCurrent, iDue, iSize, iLsize], [], [gCosts, gWorths, gMiddles, gApart, gApartWithout, gNeeded, gUps, gDowns, gKeys, gNexts, gShutKeys, aCodes_6, aPbegins, aPends, aPlengths, aBegins, aEnds, aLengths, aRanks, aRoadsByRank, aRow, aRanksBefore, aBusy, aOpen, aShut])) X hT hq hG fp_X4_24 23 rfl rfl gu_B_iLetters (Nat.le_of_ble_eq_true rfl) rfl dX4_put_26 (fun H locs hG => ?_)
    cases er3
    exact J3 H locs ls hG (lv_sub hl [] rfl)
def f7_letter (p1 : Int32) (iLetters : Int32) (aCodes : (Nat → Int32)) : Option (Int32 × Int32 × (Nat → Int32)) :=
  if p1 < 32 then (some ((-102), iLetters, aCodes)) else if p1 ≤ 126 then (if iLetters < 60 then (bnd2 (f4_put iLetters aCodes p1) fun (iLetters_4 : Int32) (aCodes_5 : (Nat → Int32)) => some (iLetters_4, iLetters_4, aCodes_5)) else some ((-104), iLetters, aCodes)) else some ((-102), iLetters, aCodes)
set_option maxHeartbeats 4000000 in
set_option maxRecDepth 100000 in
theorem c_X7_letter (hq : gJ layB q) {p1 : Int32} {o_r : Int32} {o_iLetters : Int32} {o_aCodes : (Nat → Int32)} (h : f7_letter p1 iLetters aCodes = some (o_r, o_iLetters, o_aCodes)) :
    GM l yX7_letter cX7_letter 2 (some .int) 1 21 D cI cZ layB q [.ref (q 22), .int p1] ([iReadings, iAlterations, iRankings, iLetters, iCurrent, iDue, iSize, iLsize], [], [gCosts, gWorths, gMiddles, gApart, gApartWithout, gNeeded, gUps, gDowns, gKeys, gNexts, gShutKeys, aCodes, aPbegins, aPends, aPlengths, aBegins, aEnds, aLengths, aRanks, aRoadsByRank, aRow, aRanksBefore, aBusy, aOpen, aShut]) (some (.int o_r)) ([iReadings, iAlterations, iRankings, o_iLetters, iCurrent, iDue, iSize, iLsize], [], [gCosts, gWorths, gMiddles, gApart, gApartWithout, gNeeded, gUps, gDowns, gKeys, gNexts, gShutKeys, o_aCodes, aPbegins, aPends, aPlengths, aBegins, aEnds, aLengths, aRanks, aRoadsByRank, aRow, aRanksBefore, aBusy, aOpen, aShut]) := by
  refine GM.go RX7 (by decide) rfl (Nat.le_of_ble_eq_true rfl) ?_
  intro p e s m args below meth c ls R Q H locs X hr hlk hT hG hl hR hQ
  have hx := X.1
  have hb := X.2.1
  have hl : lv_has ls 2 [(0, .ref (q 22)), (1, .int p1)] := hl
  unfold f7_letter at h
  refine lv_iload_n hx hb dX7_letter_0 rfl (lv_at hl 1 rfl) ?_
  refine lv_bipush (v := 32) hx hb dX7_letter_1 (by decide) ?_
  refine lv_icmp_lt (tgt := 12) hx hb dX7_letter_3 (by decide) (fun cb1 => ?_) (fun cb1 => ?_)
  · have h := ite_t cb1 h
    refine lv_bipush (v := (-102)) hx hb dX7_letter_12 (by decide) ?_
    cases h
    rw [hQ]
    exact g_iret X hT hG hr hlk dX7_letter_14
  · have h := ite_f cb1 h
    refine lv_iload_n hx hb dX7_letter_6 rfl (lv_at hl 1 rfl) ?_
    refine lv_bipush (v := 126) hx hb dX7_letter_7 (by decide) ?_
    refine lv_icmp_le (tgt := 15) hx hb dX7_letter_9 (by decide) (fun cb2 => ?_) (fun cb2 => ?_)
    · have h := ite_t cb2 h
      refine lv_aload_n hx hb dX7_letter_15 rfl (lv_at hl 0 rfl) ?_
      refine g_get (v := .ref (q 23)) X hT hG fl_X7_10 22 rfl rfl rfl dX7_letter_16 ?_
      refine g_get (v := .int iLetters) X hT hG fl_X7_51 23 rfl rfl rfl dX7_letter_19 ?_
      refine lv_bipush (v := 60) hx hb dX7_letter_22 (by decide) ?_
      refine lv_icmp_lt (tgt := 30) hx hb dX7_letter_24 (by decide) (fun cb3 => ?_) (fun cb3 => ?_)
      · have h := ite_t cb3 h
        refine lv_aload_n hx hb dX7_letter_30 rfl (lv_at hl 0 rfl) ?_
        refine g_get (v := .ref (q 23)) X hT hG fl_X7_10 22 rfl rfl rfl dX7_letter_31 ?_
        refine lv_iload_n hx hb dX7_letter_34 rfl (lv_at hl 1 rfl) ?_
        obtain ⟨iLetters_4, aCodes_5, ec6, h⟩ := bnd2_some h
        refine g_callVv [.int p1] [] 23 X hT hG ml_X7_55 (c_X4_put hq ec6) rfl rfl rfl rfl rfl hl.1 (Nat.le_of_ble_eq_true rfl) (by rw [hR]; exact ⟨Nat.le_of_ble_eq_true rfl, Nat.le_of_ble_eq_true rfl⟩) dX7_letter_35 (fun H locs hG => ?_)
        have hG : GH D cI cZ layB q s ([iReadings, iAlterations, iRankings, iLetters_4, iCurrent, iDue, iSize, iLsize], [], [gCosts, gWorths, gMiddles, gApart, gApartWithout, gNeeded, gUps, gDowns, gKeys, gNexts, gShutKeys, aCodes_5, aPbegins, aPends, aPlengths, aBegins, aEnds, aLengths, aRanks, aRoadsByRank, aRow, aRanksBefore, aBusy, aOpen, aShut]) H locs := hG
        refine lv_aload_n hx hb dX7_letter_38 rfl (lv_at hl 0 rfl) ?_
        refine g_get (v := .ref (q 23)) X hT hG fl_X7_10 22 rfl rfl rfl dX7_letter_39 ?_
        refine g_get (v := .int iLetters_4) X hT hG fl_X7_51 23 rfl rfl rfl dX7_letter_42 ?_
        cases h
        rw [hQ]
        exact g_iret X hT hG hr hlk dX7_letter_45
      · have h := ite_f cb3 h
        refine lv_bipush (v := (-104)) hx hb dX7_letter_27 (by decide) ?_
        cases h
        rw [hQ]
        exact g_iret X hT hG hr hlk dX7_letter_29
    · have h := ite_f cb2 h
      refine lv_bipush (v := (-102)) hx hb dX7_letter_12 (by decide) ?_
      cases h
      rw [hQ]
      exact g_iret X hT hG hr hlk dX7_letter_14
def f7_blank (iLetters : Int32) : Option (Int32 × Int32) :=
  some (iLetters, 0)
set_option maxHeartbeats 4000000 in
set_option maxRecDepth 100000 in
theorem c_X7_blank (hq : gJ layB q) {o_r : Int32} {o_iLetters : Int32} (h : f7_blank iLetters = some (o_r, o_iLetters)) :
    GM l yX7_blank cX7_blank 2 (some .int) 0 0 D cI cZ layB q [.ref (q 22)] ([iReadings, iAlterations, iRankings, iLetters, iCurrent, iDue, iSize, iLsize], [], [gCosts, gWorths, gMiddles, gApart, gApartWithout, gNeeded, gUps, gDowns, gKeys, gNexts, gShutKeys, aCodes, aPbegins, aPends, aPlengths, aBegins, aEnds, aLengths, aRanks, aRoadsByRank, aRow, aRanksBefore, aBusy, aOpen, aShut]) (some (.int o_r)) ([iReadings, iAlterations, iRankings, o_iLetters, iCurrent, iDue, iSize, iLsize], [], [gCosts, gWorths, gMiddles, gApart, gApartWithout, gNeeded, gUps, gDowns, gKeys, gNexts, gShutKeys, aCodes, aPbegins, aPends, aPlengths, aBegins, aEnds, aLengths, aRanks, aRoadsByRank, aRow, aRanksBefore, aBusy, aOpen, aShut]) := by
  refine GM.go RX7 (by decide) rfl (Nat.le_of_ble_eq_true rfl) ?_
  intro p e s m args below meth c ls R Q H locs X hr hlk hT hG hl hR hQ
  have hx := X.1
  have hb := X.2.1
  have hl : lv_has ls 2 [(0, .ref (q 22))] := hl
  unfold f7_blank at h
  refine lv_aload_n hx hb dX7_blank_0 rfl (lv_at hl 0 rfl) ?_
  refine g_get (v := .ref (q 23)) X hT hG fl_X7_10 22 rfl rfl rfl dX7_blank_1 ?_
  refine g_get (v := .int iLetters) X hT hG fl_X7_51 23 rfl rfl rfl dX7_blank_4 ?_
  refine lv_istore_n (lv' := [(1, .int iLetters), (0, .ref (q 22))]) hx hb dX7_blank_7 rfl hl (by decide) rfl (fun ls hl => ?_)
  refine lv_aload_n hx hb dX7_blank_8 rfl (lv_at hl 1 rfl) ?_
  refine g_get (v := .ref (q 23)) X hT hG fl_X7_10 22 rfl rfl rfl dX7_blank_9 ?_
  refine lv_iconst (v := 0) hx hb dX7_blank_12 (by decide) ?_
  refine g_putI (w' := ([iReadings, iAlterations, iRankings, 0, iCurrent, iDue, iSize, iLsize], [], [gCosts, gWorths, gMiddles, gApart, gApartWithout, gNeeded, gUps, gDowns, gKeys, gNexts, gShutKeys, aCodes, aPbegins, aPends, aPlengths, aBegins, aEnds, aLengths, aRanks, aRoadsByRank, aRow, aRanksBefore, aBusy, aOpen, aShut])) X hT hq hG fp_X7_51 23 rfl rfl gu_B_iLetters (Nat.le_of_ble_eq_true rfl) rfl dX7_blank_13 (fun H locs hG => ?_)
  refine lv_iload_n hx hb dX7_blank_16 rfl (lv_at hl 0 rfl) ?_
  cases h
  rw [hQ]
  exact g_iret X hT hG hr hlk dX7_blank_17
def f7_isPlace (p1 : Int32) : Option (Int32) :=
  bnd1 (if p1 < 0 then (some 0) else if 8 ≤ p1 then (some 0) else some 1) fun (y_1 : Int32) => ckb y_1 (some y_1)
set_option maxHeartbeats 4000000 in
set_option maxRecDepth 100000 in
theorem c_X7_isPlace (hq : gJ layB q) {p1 : Int32} {o_r : Int32} (h : f7_isPlace p1 = some o_r) :
    GM l yX7_isPlace cX7_isPlace 1 (some .boolean) 0 0 D cI cZ layB q [.int p1] ([iReadings, iAlterations, iRankings, iLetters, iCurrent, iDue, iSize, iLsize], [], [gCosts, gWorths, gMiddles, gApart, gApartWithout, gNeeded, gUps, gDowns, gKeys, gNexts, gShutKeys, aCodes, aPbegins, aPends, aPlengths, aBegins, aEnds, aLengths, aRanks, aRoadsByRank, aRow, aRanksBefore, aBusy, aOpen, aShut]) (some (.int o_r)) ([iReadings, iAlterations, iRankings, iLetters, iCurrent, iDue, iSize, iLsize], [], [gCosts, gWorths, gMiddles, gApart, gApartWithout, gNeeded, gUps, gDowns, gKeys, gNexts, gShutKeys, aCodes, aPbegins, aPends, aPlengths, aBegins, aEnds, aLengths, aRanks, aRoadsByRank, aRow, aRanksBefore, aBusy, aOpen, aShut]) := by
  refine GM.go RX7 (by decide) rfl (Nat.le_of_ble_eq_true rfl) ?_
  intro p e s m args below meth c ls R Q H locs X hr hlk hT hG hl hR hQ
  have hx := X.1
  have hb := X.2.1
  have hl : lv_has ls 1 [(0, .int p1)] := hl
  unfold f7_isPlace at h
  refine lv_iload_n hx hb dX7_isPlace_0 rfl (lv_at hl 0 rfl) ?_
  obtain ⟨y_1, er2, h⟩ := bnd1_some h
  have J2 : ∀ (H : Heap) (locs : List Loc) (ls : Array Slot), GH D cI cZ layB q s ([iReadings, iAlterations, iRankings, iLetters, iCurrent, iDue, iSize, iLsize], [], [gCosts, gWorths, gMiddles, gApart, gApartWithout, gNeeded, gUps, gDowns, gKeys, gNexts, gShutKeys, aCodes, aPbegins, aPends, aPlengths, aBegins, aEnds, aLengths, aRanks, aRoadsByRank, aRow, aRanksBefore, aBusy, aOpen, aShut]) H locs → lv_has ls 1 [] → W p l e R s m args below meth c H locs 0 0 Q (F0 m 15 ls [.int y_1]) := by
    intro H locs ls hG hl
    obtain ⟨hz, h⟩ := ckb_some h
    cases h
    rw [hQ]
    exact g_zret X hT hG hr hlk hz dX7_isPlace_15
  refine lv_if_lt (tgt := 14) hx hb dX7_isPlace_1 (by decide) (fun cb3 => ?_) (fun cb3 => ?_)
  · have er2 := ite_t cb3 er2
    refine lv_iconst (v := 0) hx hb dX7_isPlace_14 (by decide) ?_
    cases er2
    exact J2 H locs ls hG (lv_sub hl [] rfl)
  · have er2 := ite_f cb3 er2
    refine lv_iload_n hx hb dX7_isPlace_4 rfl (lv_at hl 0 rfl) ?_
    refine lv_bipush (v := 8) hx hb dX7_isPlace_5 (by decide) ?_
    refine lv_icmp_ge (tgt := 14) hx hb dX7_isPlace_7 (by decide) (fun cb4 => ?_) (fun cb4 => ?_)
    · have er2 := ite_t cb4 er2
      refine lv_iconst (v := 0) hx hb dX7_isPlace_14 (by decide) ?_
      cases er2
      exact J2 H locs ls hG (lv_sub hl [] rfl)
    · have er2 := ite_f cb4 er2
      refine lv_iconst (v := 1) hx hb dX7_isPlace_10 (by decide) ?_
      refine lv_goto (tgt := 15) hx hb dX7_isPlace_11 (by decide) ?_
      cases er2
      exact J2 H locs ls hG (lv_sub hl [] rfl)
def f4_takesBegin (p1 : Int32) (iDue : Int32) (aPbegins : (Nat → Int32)) (iCurrent : Int32) : Option (Int32 × Int32 × (Nat → Int32)) :=
  bd ((p1 - 97)) fun x2_1 => bnd1 (f7_isPlace x2_1) fun (r_2 : Int32) => if r_2 = 0 then (some (0, iDue, aPbegins)) else ckin iCurrent 12 (bd (upd aPbegins iCurrent.toNatClampNeg x2_1) fun aPbegins_6 => some (1, 1, aPbegins_6))
set_option maxHeartbeats 4000000 in
set_option maxRecDepth 100000 in
theorem c_X4_takesBegin (hq : gJ layB q) {p1 : Int32} {o_r : Int32} {o_iDue : Int32} {o_aPbegins : (Nat → Int32)} (h : f4_takesBegin p1 iDue aPbegins iCurrent = some (o_r, o_iDue, o_aPbegins)) :
    GM l yX4_takesBegin cX4_takesBegin 3 (some .boolean) 1 20 D cI cZ layB q [.ref (q 23), .int p1] ([iReadings, iAlterations, iRankings, iLetters, iCurrent, iDue, iSize, iLsize], [], [gCosts, gWorths, gMiddles, gApart, gApartWithout, gNeeded, gUps, gDowns, gKeys, gNexts, gShutKeys, aCodes, aPbegins, aPends, aPlengths, aBegins, aEnds, aLengths, aRanks, aRoadsByRank, aRow, aRanksBefore, aBusy, aOpen, aShut]) (some (.int o_r)) ([iReadings, iAlterations, iRankings, iLetters, iCurrent, o_iDue, iSize, iLsize], [], [gCosts, gWorths, gMiddles, gApart, gApartWithout, gNeeded, gUps, gDowns, gKeys, gNexts, gShutKeys, aCodes, o_aPbegins, aPends, aPlengths, aBegins, aEnds, aLengths, aRanks, aRoadsByRank, aRow, aRanksBefore, aBusy, aOpen, aShut]) := by
  refine GM.go RX4 (by decide) rfl (Nat.le_of_ble_eq_true rfl) ?_
  intro p e s m args below meth c ls R Q H locs X hr hlk hT hG hl hR hQ
  have hx := X.1
  have hb := X.2.1
  have hl : lv_has ls 3 [(0, .ref (q 23)), (1, .int p1)] := hl
  unfold f4_takesBegin at h
  refine lv_iload_n hx hb dX4_takesBegin_0 rfl (lv_at hl 1 rfl) ?_
  refine lv_bipush (v := 97) hx hb dX4_takesBegin_1 (by decide) ?_
  refine lv_isub hx hb dX4_takesBegin_3 ?_
  refine lv_topi (fun x2_1 ex2_1 => ?_)
  have h := bd_e ex2_1 h
  refine lv_istore_n (lv' := [(2, .int x2_1), (0, .ref (q 23)), (1, .int p1)]) hx hb dX4_takesBegin_4 rfl hl (by decide) rfl (fun ls hl => ?_)
  refine lv_iload_n hx hb dX4_takesBegin_5 rfl (lv_at hl 0 rfl) ?_
  obtain ⟨r_2, ec3, h⟩ := bnd1_some h
  refine g_callSNr [.int x2_1] [] X hT hG hT.2 mn_isPlace (c_X7_isPlace hq ec3) rfl rfl hl.1 (Nat.le_of_ble_eq_true rfl) (by rw [hR]; exact ⟨Nat.le_of_ble_eq_true rfl, Nat.le_of_ble_eq_true rfl⟩) dX4_takesBegin_6 (fun H locs hG => ?_)
  refine lv_if_ne (tgt := 14) hx hb dX4_takesBegin_9 (by decide) (fun cb4 => ?_) (fun cb4 => ?_)
  · have h := ite_f cb4 h
    refine lv_aload_n hx hb dX4_takesBegin_14 rfl (lv_at hl 1 rfl) ?_
    refine g_get (v := .ref (q 30)) X hT hG fl_X4_15 23 rfl rfl rfl dX4_takesBegin_15 ?_
    refine lv_aload_n hx hb dX4_takesBegin_18 rfl (lv_at hl 1 rfl) ?_
    refine g_get (v := .int iCurrent) X hT hG fl_X4_28 23 rfl rfl rfl dX4_takesBegin_19 ?_
    refine lv_iload_n hx hb dX4_takesBegin_22 rfl (lv_at hl 0 rfl) ?_
    obtain ⟨hi5, h⟩ := ckin_some h
    obtain ⟨aPbegins_6, eaPbegins_6⟩ : ∃ z : Nat → Int32, z = upd aPbegins iCurrent.toNatClampNeg x2_1 := ⟨_, rfl⟩
    have h := bd_e eaPbegins_6 h
    refine g_ast (w' := ([iReadings, iAlterations, iRankings, iLetters, iCurrent, iDue, iSize, iLsize], [], [gCosts, gWorths, gMiddles, gApart, gApartWithout, gNeeded, gUps, gDowns, gKeys, gNexts, gShutKeys, aCodes, aPbegins_6, aPends, aPlengths, aBegins, aEnds, aLengths, aRanks, aRoadsByRank, aRow, aRanksBefore, aBusy, aOpen, aShut])) X hT hq hG 30 rfl ga_B_aPbegins (Nat.le_of_ble_eq_true rfl) hi5 (by subst eaPbegins_6; rfl) dX4_takesBegin_23 (fun H locs hG => ?_)
    refine lv_aload_n hx hb dX4_takesBegin_24 rfl (lv_at hl 1 rfl) ?_
    refine lv_iconst (v := 1) hx hb dX4_takesBegin_25 (by decide) ?_
    refine g_putI (w' := ([iReadings, iAlterations, iRankings, iLetters, iCurrent, 1, iSize, iLsize], [], [gCosts, gWorths, gMiddles, gApart, gApartWithout, gNeeded, gUps, gDowns, gKeys, gNexts, gShutKeys, aCodes, aPbegins_6, aPends, aPlengths, aBegins, aEnds, aLengths, aRanks, aRoadsByRank, aRow, aRanksBefore, aBusy, aOpen, aShut])) X hT hq hG fp_X4_31 23 rfl rfl gu_B_iDue (Nat.le_of_ble_eq_true rfl) rfl dX4_takesBegin_26 (fun H locs hG => ?_)
    refine lv_iconst (v := 1) hx hb dX4_takesBegin_29 (by decide) ?_
    cases h
    rw [hQ]
    exact g_zret X hT hG hr hlk (Or.inr rfl) dX4_takesBegin_30
  · have h := ite_t cb4 h
    refine lv_iconst (v := 0) hx hb dX4_takesBegin_12 (by decide) ?_
    cases h
    rw [hQ]
    exact g_zret X hT hG hr hlk (Or.inl rfl) dX4_takesBegin_13
def f4_takesEnd (p1 : Int32) (iDue : Int32) (aPends : (Nat → Int32)) (iCurrent : Int32) (aPbegins : (Nat → Int32)) : Option (Int32 × Int32 × (Nat → Int32)) :=
  bd ((p1 - 97)) fun x2_1 => bnd1 (f7_isPlace x2_1) fun (r_2 : Int32) => if r_2 = 0 then (some (0, iDue, aPends)) else ckin iCurrent 12 (if x2_1 = (aPbegins iCurrent.toNatClampNeg) then (some (0, iDue, aPends)) else ckin iCurrent 12 (bd (upd aPends iCurrent.toNatClampNeg x2_1) fun aPends_8 => some (1, 2, aPends_8)))
set_option maxHeartbeats 4000000 in
set_option maxRecDepth 100000 in
theorem c_X4_takesEnd (hq : gJ layB q) {p1 : Int32} {o_r : Int32} {o_iDue : Int32} {o_aPends : (Nat → Int32)} (h : f4_takesEnd p1 iDue aPends iCurrent aPbegins = some (o_r, o_iDue, o_aPends)) :
    GM l yX4_takesEnd cX4_takesEnd 3 (some .boolean) 1 20 D cI cZ layB q [.ref (q 23), .int p1] ([iReadings, iAlterations, iRankings, iLetters, iCurrent, iDue, iSize, iLsize], [], [gCosts, gWorths, gMiddles, gApart, gApartWithout, gNeeded, gUps, gDowns, gKeys, gNexts, gShutKeys, aCodes, aPbegins, aPends, aPlengths, aBegins, aEnds, aLengths, aRanks, aRoadsByRank, aRow, aRanksBefore, aBusy, aOpen, aShut]) (some (.int o_r)) ([iReadings, iAlterations, iRankings, iLetters, iCurrent, o_iDue, iSize, iLsize], [], [gCosts, gWorths, gMiddles, gApart, gApartWithout, gNeeded, gUps, gDowns, gKeys, gNexts, gShutKeys, aCodes, aPbegins, o_aPends, aPlengths, aBegins, aEnds, aLengths, aRanks, aRoadsByRank, aRow, aRanksBefore, aBusy, aOpen, aShut]) := by
  refine GM.go RX4 (by decide) rfl (Nat.le_of_ble_eq_true rfl) ?_
  intro p e s m args below meth c ls R Q H locs X hr hlk hT hG hl hR hQ
  have hx := X.1
  have hb := X.2.1
  have hl : lv_has ls 3 [(0, .ref (q 23)), (1, .int p1)] := hl
  unfold f4_takesEnd at h
  refine lv_iload_n hx hb dX4_takesEnd_0 rfl (lv_at hl 1 rfl) ?_
  refine lv_bipush (v := 97) hx hb dX4_takesEnd_1 (by decide) ?_
  refine lv_isub hx hb dX4_takesEnd_3 ?_
  refine lv_topi (fun x2_1 ex2_1 => ?_)
  have h := bd_e ex2_1 h
  refine lv_istore_n (lv' := [(2, .int x2_1), (0, .ref (q 23)), (1, .int p1)]) hx hb dX4_takesEnd_4 rfl hl (by decide) rfl (fun ls hl => ?_)
  refine lv_iload_n hx hb dX4_takesEnd_5 rfl (lv_at hl 0 rfl) ?_
  obtain ⟨r_2, ec3, h⟩ := bnd1_some h
  refine g_callSNr [.int x2_1] [] X hT hG hT.2 mn_isPlace (c_X7_isPlace hq ec3) rfl rfl hl.1 (Nat.le_of_ble_eq_true rfl) (by rw [hR]; exact ⟨Nat.le_of_ble_eq_true rfl, Nat.le_of_ble_eq_true rfl⟩) dX4_takesEnd_6 (fun H locs hG => ?_)
  refine lv_if_eq (tgt := 25) hx hb dX4_takesEnd_9 (by decide) (fun cb4 => ?_) (fun cb4 => ?_)
  · have h := ite_t cb4 h
    refine lv_iconst (v := 0) hx hb dX4_takesEnd_25 (by decide) ?_
    cases h
    rw [hQ]
    exact g_zret X hT hG hr hlk (Or.inl rfl) dX4_takesEnd_26
  · have h := ite_f cb4 h
    refine lv_iload_n hx hb dX4_takesEnd_12 rfl (lv_at hl 0 rfl) ?_
    refine lv_aload_n hx hb dX4_takesEnd_13 rfl (lv_at hl 1 rfl) ?_
    refine g_get (v := .ref (q 30)) X hT hG fl_X4_15 23 rfl rfl rfl dX4_takesEnd_14 ?_
    refine lv_aload_n hx hb dX4_takesEnd_17 rfl (lv_at hl 1 rfl) ?_
    refine g_get (v := .int iCurrent) X hT hG fl_X4_28 23 rfl rfl rfl dX4_takesEnd_18 ?_
    obtain ⟨hi5, h⟩ := ckin_some h
    refine g_ald (f := aPbegins) X hT hG 30 rfl rfl hi5 dX4_takesEnd_21 ?_
    refine lv_icmp_ne (tgt := 27) hx hb dX4_takesEnd_22 (by decide) (fun cb6 => ?_) (fun cb6 => ?_)
    · have h := ite_f cb6 h
      refine lv_aload_n hx hb dX4_takesEnd_27 rfl (lv_at hl 1 rfl) ?_
      refine g_get (v := .ref (q 31)) X hT hG fl_X4_18 23 rfl rfl rfl dX4_takesEnd_28 ?_
      refine lv_aload_n hx hb dX4_takesEnd_31 rfl (lv_at hl 1 rfl) ?_
      refine g_get (v := .int iCurrent) X hT hG fl_X4_28 23 rfl rfl rfl dX4_takesEnd_32 ?_
      refine lv_iload_n hx hb dX4_takesEnd_35 rfl (lv_at hl 0 rfl) ?_
      obtain ⟨hi7, h⟩ := ckin_some h
      obtain ⟨aPends_8, eaPends_8⟩ : ∃ z : Nat → Int32, z = upd aPends iCurrent.toNatClampNeg x2_1 := ⟨_, rfl⟩
      have h := bd_e eaPends_8 h
      refine g_ast (w' := ([iReadings, iAlterations, iRankings, iLetters, iCurrent, iDue, iSize, iLsize], [], [gCosts, gWorths, gMiddles, gApart, gApartWithout, gNeeded, gUps, gDowns, gKeys, gNexts, gShutKeys, aCodes, aPbegins, aPends_8, aPlengths, aBegins, aEnds, aLengths, aRanks, aRoadsByRank, aRow, aRanksBefore, aBusy, aOpen, aShut])) X hT hq hG 31 rfl ga_B_aPends (Nat.le_of_ble_eq_true rfl) hi7 (by subst eaPends_8; rfl) dX4_takesEnd_36 (fun H locs hG => ?_)
      refine lv_aload_n hx hb dX4_takesEnd_37 rfl (lv_at hl 1 rfl) ?_
      refine lv_iconst (v := 2) hx hb dX4_takesEnd_38 (by decide) ?_
      refine g_putI (w' := ([iReadings, iAlterations, iRankings, iLetters, iCurrent, 2, iSize, iLsize], [], [gCosts, gWorths, gMiddles, gApart, gApartWithout, gNeeded, gUps, gDowns, gKeys, gNexts, gShutKeys, aCodes, aPbegins, aPends_8, aPlengths, aBegins, aEnds, aLengths, aRanks, aRoadsByRank, aRow, aRanksBefore, aBusy, aOpen, aShut])) X hT hq hG fp_X4_31 23 rfl rfl gu_B_iDue (Nat.le_of_ble_eq_true rfl) rfl dX4_takesEnd_39 (fun H locs hG => ?_)
      refine lv_iconst (v := 1) hx hb dX4_takesEnd_42 (by decide) ?_
      cases h
      rw [hQ]
      exact g_zret X hT hG hr hlk (Or.inr rfl) dX4_takesEnd_43
    · have h := ite_t cb6 h
      refine lv_iconst (v := 0) hx hb dX4_takesEnd_25 (by decide) ?_
      cases h
      rw [hQ]
      exact g_zret X hT hG hr hlk (Or.inl rfl) dX4_takesEnd_26
def f4_takesFirstFigure (p1 : Int32) (iDue : Int32) (aPlengths : (Nat → Int32)) (iCurrent : Int32) : Option (Int32 × Int32 × (Nat → Int32)) :=
  if p1 < 49 then (some (0, iDue, aPlengths)) else if p1 ≤ 57 then (ckin iCurrent 12 (bd (upd aPlengths iCurrent.toNatClampNeg (p1 - 48)) fun aPlengths_4 => some (1, 3, aPlengths_4))) else some (0, iDue, aPlengths)
set_option maxHeartbeats 4000000 in
set_option maxRecDepth 100000 in
theorem c_X4_takesFirstFigure (hq : gJ layB q) {p1 : Int32} {o_r : Int32} {o_iDue : Int32} {o_aPlengths : (Nat → Int32)} (h : f4_takesFirstFigure p1 iDue aPlengths iCurrent = some (o_r, o_iDue, o_aPlengths)) :
    GM l yX4_takesFirstFigure cX4_takesFirstFigure 2 (some .boolean) 0 0 D cI cZ layB q [.ref (q 23), .int p1] ([iReadings, iAlterations, iRankings, iLetters, iCurrent, iDue, iSize, iLsize], [], [gCosts, gWorths, gMiddles, gApart, gApartWithout, gNeeded, gUps, gDowns, gKeys, gNexts, gShutKeys, aCodes, aPbegins, aPends, aPlengths, aBegins, aEnds, aLengths, aRanks, aRoadsByRank, aRow, aRanksBefore, aBusy, aOpen, aShut]) (some (.int o_r)) ([iReadings, iAlterations, iRankings, iLetters, iCurrent, o_iDue, iSize, iLsize], [], [gCosts, gWorths, gMiddles, gApart, gApartWithout, gNeeded, gUps, gDowns, gKeys, gNexts, gShutKeys, aCodes, aPbegins, aPends, o_aPlengths, aBegins, aEnds, aLengths, aRanks, aRoadsByRank, aRow, aRanksBefore, aBusy, aOpen, aShut]) := by
  refine GM.go RX4 (by decide) rfl (Nat.le_of_ble_eq_true rfl) ?_
  intro p e s m args below meth c ls R Q H locs X hr hlk hT hG hl hR hQ
  have hx := X.1
  have hb := X.2.1
  have hl : lv_has ls 2 [(0, .ref (q 23)), (1, .int p1)] := hl
  unfold f4_takesFirstFigure at h
  refine lv_iload_n hx hb dX4_takesFirstFigure_0 rfl (lv_at hl 1 rfl) ?_
  refine lv_bipush (v := 49) hx hb dX4_takesFirstFigure_1 (by decide) ?_
  refine lv_icmp_lt (tgt := 12) hx hb dX4_takesFirstFigure_3 (by decide) (fun cb1 => ?_) (fun cb1 => ?_)
  · have h := ite_t cb1 h
    refine lv_iconst (v := 0) hx hb dX4_takesFirstFigure_12 (by decide) ?_
    cases h
    rw [hQ]
    exact g_zret X hT hG hr hlk (Or.inl rfl) dX4_takesFirstFigure_13
  · have h := ite_f cb1 h
    refine lv_iload_n hx hb dX4_takesFirstFigure_6 rfl (lv_at hl 1 rfl) ?_
    refine lv_bipush (v := 57) hx hb dX4_takesFirstFigure_7 (by decide) ?_
    refine lv_icmp_le (tgt := 14) hx hb dX4_takesFirstFigure_9 (by decide) (fun cb2 => ?_) (fun cb2 => ?_)
    · have h := ite_t cb2 h
      refine lv_aload_n hx hb dX4_takesFirstFigure_14 rfl (lv_at hl 0 rfl) ?_
      refine g_get (v := .ref (q 32)) X hT hG fl_X4_21 23 rfl rfl rfl dX4_takesFirstFigure_15 ?_
      refine lv_aload_n hx hb dX4_takesFirstFigure_18 rfl (lv_at hl 0 rfl) ?_
      refine g_get (v := .int iCurrent) X hT hG fl_X4_28 23 rfl rfl rfl dX4_takesFirstFigure_19 ?_
      refine lv_iload_n hx hb dX4_takesFirstFigure_22 rfl (lv_at hl 1 rfl) ?_
      refine lv_bipush (v := 48) hx hb dX4_takesFirstFigure_23 (by decide) ?_
      refine lv_isub hx hb dX4_takesFirstFigure_25 ?_
      obtain ⟨hi3, h⟩ := ckin_some h
      obtain ⟨aPlengths_4, eaPlengths_4⟩ : ∃ z : Nat → Int32, z = upd aPlengths iCurrent.toNatClampNeg (p1 - 48) := ⟨_, rfl⟩
      have h := bd_e eaPlengths_4 h
      refine g_ast (w' := ([iReadings, iAlterations, iRankings, iLetters, iCurrent, iDue, iSize, iLsize], [], [gCosts, gWorths, gMiddles, gApart, gApartWithout, gNeeded, gUps, gDowns, gKeys, gNexts, gShutKeys, aCodes, aPbegins, aPends, aPlengths_4, aBegins, aEnds, aLengths, aRanks, aRoadsByRank, aRow, aRanksBefore, aBusy, aOpen, aShut])) X hT hq hG 32 rfl ga_B_aPlengths (Nat.le_of_ble_eq_true rfl) hi3 (by subst eaPlengths_4; rfl) dX4_takesFirstFigure_26 (fun H locs hG => ?_)
      refine lv_aload_n hx hb dX4_takesFirstFigure_27 rfl (lv_at hl 0 rfl) ?_
      refine lv_iconst (v := 3) hx hb dX4_takesFirstFigure_28 (by decide) ?_
      refine g_putI (w' := ([iReadings, iAlterations, iRankings, iLetters, iCurrent, 3, iSize, iLsize], [], [gCosts, gWorths, gMiddles, gApart, gApartWithout, gNeeded, gUps, gDowns, gKeys, gNexts, gShutKeys, aCodes, aPbegins, aPends, aPlengths_4, aBegins, aEnds, aLengths, aRanks, aRoadsByRank, aRow, aRanksBefore, aBusy, aOpen, aShut])) X hT hq hG fp_X4_31 23 rfl rfl gu_B_iDue (Nat.le_of_ble_eq_true rfl) rfl dX4_takesFirstFigure_29 (fun H locs hG => ?_)
      refine lv_iconst (v := 1) hx hb dX4_takesFirstFigure_32 (by decide) ?_
      cases h
      rw [hQ]
      exact g_zret X hT hG hr hlk (Or.inr rfl) dX4_takesFirstFigure_33
    · have h := ite_f cb2 h
      refine lv_iconst (v := 0) hx hb dX4_takesFirstFigure_12 (by decide) ?_
      cases h
      rw [hQ]
      exact g_zret X hT hG hr hlk (Or.inl rfl) dX4_takesFirstFigure_13
def f4_takesSecondFigure (p1 : Int32) (iDue : Int32) (aPlengths : (Nat → Int32)) (iCurrent : Int32) : Option (Int32 × Int32 × (Nat → Int32)) :=
  if p1 < 48 then (some (0, iDue, aPlengths)) else if p1 ≤ 57 then (ckin iCurrent 12 (ckin iCurrent 12 (bd (upd aPlengths iCurrent.toNatClampNeg ((((aPlengths iCurrent.toNatClampNeg) * 10) + p1) - 48)) fun aPlengths_5 => some (1, 4, aPlengths_5)))) else some (0, iDue, aPlengths)
set_option maxHeartbeats 4000000 in
set_option maxRecDepth 100000 in
theorem c_X4_takesSecondFigure (hq : gJ layB q) {p1 : Int32} {o_r : Int32} {o_iDue : Int32} {o_aPlengths : (Nat → Int32)} (h : f4_takesSecondFigure p1 iDue aPlengths iCurrent = some (o_r, o_iDue, o_aPlengths)) :
    GM l yX4_takesSecondFigure cX4_takesSecondFigure 2 (some .boolean) 0 0 D cI cZ layB q [.ref (q 23), .int p1] ([iReadings, iAlterations, iRankings, iLetters, iCurrent, iDue, iSize, iLsize], [], [gCosts, gWorths, gMiddles, gApart, gApartWithout, gNeeded, gUps, gDowns, gKeys, gNexts, gShutKeys, aCodes, aPbegins, aPends, aPlengths, aBegins, aEnds, aLengths, aRanks, aRoadsByRank, aRow, aRanksBefore, aBusy, aOpen, aShut]) (some (.int o_r)) ([iReadings, iAlterations, iRankings, iLetters, iCurrent, o_iDue, iSize, iLsize], [], [gCosts, gWorths, gMiddles, gApart, gApartWithout, gNeeded, gUps, gDowns, gKeys, gNexts, gShutKeys, aCodes, aPbegins, aPends, o_aPlengths, aBegins, aEnds, aLengths, aRanks, aRoadsByRank, aRow, aRanksBefore, aBusy, aOpen, aShut]) := by
  refine GM.go RX4 (by decide) rfl (Nat.le_of_ble_eq_true rfl) ?_
  intro p e s m args below meth c ls R Q H locs X hr hlk hT hG hl hR hQ
  have hx := X.1
  have hb := X.2.1
  have hl : lv_has ls 2 [(0, .ref (q 23)), (1, .int p1)] := hl
  unfold f4_takesSecondFigure at h
  refine lv_iload_n hx hb dX4_takesSecondFigure_0 rfl (lv_at hl 1 rfl) ?_
  refine lv_bipush (v := 48) hx hb dX4_takesSecondFigure_1 (by decide) ?_
  refine lv_icmp_lt (tgt := 12) hx hb dX4_takesSecondFigure_3 (by decide) (fun cb1 => ?_) (fun cb1 => ?_)
  · have h := ite_t cb1 h
    refine lv_iconst (v := 0) hx hb dX4_takesSecondFigure_12 (by decide) ?_
    cases h
    rw [hQ]
    exact g_zret X hT hG hr hlk (Or.inl rfl) dX4_takesSecondFigure_13
  · have h := ite_f cb1 h
    refine lv_iload_n hx hb dX4_takesSecondFigure_6 rfl (lv_at hl 1 rfl) ?_
    refine lv_bipush (v := 57) hx hb dX4_takesSecondFigure_7 (by decide) ?_
    refine lv_icmp_le (tgt := 14) hx hb dX4_takesSecondFigure_9 (by decide) (fun cb2 => ?_) (fun cb2 => ?_)
    · have h := ite_t cb2 h
      refine lv_aload_n hx hb dX4_takesSecondFigure_14 rfl (lv_at hl 0 rfl) ?_
      refine g_get (v := .ref (q 32)) X hT hG fl_X4_21 23 rfl rfl rfl dX4_takesSecondFigure_15 ?_
      refine lv_aload_n hx hb dX4_takesSecondFigure_18 rfl (lv_at hl 0 rfl) ?_
      refine g_get (v := .int iCurrent) X hT hG fl_X4_28 23 rfl rfl rfl dX4_takesSecondFigure_19 ?_
      refine lv_aload_n hx hb dX4_takesSecondFigure_22 rfl (lv_at hl 0 rfl) ?_
      refine g_get (v := .ref (q 32)) X hT hG fl_X4_21 23 rfl rfl rfl dX4_takesSecondFigure_23 ?_
      refine lv_aload_n hx hb dX4_takesSecondFigure_26 rfl (lv_at hl 0 rfl) ?_
      refine g_get (v := .int iCurrent) X hT hG fl_X4_28 23 rfl rfl rfl dX4_takesSecondFigure_27 ?_
      obtain ⟨hi3, h⟩ := ckin_some h
      refine g_ald (f := aPlengths) X hT hG 32 rfl rfl hi3 dX4_takesSecondFigure_30 ?_
      refine lv_bipush (v := 10) hx hb dX4_takesSecondFigure_31 (by decide) ?_
      refine lv_imul hx hb dX4_takesSecondFigure_33 ?_
      refine lv_iload_n hx hb dX4_takesSecondFigure_34 rfl (lv_at hl 1 rfl) ?_
      refine lv_iadd hx hb dX4_takesSecondFigure_35 ?_
      refine lv_bipush (v := 48) hx hb dX4_takesSecondFigure_36 (by decide) ?_
      refine lv_isub hx hb dX4_takesSecondFigure_38 ?_
      obtain ⟨hi4, h⟩ := ckin_some h
      obtain ⟨aPlengths_5, eaPlengths_5⟩ : ∃ z : Nat → Int32, z = upd aPlengths iCurrent.toNatClampNeg ((((aPlengths iCurrent.toNatClampNeg) * 10) + p1) - 48) := ⟨_, rfl⟩
      have h := bd_e eaPlengths_5 h
      refine g_ast (w' := ([iReadings, iAlterations, iRankings, iLetters, iCurrent, iDue, iSize, iLsize], [], [gCosts, gWorths, gMiddles, gApart, gApartWithout, gNeeded, gUps, gDowns, gKeys, gNexts, gShutKeys, aCodes, aPbegins, aPends, aPlengths_5, aBegins, aEnds, aLengths, aRanks, aRoadsByRank, aRow, aRanksBefore, aBusy, aOpen, aShut])) X hT hq hG 32 rfl ga_B_aPlengths (Nat.le_of_ble_eq_true rfl) hi4 (by subst eaPlengths_5; rfl) dX4_takesSecondFigure_39 (fun H locs hG => ?_)
      refine lv_aload_n hx hb dX4_takesSecondFigure_40 rfl (lv_at hl 0 rfl) ?_
      refine lv_iconst (v := 4) hx hb dX4_takesSecondFigure_41 (by decide) ?_
      refine g_putI (w' := ([iReadings, iAlterations, iRankings, iLetters, iCurrent, 4, iSize, iLsize], [], [gCosts, gWorths, gMiddles, gApart, gApartWithout, gNeeded, gUps, gDowns, gKeys, gNexts, gShutKeys, aCodes, aPbegins, aPends, aPlengths_5, aBegins, aEnds, aLengths, aRanks, aRoadsByRank, aRow, aRanksBefore, aBusy, aOpen, aShut])) X hT hq hG fp_X4_31 23 rfl rfl gu_B_iDue (Nat.le_of_ble_eq_true rfl) rfl dX4_takesSecondFigure_42 (fun H locs hG => ?_)
      refine lv_iconst (v := 1) hx hb dX4_takesSecondFigure_45 (by decide) ?_
      cases h
      rw [hQ]
      exact g_zret X hT hG hr hlk (Or.inr rfl) dX4_takesSecondFigure_46
    · have h := ite_f cb2 h
      refine lv_iconst (v := 0) hx hb dX4_takesSecondFigure_12 (by decide) ?_
      cases h
      rw [hQ]
      exact g_zret X hT hG hr hlk (Or.inl rfl) dX4_takesSecondFigure_13
def f4_takesComma (p1 : Int32) (iCurrent : Int32) (iDue : Int32) : Option (Int32 × Int32 × Int32) :=
  if p1 = 44 then (if (iCurrent + 1) < 12 then (bd ((iCurrent + 1)) fun iCurrent_3 => some (1, iCurrent_3, 0)) else some (0, iCurrent, iDue)) else some (0, iCurrent, iDue)
set_option maxHeartbeats 4000000 in
set_option maxRecDepth 100000 in
theorem c_X4_takesComma (hq : gJ layB q) {p1 : Int32} {o_r : Int32} {o_iCurrent : Int32} {o_iDue : Int32} (h : f4_takesComma p1 iCurrent iDue = some (o_r, o_iCurrent, o_iDue)) :
    GM l yX4_takesComma cX4_takesComma 2 (some .boolean) 0 0 D cI cZ layB q [.ref (q 23), .int p1] ([iReadings, iAlterations, iRankings, iLetters, iCurrent, iDue, iSize, iLsize], [], [gCosts, gWorths, gMiddles, gApart, gApartWithout, gNeeded, gUps, gDowns, gKeys, gNexts, gShutKeys, aCodes, aPbegins, aPends, aPlengths, aBegins, aEnds, aLengths, aRanks, aRoadsByRank, aRow, aRanksBefore, aBusy, aOpen, aShut]) (some (.int o_r)) ([iReadings, iAlterations, iRankings, iLetters, o_iCurrent, o_iDue, iSize, iLsize], [], [gCosts, gWorths, gMiddles, gApart, gApartWithout, gNeeded, gUps, gDowns, gKeys, gNexts, gShutKeys, aCodes, aPbegins, aPends, aPlengths, aBegins, aEnds, aLengths, aRanks, aRoadsByRank, aRow, aRanksBefore, aBusy, aOpen, aShut]) := by
  refine GM.go RX4 (by decide) rfl (Nat.le_of_ble_eq_true rfl) ?_
  intro p e s m args below meth c ls R Q H locs X hr hlk hT hG hl hR hQ
  have hx := X.1
  have hb := X.2.1
  have hl : lv_has ls 2 [(0, .ref (q 23)), (1, .int p1)] := hl
  unfold f4_takesComma at h
  refine lv_iload_n hx hb dX4_takesComma_0 rfl (lv_at hl 1 rfl) ?_
  refine lv_bipush (v := 44) hx hb dX4_takesComma_1 (by decide) ?_
  refine lv_icmp_ne (tgt := 17) hx hb dX4_takesComma_3 (by decide) (fun cb1 => ?_) (fun cb1 => ?_)
  · have h := ite_f cb1 h
    refine lv_iconst (v := 0) hx hb dX4_takesComma_17 (by decide) ?_
    cases h
    rw [hQ]
    exact g_zret X hT hG hr hlk (Or.inl rfl) dX4_takesComma_18
  · have h := ite_t cb1 h
    refine lv_aload_n hx hb dX4_takesComma_6 rfl (lv_at hl 0 rfl) ?_
    refine g_get (v := .int iCurrent) X hT hG fl_X4_28 23 rfl rfl rfl dX4_takesComma_7 ?_
    refine lv_iconst (v := 1) hx hb dX4_takesComma_10 (by decide) ?_
    refine lv_iadd hx hb dX4_takesComma_11 ?_
    refine lv_bipush (v := 12) hx hb dX4_takesComma_12 (by decide) ?_
    refine lv_icmp_lt (tgt := 19) hx hb dX4_takesComma_14 (by decide) (fun cb2 => ?_) (fun cb2 => ?_)
    · have h := ite_t cb2 h
      refine lv_aload_n hx hb dX4_takesComma_19 rfl (lv_at hl 0 rfl) ?_
      refine lv_dup hx hb dX4_takesComma_20 rfl ?_
      refine g_get (v := .int iCurrent) X hT hG fl_X4_28 23 rfl rfl rfl dX4_takesComma_21 ?_
      refine lv_iconst (v := 1) hx hb dX4_takesComma_24 (by decide) ?_
      refine lv_iadd hx hb dX4_takesComma_25 ?_
      refine lv_topi (fun iCurrent_3 eiCurrent_3 => ?_)
      have h := bd_e eiCurrent_3 h
      refine g_putI (w' := ([iReadings, iAlterations, iRankings, iLetters, iCurrent_3, iDue, iSize, iLsize], [], [gCosts, gWorths, gMiddles, gApart, gApartWithout, gNeeded, gUps, gDowns, gKeys, gNexts, gShutKeys, aCodes, aPbegins, aPends, aPlengths, aBegins, aEnds, aLengths, aRanks, aRoadsByRank, aRow, aRanksBefore, aBusy, aOpen, aShut])) X hT hq hG fp_X4_28 23 rfl rfl gu_B_iCurrent (Nat.le_of_ble_eq_true rfl) rfl dX4_takesComma_26 (fun H locs hG => ?_)
      refine lv_aload_n hx hb dX4_takesComma_29 rfl (lv_at hl 0 rfl) ?_
      refine lv_iconst (v := 0) hx hb dX4_takesComma_30 (by decide) ?_
      refine g_putI (w' := ([iReadings, iAlterations, iRankings, iLetters, iCurrent_3, 0, iSize, iLsize], [], [gCosts, gWorths, gMiddles, gApart, gApartWithout, gNeeded, gUps, gDowns, gKeys, gNexts, gShutKeys, aCodes, aPbegins, aPends, aPlengths, aBegins, aEnds, aLengths, aRanks, aRoadsByRank, aRow, aRanksBefore, aBusy, aOpen, aShut])) X hT hq hG fp_X4_31 23 rfl rfl gu_B_iDue (Nat.le_of_ble_eq_true rfl) rfl dX4_takesComma_31 (fun H locs hG => ?_)
      refine lv_iconst (v := 1) hx hb dX4_takesComma_34 (by decide) ?_
      cases h
      rw [hQ]
      exact g_zret X hT hG hr hlk (Or.inr rfl) dX4_takesComma_35
    · have h := ite_f cb2 h
      refine lv_iconst (v := 0) hx hb dX4_takesComma_17 (by decide) ?_
      cases h
      rw [hQ]
      exact g_zret X hT hG hr hlk (Or.inl rfl) dX4_takesComma_18
def f4_takes (iDue : Int32) (p1 : Int32) (aPbegins : (Nat → Int32)) (iCurrent : Int32) (aPends : (Nat → Int32)) (aPlengths : (Nat → Int32)) : Option (Int32 × Int32 × Int32 × (Nat → Int32) × (Nat → Int32) × (Nat → Int32)) :=
  if iDue = 0 then (bnd3 (f4_takesBegin p1 iDue aPbegins iCurrent) fun (r_2 : Int32) (iDue_3 : Int32) (aPbegins_4 : (Nat → Int32)) => ckb r_2 (some (r_2, iCurrent, iDue_3, aPbegins_4, aPends, aPlengths))) else if iDue = 1 then (bnd3 (f4_takesEnd p1 iDue aPends iCurrent aPbegins) fun (r_7 : Int32) (iDue_8 : Int32) (aPends_9 : (Nat → Int32)) => ckb r_7 (some (r_7, iCurrent, iDue_8, aPbegins, aPends_9, aPlengths))) else if iDue = 2 then (bnd3 (f4_takesFirstFigure p1 iDue aPlengths iCurrent) fun (r_12 : Int32) (iDue_13 : Int32) (aPlengths_14 : (Nat → Int32)) => ckb r_12 (some (r_12, iCurrent, iDue_13, aPbegins, aPends, aPlengths_14))) else if iDue = 3 then (bnd3 (f4_takesSecondFigure p1 iDue aPlengths iCurrent) fun (r_17 : Int32) (iDue_18 : Int32) (aPlengths_19 : (Nat → Int32)) => bnd3 (if r_17 = 0 then (bnd3 (f4_takesComma p1 iCurrent iDue_18) fun (r_26 : Int32) (iCurrent_27 : Int32) (iDue_28 : Int32) => if r_26 = 0 then (some (0, iCurrent_27, iDue_28)) else some (1, iCurrent_27, iDue_28)) else some (1, iCurrent, iDue_18)) fun (y_21 : Int32) (iCurrent_22 : Int32) (iDue_23 : Int32) => ckb y_21 (some (y_21, iCurrent_22, iDue_23, aPbegins, aPends, aPlengths_19))) else bnd3 (f4_takesComma p1 iCurrent iDue) fun (r_31 : Int32) (iCurrent_32 : Int32) (iDue_33 : Int32) => ckb r_31 (some (r_31, iCurrent_32, iDue_33, aPbegins, aPends, aPlengths))
set_option maxHeartbeats 4000000 in
set_option maxRecDepth 100000 in
theorem c_X4_takes (hq : gJ layB q) {p1 : Int32} {o_r : Int32} {o_iCurrent : Int32} {o_iDue : Int32} {o_aPbegins : (Nat → Int32)} {o_aPends : (Nat → Int32)} {o_aPlengths : (Nat → Int32)} (h : f4_takes iDue p1 aPbegins iCurrent aPends aPlengths = some (o_r, o_iCurrent, o_iDue, o_aPbegins, o_aPends, o_aPlengths)) :
    GM l yX4_takes cX4_takes 2 (some .boolean) 2 42 D cI cZ layB q [.ref (q 23), .int p1] ([iReadings, iAlterations, iRankings, iLetters, iCurrent, iDue, iSize, iLsize], [], [gCosts, gWorths, gMiddles, gApart, gApartWithout, gNeeded, gUps, gDowns, gKeys, gNexts, gShutKeys, aCodes, aPbegins, aPends, aPlengths, aBegins, aEnds, aLengths, aRanks, aRoadsByRank, aRow, aRanksBefore, aBusy, aOpen, aShut]) (some (.int o_r)) ([iReadings, iAlterations, iRankings, iLetters, o_iCurrent, o_iDue, iSize, iLsize], [], [gCosts, gWorths, gMiddles, gApart, gApartWithout, gNeeded, gUps, gDowns, gKeys, gNexts, gShutKeys, aCodes, o_aPbegins, o_aPends, o_aPlengths, aBegins, aEnds, aLengths, aRanks, aRoadsByRank, aRow, aRanksBefore, aBusy, aOpen, aShut]) := by
  refine GM.go RX4 (by decide) rfl (Nat.le_of_ble_eq_true rfl) ?_
  intro p e s m args below meth c ls R Q H locs X hr hlk hT hG hl hR hQ
  have hx := X.1
  have hb := X.2.1
  have hl : lv_has ls 2 [(0, .ref (q 23)), (1, .int p1)] := hl
  unfold f4_takes at h
  refine lv_aload_n hx hb dX4_takes_0 rfl (lv_at hl 0 rfl) ?_
  refine g_get (v := .int iDue) X hT hG fl_X4_31 23 rfl rfl rfl dX4_takes_1 ?_
  by_cases cs1 : iDue = 0
  · have h := ite_t cs1 h
    refine g_eqi cs1 ?_
    refine lv_tableIn (x := 0) hx hb dX4_takes_4 (by decide) (by decide) (off := 32) rfl (tgt := 36) (by decide) ?_
    refine lv_aload_n hx hb dX4_takes_36 rfl (lv_at hl 0 rfl) ?_
    refine lv_iload_n hx hb dX4_takes_37 rfl (lv_at hl 1 rfl) ?_
    obtain ⟨r_2, iDue_3, aPbegins_4, ec5, h⟩ := bnd3_some h
    refine g_callVr [.int p1] [] 23 X hT hG ml_X4_42 (c_X4_takesBegin hq ec5) rfl rfl rfl rfl rfl hl.1 (Nat.le_of_ble_eq_true rfl) (by rw [hR]; exact ⟨Nat.le_of_ble_eq_true rfl, Nat.le_of_ble_eq_true rfl⟩) dX4_takes_38 (fun H locs hG => ?_)
    have hG : GH D cI cZ layB q s ([iReadings, iAlterations, iRankings, iLetters, iCurrent, iDue_3, iSize, iLsize], [], [gCosts, gWorths, gMiddles, gApart, gApartWithout, gNeeded, gUps, gDowns, gKeys, gNexts, gShutKeys, aCodes, aPbegins_4, aPends, aPlengths, aBegins, aEnds, aLengths, aRanks, aRoadsByRank, aRow, aRanksBefore, aBusy, aOpen, aShut]) H locs := hG
    obtain ⟨hz, h⟩ := ckb_some h
    cases h
    rw [hQ]
    exact g_zret X hT hG hr hlk hz dX4_takes_41
  · have h := ite_f cs1 h
    by_cases cs6 : iDue = 1
    · have h := ite_t cs6 h
      refine g_eqi cs6 ?_
      refine lv_tableIn (x := 1) hx hb dX4_takes_4 (by decide) (by decide) (off := 38) rfl (tgt := 42) (by decide) ?_
      refine lv_aload_n hx hb dX4_takes_42 rfl (lv_at hl 0 rfl) ?_
      refine lv_iload_n hx hb dX4_takes_43 rfl (lv_at hl 1 rfl) ?_
      obtain ⟨r_7, iDue_8, aPends_9, ec10, h⟩ := bnd3_some h
      refine g_callVr [.int p1] [] 23 X hT hG ml_X4_45 (c_X4_takesEnd hq ec10) rfl rfl rfl rfl rfl hl.1 (Nat.le_of_ble_eq_true rfl) (by rw [hR]; exact ⟨Nat.le_of_ble_eq_true rfl, Nat.le_of_ble_eq_true rfl⟩) dX4_takes_44 (fun H locs hG => ?_)
      have hG : GH D cI cZ layB q s ([iReadings, iAlterations, iRankings, iLetters, iCurrent, iDue_8, iSize, iLsize], [], [gCosts, gWorths, gMiddles, gApart, gApartWithout, gNeeded, gUps, gDowns, gKeys, gNexts, gShutKeys, aCodes, aPbegins, aPends_9, aPlengths, aBegins, aEnds, aLengths, aRanks, aRoadsByRank, aRow, aRanksBefore, aBusy, aOpen, aShut]) H locs := hG
      obtain ⟨hz, h⟩ := ckb_some h
      cases h
      rw [hQ]
      exact g_zret X hT hG hr hlk hz dX4_takes_47
    · have h := ite_f cs6 h
      by_cases cs11 : iDue = 2
      · have h := ite_t cs11 h
        refine g_eqi cs11 ?_
        refine lv_tableIn (x := 2) hx hb dX4_takes_4 (by decide) (by decide) (off := 44) rfl (tgt := 48) (by decide) ?_
        refine lv_aload_n hx hb dX4_takes_48 rfl (lv_at hl 0 rfl) ?_
        refine lv_iload_n hx hb dX4_takes_49 rfl (lv_at hl 1 rfl) ?_
        obtain ⟨r_12, iDue_13, aPlengths_14, ec15, h⟩ := bnd3_some h
        refine g_callVr [.int p1] [] 23 X hT hG ml_X4_48 (c_X4_takesFirstFigure hq ec15) rfl rfl rfl rfl rfl hl.1 (Nat.le_of_ble_eq_true rfl) (by rw [hR]; exact ⟨Nat.le_of_ble_eq_true rfl, Nat.le_of_ble_eq_true rfl⟩) dX4_takes_50 (fun H locs hG => ?_)
        have hG : GH D cI cZ layB q s ([iReadings, iAlterations, iRankings, iLetters, iCurrent, iDue_13, iSize, iLsize], [], [gCosts, gWorths, gMiddles, gApart, gApartWithout, gNeeded, gUps, gDowns, gKeys, gNexts, gShutKeys, aCodes, aPbegins, aPends, aPlengths_14, aBegins, aEnds, aLengths, aRanks, aRoadsByRank, aRow, aRanksBefore, aBusy, aOpen, aShut]) H locs := hG
        obtain ⟨hz, h⟩ := ckb_some h
        cases h
        rw [hQ]
        exact g_zret X hT hG hr hlk hz dX4_takes_53
      · have h := ite_f cs11 h
        by_cases cs16 : iDue = 3
        · have h := ite_t cs16 h
          refine g_eqi cs16 ?_
          refine lv_tableIn (x := 3) hx hb dX4_takes_4 (by decide) (by decide) (off := 50) rfl (tgt := 54) (by decide) ?_
          refine lv_aload_n hx hb dX4_takes_54 rfl (lv_at hl 0 rfl) ?_
          refine lv_iload_n hx hb dX4_takes_55 rfl (lv_at hl 1 rfl) ?_
          obtain ⟨r_17, iDue_18, aPlengths_19, ec20, h⟩ := bnd3_some h
          refine g_callVr [.int p1] [] 23 X hT hG ml_X4_51 (c_X4_takesSecondFigure hq ec20) rfl rfl rfl rfl rfl hl.1 (Nat.le_of_ble_eq_true rfl) (by rw [hR]; exact ⟨Nat.le_of_ble_eq_true rfl, Nat.le_of_ble_eq_true rfl⟩) dX4_takes_56 (fun H locs hG => ?_)
          have hG : GH D cI cZ layB q s ([iReadings, iAlterations, iRankings, iLetters, iCurrent, iDue_18, iSize, iLsize], [], [gCosts, gWorths, gMiddles, gApart, gApartWithout, gNeeded, gUps, gDowns, gKeys, gNexts, gShutKeys, aCodes, aPbegins, aPends, aPlengths_19, aBegins, aEnds, aLengths, aRanks, aRoadsByRank, aRow, aRanksBefore, aBusy, aOpen, aShut]) H locs := hG
          obtain ⟨y_21, iCurrent_22, iDue_23, er24, h⟩ := bnd3_some h
          have J24 : ∀ (H : Heap) (locs : List Loc) (ls : Array Slot), GH D cI cZ layB q s ([iReadings, iAlterations, iRankings, iLetters, iCurrent_22, iDue_23, iSize, iLsize], [], [gCosts, gWorths, gMiddles, gApart, gApartWithout, gNeeded, gUps, gDowns, gKeys, gNexts, gShutKeys, aCodes, aPbegins, aPends, aPlengths_19, aBegins, aEnds, aLengths, aRanks, aRoadsByRank, aRow, aRanksBefore, aBusy, aOpen, aShut]) H locs → lv_has ls 2 [] → W p l e R s m args below meth c H locs 0 0 Q (F0 m 75 ls [.int y_21]) := by
            intro H locs ls hG hl
            obtain ⟨hz, h⟩ := ckb_some h
            cases h
            rw [hQ]
            exact g_zret X hT hG hr hlk hz dX4_takes_75
          refine lv_if_ne (tgt := 70) hx hb dX4_takes_59 (by decide) (fun cb25 => ?_) (fun cb25 => ?_)
          · have er24 := ite_f cb25 er24
            refine lv_iconst (v := 1) hx hb dX4_takes_70 (by decide) ?_
            refine lv_goto (tgt := 75) hx hb dX4_takes_71 (by decide) ?_
            cases er24
            exact J24 H locs ls hG (lv_sub hl [] rfl)
          · have er24 := ite_t cb25 er24
            refine lv_aload_n hx hb dX4_takes_62 rfl (lv_at hl 0 rfl) ?_
            refine lv_iload_n hx hb dX4_takes_63 rfl (lv_at hl 1 rfl) ?_
            obtain ⟨r_26, iCurrent_27, iDue_28, ec29, er24⟩ := bnd3_some er24
            refine g_callVr [.int p1] [] 23 X hT hG ml_X4_54 (c_X4_takesComma hq ec29) rfl rfl rfl rfl rfl hl.1 (Nat.le_of_ble_eq_true rfl) (by rw [hR]; exact ⟨Nat.le_of_ble_eq_true rfl, Nat.le_of_ble_eq_true rfl⟩) dX4_takes_64 (fun H locs hG => ?_)
            have hG : GH D cI cZ layB q s ([iReadings, iAlterations, iRankings, iLetters, iCurrent_27, iDue_28, iSize, iLsize], [], [gCosts, gWorths, gMiddles, gApart, gApartWithout, gNeeded, gUps, gDowns, gKeys, gNexts, gShutKeys, aCodes, aPbegins, aPends, aPlengths_19, aBegins, aEnds, aLengths, aRanks, aRoadsByRank, aRow, aRanksBefore, aBusy, aOpen, aShut]) H locs := hG
            refine lv_if_eq (tgt := 74) hx hb dX4_takes_67 (by decide) (fun cb30 => ?_) (fun cb30 => ?_)
            · have er24 := ite_t cb30 er24
              refine lv_iconst (v := 0) hx hb dX4_takes_74 (by decide) ?_
              cases er24
              exact J24 H locs ls hG (lv_sub hl [] rfl)
            · have er24 := ite_f cb30 er24
              refine lv_iconst (v := 1) hx hb dX4_takes_70 (by decide) ?_
              refine lv_goto (tgt := 75) hx hb dX4_takes_71 (by decide) ?_
              cases er24
              exact J24 H locs ls hG (lv_sub hl [] rfl)
        · have h := ite_f cs16 h
          refine lv_tableOut hx hb dX4_takes_4 (sw_out (n := 4) (Nat.le_of_ble_eq_true rfl) (fun k hk => by match k, hk with | 0, _ => exact cs1 | 1, _ => exact cs6 | 2, _ => exact cs11 | 3, _ => exact cs16 | k + 4, hk => omega)) (tgt := 76) (by decide) ?_
          refine lv_aload_n hx hb dX4_takes_76 rfl (lv_at hl 0 rfl) ?_
          refine lv_iload_n hx hb dX4_takes_77 rfl (lv_at hl 1 rfl) ?_
          obtain ⟨r_31, iCurrent_32, iDue_33, ec34, h⟩ := bnd3_some h
          refine g_callVr [.int p1] [] 23 X hT hG ml_X4_54 (c_X4_takesComma hq ec34) rfl rfl rfl rfl rfl hl.1 (Nat.le_of_ble_eq_true rfl) (by rw [hR]; exact ⟨Nat.le_of_ble_eq_true rfl, Nat.le_of_ble_eq_true rfl⟩) dX4_takes_78 (fun H locs hG => ?_)
          have hG : GH D cI cZ layB q s ([iReadings, iAlterations, iRankings, iLetters, iCurrent_32, iDue_33, iSize, iLsize], [], [gCosts, gWorths, gMiddles, gApart, gApartWithout, gNeeded, gUps, gDowns, gKeys, gNexts, gShutKeys, aCodes, aPbegins, aPends, aPlengths, aBegins, aEnds, aLengths, aRanks, aRoadsByRank, aRow, aRanksBefore, aBusy, aOpen, aShut]) H locs := hG
          obtain ⟨hz, h⟩ := ckb_some h
          cases h
          rw [hQ]
          exact g_zret X hT hG hr hlk hz dX4_takes_81
def f4_scan_b1 (iLetters : Int32) (aCodes : (Nat → Int32)) (x1_1 : Int32) (iCurrent_2 : Int32) (iDue_3 : Int32) (aPbegins_4 : (Nat → Int32)) (aPends_5 : (Nat → Int32)) (aPlengths_6 : (Nat → Int32)) : Option ((Int32 × Int32 × Int32 × (Nat → Int32) × (Nat → Int32) × (Nat → Int32)) ⊕ ((Int32 × Int32 × Int32 × (Nat → Int32) × (Nat → Int32) × (Nat → Int32)) ⊕ (Int32 × Int32 × (Nat → Int32) × (Nat → Int32) × (Nat → Int32)))) :=
  if iLetters ≤ x1_1 then (some (.inr (.inr (iCurrent_2, iDue_3, aPbegins_4, aPends_5, aPlengths_6)))) else ckin x1_1 60 (bnd6 (f4_takes iDue_3 (aCodes x1_1.toNatClampNeg) aPbegins_4 iCurrent_2 aPends_5 aPlengths_6) fun (r_15 : Int32) (iCurrent_16 : Int32) (iDue_17 : Int32) (aPbegins_18 : (Nat → Int32)) (aPends_19 : (Nat → Int32)) (aPlengths_20 : (Nat → Int32)) => if r_15 = 0 then (some (.inr (.inl (x1_1, iCurrent_16, iDue_17, aPbegins_18, aPends_19, aPlengths_20)))) else bd (x1_1 + 1) fun x1_23 => some (.inl (x1_23, iCurrent_16, iDue_17, aPbegins_18, aPends_19, aPlengths_20)))
def f4_scan_x1 (iLetters : Int32) (iCurrent_7 : Int32) (iDue_8 : Int32) (aPbegins_9 : (Nat → Int32)) (aPends_10 : (Nat → Int32)) (aPlengths_11 : (Nat → Int32)) : Option (Int32 × Int32 × Int32 × (Nat → Int32) × (Nat → Int32) × (Nat → Int32)) :=
  some (iLetters, iCurrent_7, iDue_8, aPbegins_9, aPends_10, aPlengths_11)
def f4_scan (fu : Nat) (iLetters : Int32) (aCodes : (Nat → Int32)) (aPbegins : (Nat → Int32)) (aPends : (Nat → Int32)) (aPlengths : (Nat → Int32)) : Option (Int32 × Int32 × Int32 × (Nat → Int32) × (Nat → Int32) × (Nat → Int32)) :=
  bnd1 (lpG (fun z => f4_scan_b1 iLetters aCodes z.1 z.2.1 z.2.2.1 z.2.2.2.1 z.2.2.2.2.1 z.2.2.2.2.2) fu ((0 : Int32), (0 : Int32), (0 : Int32), aPbegins, aPends, aPlengths)) fun z => Sum.elim (fun a => some a) (fun z => f4_scan_x1 iLetters z.1 z.2.1 z.2.2.1 z.2.2.2.1 z.2.2.2.2) z
set_option maxHeartbeats 4000000 in
set_option maxRecDepth 100000 in
theorem c_X4_scan (hq : gJ layB q) {fu : Nat} {o_r : Int32} {o_iCurrent : Int32} {o_iDue : Int32} {o_aPbegins : (Nat → Int32)} {o_aPends : (Nat → Int32)} {o_aPlengths : (Nat → Int32)} (h : f4_scan fu iLetters aCodes aPbegins aPends aPlengths = some (o_r, o_iCurrent, o_iDue, o_aPbegins, o_aPends, o_aPlengths)) :
    GM l yX4_scan cX4_scan 2 (some .int) 3 63 D cI cZ layB q [.ref (q 23)] ([iReadings, iAlterations, iRankings, iLetters, iCurrent, iDue, iSize, iLsize], [], [gCosts, gWorths, gMiddles, gApart, gApartWithout, gNeeded, gUps, gDowns, gKeys, gNexts, gShutKeys, aCodes, aPbegins, aPends, aPlengths, aBegins, aEnds, aLengths, aRanks, aRoadsByRank, aRow, aRanksBefore, aBusy, aOpen, aShut]) (some (.int o_r)) ([iReadings, iAlterations, iRankings, iLetters, o_iCurrent, o_iDue, iSize, iLsize], [], [gCosts, gWorths, gMiddles, gApart, gApartWithout, gNeeded, gUps, gDowns, gKeys, gNexts, gShutKeys, aCodes, o_aPbegins, o_aPends, o_aPlengths, aBegins, aEnds, aLengths, aRanks, aRoadsByRank, aRow, aRanksBefore, aBusy, aOpen, aShut]) := by
  refine GM.go RX4 (by decide) rfl (Nat.le_of_ble_eq_true rfl) ?_
  intro p e s m args below meth c ls R Q H locs X hr hlk hT hG hl hR hQ
  have hx := X.1
  have hb := X.2.1
  have hl : lv_has ls 2 [(0, .ref (q 23))] := hl
  unfold f4_scan at h
  refine lv_aload_n hx hb dX4_scan_0 rfl (lv_at hl 0 rfl) ?_
  refine lv_iconst (v := 0) hx hb dX4_scan_1 (by decide) ?_
  refine g_putI (w' := ([iReadings, iAlterations, iRankings, iLetters, 0, iDue, iSize, iLsize], [], [gCosts, gWorths, gMiddles, gApart, gApartWithout, gNeeded, gUps, gDowns, gKeys, gNexts, gShutKeys, aCodes, aPbegins, aPends, aPlengths, aBegins, aEnds, aLengths, aRanks, aRoadsByRank, aRow, aRanksBefore, aBusy, aOpen, aShut])) X hT hq hG fp_X4_28 23 rfl rfl gu_B_iCurrent (Nat.le_of_ble_eq_true rfl) rfl dX4_scan_2 (fun H locs hG => ?_)
  refine lv_aload_n hx hb dX4_scan_5 rfl (lv_at hl 0 rfl) ?_
  refine lv_iconst (v := 0) hx hb dX4_scan_6 (by decide) ?_
  refine g_putI (w' := ([iReadings, iAlterations, iRankings, iLetters, 0, 0, iSize, iLsize], [], [gCosts, gWorths, gMiddles, gApart, gApartWithout, gNeeded, gUps, gDowns, gKeys, gNexts, gShutKeys, aCodes, aPbegins, aPends, aPlengths, aBegins, aEnds, aLengths, aRanks, aRoadsByRank, aRow, aRanksBefore, aBusy, aOpen, aShut])) X hT hq hG fp_X4_31 23 rfl rfl gu_B_iDue (Nat.le_of_ble_eq_true rfl) rfl dX4_scan_7 (fun H locs hG => ?_)
  refine lv_iconst (v := 0) hx hb dX4_scan_10 (by decide) ?_
  refine lv_istore_n (lv' := [(1, .int 0), (0, .ref (q 23))]) hx hb dX4_scan_11 rfl hl (by decide) rfl (fun ls hl => ?_)
  obtain ⟨ou12, eL12, h⟩ := bnd1_some h
  have JX12 : ∀ (iCurrent_7 : Int32) (iDue_8 : Int32) (aPbegins_9 : (Nat → Int32)) (aPends_10 : (Nat → Int32)) (aPlengths_11 : (Nat → Int32)) (H : Heap) (locs : List Loc) (ls : Array Slot), GH D cI cZ layB q s ([iReadings, iAlterations, iRankings, iLetters, iCurrent_7, iDue_8, iSize, iLsize], [], [gCosts, gWorths, gMiddles, gApart, gApartWithout, gNeeded, gUps, gDowns, gKeys, gNexts, gShutKeys, aCodes, aPbegins_9, aPends_10, aPlengths_11, aBegins, aEnds, aLengths, aRanks, aRoadsByRank, aRow, aRanksBefore, aBusy, aOpen, aShut]) H locs → lv_has ls 2 [(0, .ref (q 23))] → f4_scan_x1 iLetters iCurrent_7 iDue_8 aPbegins_9 aPends_10 aPlengths_11 = some (o_r, o_iCurrent, o_iDue, o_aPbegins, o_aPends, o_aPlengths) → W p l e R s m args below meth c H locs 0 0 Q (F0 m 41 ls []) := by
    intro iCurrent_7 iDue_8 aPbegins_9 aPends_10 aPlengths_11 H locs ls hG hl hk24
    unfold f4_scan_x1 at hk24
    refine lv_aload_n hx hb dX4_scan_41 rfl (lv_at hl 0 rfl) ?_
    refine g_get (v := .int iLetters) X hT hG fl_X4_24 23 rfl rfl rfl dX4_scan_42 ?_
    cases hk24
    rw [hQ]
    exact g_iret X hT hG hr hlk dX4_scan_45
  refine lpG_W (Wh := fun z => ∀ (H : Heap) (locs : List Loc) (ls : Array Slot), GH D cI cZ layB q s ([iReadings, iAlterations, iRankings, iLetters, z.2.1, z.2.2.1, iSize, iLsize], [], [gCosts, gWorths, gMiddles, gApart, gApartWithout, gNeeded, gUps, gDowns, gKeys, gNexts, gShutKeys, aCodes, z.2.2.2.1, z.2.2.2.2.1, z.2.2.2.2.2, aBegins, aEnds, aLengths, aRanks, aRoadsByRank, aRow, aRanksBefore, aBusy, aOpen, aShut]) H locs → lv_has ls 2 [(0, .ref (q 23)), (1, .int (z.1))] → W p l e R s m args below meth c H locs 0 0 Q (F0 m 12 ls [])) ?_ fu _ eL12 H locs ls hG (lv_sub hl [1, 0] rfl)
  intro z rr12 hb12 hin12 hout12
  obtain ⟨x1_1, iCurrent_2, iDue_3, aPbegins_4, aPends_5, aPlengths_6⟩ := z
  intro H locs ls hG hl
  have hb12 : f4_scan_b1 iLetters aCodes x1_1 iCurrent_2 iDue_3 aPbegins_4 aPends_5 aPlengths_6 = some rr12 := hb12
  have hG : GH D cI cZ layB q s ([iReadings, iAlterations, iRankings, iLetters, iCurrent_2, iDue_3, iSize, iLsize], [], [gCosts, gWorths, gMiddles, gApart, gApartWithout, gNeeded, gUps, gDowns, gKeys, gNexts, gShutKeys, aCodes, aPbegins_4, aPends_5, aPlengths_6, aBegins, aEnds, aLengths, aRanks, aRoadsByRank, aRow, aRanksBefore, aBusy, aOpen, aShut]) H locs := hG
  have hl : lv_has ls 2 [(0, .ref (q 23)), (1, .int x1_1)] := hl
  unfold f4_scan_b1 at hb12
  refine lv_iload_n hx hb dX4_scan_12 rfl (lv_at hl 1 rfl) ?_
  refine lv_aload_n hx hb dX4_scan_13 rfl (lv_at hl 0 rfl) ?_
  refine g_get (v := .int iLetters) X hT hG fl_X4_24 23 rfl rfl rfl dX4_scan_14 ?_
  refine lv_icmp_ge (tgt := 41) hx hb dX4_scan_17 (by decide) (fun cb13 => ?_) (fun cb13 => ?_)
  · have hb12 := ite_t cb13 hb12
    have eo := hout12 _ (Option.some.inj hb12).symm
    subst eo
    exact JX12 _ _ _ _ _ H locs ls hG (lv_sub hl [0] rfl) h
  · have hb12 := ite_f cb13 hb12
    refine lv_aload_n hx hb dX4_scan_20 rfl (lv_at hl 0 rfl) ?_
    refine lv_aload_n hx hb dX4_scan_21 rfl (lv_at hl 0 rfl) ?_
    refine g_get (v := .ref (q 29)) X hT hG fl_X4_9 23 rfl rfl rfl dX4_scan_22 ?_
    refine lv_iload_n hx hb dX4_scan_25 rfl (lv_at hl 1 rfl) ?_
    obtain ⟨hi14, hb12⟩ := ckin_some hb12
    refine g_ald (f := aCodes) X hT hG 29 rfl rfl hi14 dX4_scan_26 ?_
    obtain ⟨r_15, iCurrent_16, iDue_17, aPbegins_18, aPends_19, aPlengths_20, ec21, hb12⟩ := bnd6_some hb12
    refine g_callVr [.int (aCodes x1_1.toNatClampNeg)] [] 23 X hT hG ml_X4_34 (c_X4_takes hq ec21) rfl rfl rfl rfl rfl hl.1 (Nat.le_of_ble_eq_true rfl) (by rw [hR]; exact ⟨Nat.le_of_ble_eq_true rfl, Nat.le_of_ble_eq_true rfl⟩) dX4_scan_27 (fun H locs hG => ?_)
    have hG : GH D cI cZ layB q s ([iReadings, iAlterations, iRankings, iLetters, iCurrent_16, iDue_17, iSize, iLsize], [], [gCosts, gWorths, gMiddles, gApart, gApartWithout, gNeeded, gUps, gDowns, gKeys, gNexts, gShutKeys, aCodes, aPbegins_18, aPends_19, aPlengths_20, aBegins, aEnds, aLengths, aRanks, aRoadsByRank, aRow, aRanksBefore, aBusy, aOpen, aShut]) H locs := hG
    refine lv_if_ne (tgt := 35) hx hb dX4_scan_30 (by decide) (fun cb22 => ?_) (fun cb22 => ?_)
    · have hb12 := ite_f cb22 hb12
      obtain ⟨x1_23, ex1_23⟩ : ∃ z : Int32, z = x1_1 + 1 := ⟨_, rfl⟩
      have hb12 := bd_e ex1_23 hb12
      refine lv_iinc (v := x1_23) (lv' := [(1, .int x1_23), (0, .ref (q 23))]) hx hb dX4_scan_35 hl (k := 1) rfl (by rw [ex1_23]; rfl) (by decide) rfl (fun ls hl => ?_)
      refine lv_goto (tgt := 12) hx hb dX4_scan_38 (by decide) ?_
      exact hin12 _ (Option.some.inj hb12).symm H locs ls hG (lv_sub hl [1, 0] rfl)
    · have hb12 := ite_t cb22 hb12
      refine lv_iload_n hx hb dX4_scan_33 rfl (lv_at hl 1 rfl) ?_
      have eo := hout12 _ (Option.some.inj hb12).symm
      subst eo
      cases h
      rw [hQ]
      exact g_iret X hT hG hr hlk dX4_scan_34
def f7_fault (fu : Nat) (iLetters : Int32) (aCodes : (Nat → Int32)) (aPbegins : (Nat → Int32)) (aPends : (Nat → Int32)) (aPlengths : (Nat → Int32)) : Option (Int32 × Int32 × Int32 × (Nat → Int32) × (Nat → Int32) × (Nat → Int32)) :=
  bnd6 (f4_scan fu iLetters aCodes aPbegins aPends aPlengths) fun (r_1 : Int32) (iCurrent_2 : Int32) (iDue_3 : Int32) (aPbegins_4 : (Nat → Int32)) (aPends_5 : (Nat → Int32)) (aPlengths_6 : (Nat → Int32)) => some (r_1, iCurrent_2, iDue_3, aPbegins_4, aPends_5, aPlengths_6)
set_option maxHeartbeats 4000000 in
set_option maxRecDepth 100000 in
theorem c_X7_fault (hq : gJ layB q) {fu : Nat} {o_r : Int32} {o_iCurrent : Int32} {o_iDue : Int32} {o_aPbegins : (Nat → Int32)} {o_aPends : (Nat → Int32)} {o_aPlengths : (Nat → Int32)} (h : f7_fault fu iLetters aCodes aPbegins aPends aPlengths = some (o_r, o_iCurrent, o_iDue, o_aPbegins, o_aPends, o_aPlengths)) :
    GM l yX7_fault cX7_fault 1 (some .int) 4 84 D cI cZ layB q [.ref (q 22)] ([iReadings, iAlterations, iRankings, iLetters, iCurrent, iDue, iSize, iLsize], [], [gCosts, gWorths, gMiddles, gApart, gApartWithout, gNeeded, gUps, gDowns, gKeys, gNexts, gShutKeys, aCodes, aPbegins, aPends, aPlengths, aBegins, aEnds, aLengths, aRanks, aRoadsByRank, aRow, aRanksBefore, aBusy, aOpen, aShut]) (some (.int o_r)) ([iReadings, iAlterations, iRankings, iLetters, o_iCurrent, o_iDue, iSize, iLsize], [], [gCosts, gWorths, gMiddles, gApart, gApartWithout, gNeeded, gUps, gDowns, gKeys, gNexts, gShutKeys, aCodes, o_aPbegins, o_aPends, o_aPlengths, aBegins, aEnds, aLengths, aRanks, aRoadsByRank, aRow, aRanksBefore, aBusy, aOpen, aShut]) := by
  refine GM.go RX7 (by decide) rfl (Nat.le_of_ble_eq_true rfl) ?_
  intro p e s m args below meth c ls R Q H locs X hr hlk hT hG hl hR hQ
  have hx := X.1
  have hb := X.2.1
  have hl : lv_has ls 1 [(0, .ref (q 22))] := hl
  unfold f7_fault at h
  refine lv_aload_n hx hb dX7_fault_0 rfl (lv_at hl 0 rfl) ?_
  refine g_get (v := .ref (q 23)) X hT hG fl_X7_10 22 rfl rfl rfl dX7_fault_1 ?_
  obtain ⟨r_1, iCurrent_2, iDue_3, aPbegins_4, aPends_5, aPlengths_6, ec7, h⟩ := bnd6_some h
  refine g_callVr [] [] 23 X hT hG ml_X7_59 (c_X4_scan hq ec7) rfl rfl rfl rfl rfl hl.1 (Nat.le_of_ble_eq_true rfl) (by rw [hR]; exact ⟨Nat.le_of_ble_eq_true rfl, Nat.le_of_ble_eq_true rfl⟩) dX7_fault_4 (fun H locs hG => ?_)
  have hG : GH D cI cZ layB q s ([iReadings, iAlterations, iRankings, iLetters, iCurrent_2, iDue_3, iSize, iLsize], [], [gCosts, gWorths, gMiddles, gApart, gApartWithout, gNeeded, gUps, gDowns, gKeys, gNexts, gShutKeys, aCodes, aPbegins_4, aPends_5, aPlengths_6, aBegins, aEnds, aLengths, aRanks, aRoadsByRank, aRow, aRanksBefore, aBusy, aOpen, aShut]) H locs := hG
  cases h
  rw [hQ]
  exact g_iret X hT hG hr hlk dX7_fault_7
def f4_isWhole (fu : Nat) (iLetters : Int32) (aCodes : (Nat → Int32)) (aPbegins : (Nat → Int32)) (aPends : (Nat → Int32)) (aPlengths : (Nat → Int32)) : Option (Int32 × Int32 × Int32 × (Nat → Int32) × (Nat → Int32) × (Nat → Int32)) :=
  bnd6 (f4_scan fu iLetters aCodes aPbegins aPends aPlengths) fun (r_1 : Int32) (iCurrent_2 : Int32) (iDue_3 : Int32) (aPbegins_4 : (Nat → Int32)) (aPends_5 : (Nat → Int32)) (aPlengths_6 : (Nat → Int32)) => bnd1 (if r_1 = iLetters then (if iDue_3 = 3 then (some 1) else if iDue_3 = 4 then (some 1) else some 0) else some 0) fun (y_8 : Int32) => ckb y_8 (some (y_8, iCurrent_2, iDue_3, aPbegins_4, aPends_5, aPlengths_6))
set_option maxHeartbeats 4000000 in
set_option maxRecDepth 100000 in
theorem c_X4_isWhole (hq : gJ layB q) {fu : Nat} {o_r : Int32} {o_iCurrent : Int32} {o_iDue : Int32} {o_aPbegins : (Nat → Int32)} {o_aPends : (Nat → Int32)} {o_aPlengths : (Nat → Int32)} (h : f4_isWhole fu iLetters aCodes aPbegins aPends aPlengths = some (o_r, o_iCurrent, o_iDue, o_aPbegins, o_aPends, o_aPlengths)) :
    GM l yX4_isWhole cX4_isWhole 1 (some .boolean) 4 84 D cI cZ layB q [.ref (q 23)] ([iReadings, iAlterations, iRankings, iLetters, iCurrent, iDue, iSize, iLsize], [], [gCosts, gWorths, gMiddles, gApart, gApartWithout, gNeeded, gUps, gDowns, gKeys, gNexts, gShutKeys, aCodes, aPbegins, aPends, aPlengths, aBegins, aEnds, aLengths, aRanks, aRoadsByRank, aRow, aRanksBefore, aBusy, aOpen, aShut]) (some (.int o_r)) ([iReadings, iAlterations, iRankings, iLetters, o_iCurrent, o_iDue, iSize, iLsize], [], [gCosts, gWorths, gMiddles, gApart, gApartWithout, gNeeded, gUps, gDowns, gKeys, gNexts, gShutKeys, aCodes, o_aPbegins, o_aPends, o_aPlengths, aBegins, aEnds, aLengths, aRanks, aRoadsByRank, aRow, aRanksBefore, aBusy, aOpen, aShut]) := by
  refine GM.go RX4 (by decide) rfl (Nat.le_of_ble_eq_true rfl) ?_
  intro p e s m args below meth c ls R Q H locs X hr hlk hT hG hl hR hQ
  have hx := X.1
  have hb := X.2.1
  have hl : lv_has ls 1 [(0, .ref (q 23))] := hl
  unfold f4_isWhole at h
  refine lv_aload_n hx hb dX4_isWhole_0 rfl (lv_at hl 0 rfl) ?_
  obtain ⟨r_1, iCurrent_2, iDue_3, aPbegins_4, aPends_5, aPlengths_6, ec7, h⟩ := bnd6_some h
  refine g_callVr [] [] 23 X hT hG ml_X4_38 (c_X4_scan hq ec7) rfl rfl rfl rfl rfl hl.1 (Nat.le_of_ble_eq_true rfl) (by rw [hR]; exact ⟨Nat.le_of_ble_eq_true rfl, Nat.le_of_ble_eq_true rfl⟩) dX4_isWhole_1 (fun H locs hG => ?_)
  have hG : GH D cI cZ layB q s ([iReadings, iAlterations, iRankings, iLetters, iCurrent_2, iDue_3, iSize, iLsize], [], [gCosts, gWorths, gMiddles, gApart, gApartWithout, gNeeded, gUps, gDowns, gKeys, gNexts, gShutKeys, aCodes, aPbegins_4, aPends_5, aPlengths_6, aBegins, aEnds, aLengths, aRanks, aRoadsByRank, aRow, aRanksBefore, aBusy, aOpen, aShut]) H locs := hG
  refine lv_aload_n hx hb dX4_isWhole_4 rfl (lv_at hl 0 rfl) ?_
  refine g_get (v := .int iLetters) X hT hG fl_X4_24 23 rfl rfl rfl dX4_isWhole_5 ?_
  obtain ⟨y_8, er9, h⟩ := bnd1_some h
  have J9 : ∀ (H : Heap) (locs : List Loc) (ls : Array Slot), GH D cI cZ layB q s ([iReadings, iAlterations, iRankings, iLetters, iCurrent_2, iDue_3, iSize, iLsize], [], [gCosts, gWorths, gMiddles, gApart, gApartWithout, gNeeded, gUps, gDowns, gKeys, gNexts, gShutKeys, aCodes, aPbegins_4, aPends_5, aPlengths_6, aBegins, aEnds, aLengths, aRanks, aRoadsByRank, aRow, aRanksBefore, aBusy, aOpen, aShut]) H locs → lv_has ls 1 [] → W p l e R s m args below meth c H locs 0 0 Q (F0 m 32 ls [.int y_8]) := by
    intro H locs ls hG hl
    obtain ⟨hz, h⟩ := ckb_some h
    cases h
    rw [hQ]
    exact g_zret X hT hG hr hlk hz dX4_isWhole_32
  refine lv_icmp_ne (tgt := 31) hx hb dX4_isWhole_8 (by decide) (fun cb10 => ?_) (fun cb10 => ?_)
  · have er9 := ite_f cb10 er9
    refine lv_iconst (v := 0) hx hb dX4_isWhole_31 (by decide) ?_
    cases er9
    exact J9 H locs ls hG (lv_sub hl [] rfl)
  · have er9 := ite_t cb10 er9
    refine lv_aload_n hx hb dX4_isWhole_11 rfl (lv_at hl 0 rfl) ?_
    refine g_get (v := .int iDue_3) X hT hG fl_X4_31 23 rfl rfl rfl dX4_isWhole_12 ?_
    refine lv_iconst (v := 3) hx hb dX4_isWhole_15 (by decide) ?_
    refine lv_icmp_eq (tgt := 27) hx hb dX4_isWhole_16 (by decide) (fun cb11 => ?_) (fun cb11 => ?_)
    · have er9 := ite_t cb11 er9
      refine lv_iconst (v := 1) hx hb dX4_isWhole_27 (by decide) ?_
      refine lv_goto (tgt := 32) hx hb dX4_isWhole_28 (by decide) ?_
      cases er9
      exact J9 H locs ls hG (lv_sub hl [] rfl)
    · have er9 := ite_f cb11 er9
      refine lv_aload_n hx hb dX4_isWhole_19 rfl (lv_at hl 0 rfl) ?_
      refine g_get (v := .int iDue_3) X hT hG fl_X4_31 23 rfl rfl rfl dX4_isWhole_20 ?_
      refine lv_iconst (v := 4) hx hb dX4_isWhole_23 (by decide) ?_
      refine lv_icmp_ne (tgt := 31) hx hb dX4_isWhole_24 (by decide) (fun cb12 => ?_) (fun cb12 => ?_)
      · have er9 := ite_f cb12 er9
        refine lv_iconst (v := 0) hx hb dX4_isWhole_31 (by decide) ?_
        cases er9
        exact J9 H locs ls hG (lv_sub hl [] rfl)
      · have er9 := ite_t cb12 er9
        refine lv_iconst (v := 1) hx hb dX4_isWhole_27 (by decide) ?_
        refine lv_goto (tgt := 32) hx hb dX4_isWhole_28 (by decide) ?_
        cases er9
        exact J9 H locs ls hG (lv_sub hl [] rfl)
def f4_howManyRoads (iCurrent : Int32) : Option (Int32) :=
  some (iCurrent + 1)
set_option maxHeartbeats 4000000 in
set_option maxRecDepth 100000 in
theorem c_X4_howManyRoads (hq : gJ layB q) {o_r : Int32} (h : f4_howManyRoads iCurrent = some o_r) :
    GM l yX4_howManyRoads cX4_howManyRoads 1 (some .int) 0 0 D cI cZ layB q [.ref (q 23)] ([iReadings, iAlterations, iRankings, iLetters, iCurrent, iDue, iSize, iLsize], [], [gCosts, gWorths, gMiddles, gApart, gApartWithout, gNeeded, gUps, gDowns, gKeys, gNexts, gShutKeys, aCodes, aPbegins, aPends, aPlengths, aBegins, aEnds, aLengths, aRanks, aRoadsByRank, aRow, aRanksBefore, aBusy, aOpen, aShut]) (some (.int o_r)) ([iReadings, iAlterations, iRankings, iLetters, iCurrent, iDue, iSize, iLsize], [], [gCosts, gWorths, gMiddles, gApart, gApartWithout, gNeeded, gUps, gDowns, gKeys, gNexts, gShutKeys, aCodes, aPbegins, aPends, aPlengths, aBegins, aEnds, aLengths, aRanks, aRoadsByRank, aRow, aRanksBefore, aBusy, aOpen, aShut]) := by
  refine GM.go RX4 (by decide) rfl (Nat.le_of_ble_eq_true rfl) ?_
  intro p e s m args below meth c ls R Q H locs X hr hlk hT hG hl hR hQ
  have hx := X.1
  have hb := X.2.1
  have hl : lv_has ls 1 [(0, .ref (q 23))] := hl
  unfold f4_howManyRoads at h
  refine lv_aload_n hx hb dX4_howManyRoads_0 rfl (lv_at hl 0 rfl) ?_
  refine g_get (v := .int iCurrent) X hT hG fl_X4_28 23 rfl rfl rfl dX4_howManyRoads_1 ?_
  refine lv_iconst (v := 1) hx hb dX4_howManyRoads_4 (by decide) ?_
  refine lv_iadd hx hb dX4_howManyRoads_5 ?_
  cases h
  rw [hQ]
  exact g_iret X hT hG hr hlk dX4_howManyRoads_6
def f3_firstCost (p1 : Int32) (p2 : Int32) (aEnds : (Nat → Int32)) (aBegins : (Nat → Int32)) : Option (Int32) :=
  ckin p1 12 (ckin p2 12 (if (aEnds p1.toNatClampNeg) = (aBegins p2.toNatClampNeg) then (ckin p2 12 (ckin p1 12 (bnd1 (if (aEnds p2.toNatClampNeg) = (aBegins p1.toNatClampNeg) then (some (-5)) else some 0) fun (y_6 : Int32) => some y_6))) else some (-6)))
set_option maxHeartbeats 4000000 in
set_option maxRecDepth 100000 in
theorem c_X3_firstCost (hq : gJ layB q) {p1 : Int32} {p2 : Int32} {o_r : Int32} (h : f3_firstCost p1 p2 aEnds aBegins = some o_r) :
    GM l yX3_firstCost cX3_firstCost 3 (some .int) 0 0 D cI cZ layB q [.ref (q 24), .int p1, .int p2] ([iReadings, iAlterations, iRankings, iLetters, iCurrent, iDue, iSize, iLsize], [], [gCosts, gWorths, gMiddles, gApart, gApartWithout, gNeeded, gUps, gDowns, gKeys, gNexts, gShutKeys, aCodes, aPbegins, aPends, aPlengths, aBegins, aEnds, aLengths, aRanks, aRoadsByRank, aRow, aRanksBefore, aBusy, aOpen, aShut]) (some (.int o_r)) ([iReadings, iAlterations, iRankings, iLetters, iCurrent, iDue, iSize, iLsize], [], [gCosts, gWorths, gMiddles, gApart, gApartWithout, gNeeded, gUps, gDowns, gKeys, gNexts, gShutKeys, aCodes, aPbegins, aPends, aPlengths, aBegins, aEnds, aLengths, aRanks, aRoadsByRank, aRow, aRanksBefore, aBusy, aOpen, aShut]) := by
  refine GM.go RX3 (by decide) rfl (Nat.le_of_ble_eq_true rfl) ?_
  intro p e s m args below meth c ls R Q H locs X hr hlk hT hG hl hR hQ
  have hx := X.1
  have hb := X.2.1
  have hl : lv_has ls 3 [(0, .ref (q 24)), (1, .int p1), (2, .int p2)] := hl
  unfold f3_firstCost at h
  refine lv_aload_n hx hb dX3_firstCost_0 rfl (lv_at hl 0 rfl) ?_
  refine g_get (v := .ref (q 34)) X hT hG fl_X3_15 24 rfl rfl rfl dX3_firstCost_1 ?_
  refine lv_iload_n hx hb dX3_firstCost_4 rfl (lv_at hl 1 rfl) ?_
  obtain ⟨hi1, h⟩ := ckin_some h
  refine g_ald (f := aEnds) X hT hG 34 rfl rfl hi1 dX3_firstCost_5 ?_
  refine lv_aload_n hx hb dX3_firstCost_6 rfl (lv_at hl 0 rfl) ?_
  refine g_get (v := .ref (q 33)) X hT hG fl_X3_9 24 rfl rfl rfl dX3_firstCost_7 ?_
  refine lv_iload_n hx hb dX3_firstCost_10 rfl (lv_at hl 2 rfl) ?_
  obtain ⟨hi2, h⟩ := ckin_some h
  refine g_ald (f := aBegins) X hT hG 33 rfl rfl hi2 dX3_firstCost_11 ?_
  refine lv_icmp_eq (tgt := 18) hx hb dX3_firstCost_12 (by decide) (fun cb3 => ?_) (fun cb3 => ?_)
  · have h := ite_t cb3 h
    refine lv_aload_n hx hb dX3_firstCost_18 rfl (lv_at hl 0 rfl) ?_
    refine g_get (v := .ref (q 34)) X hT hG fl_X3_15 24 rfl rfl rfl dX3_firstCost_19 ?_
    refine lv_iload_n hx hb dX3_firstCost_22 rfl (lv_at hl 2 rfl) ?_
    obtain ⟨hi4, h⟩ := ckin_some h
    refine g_ald (f := aEnds) X hT hG 34 rfl rfl hi4 dX3_firstCost_23 ?_
    refine lv_aload_n hx hb dX3_firstCost_24 rfl (lv_at hl 0 rfl) ?_
    refine g_get (v := .ref (q 33)) X hT hG fl_X3_9 24 rfl rfl rfl dX3_firstCost_25 ?_
    refine lv_iload_n hx hb dX3_firstCost_28 rfl (lv_at hl 1 rfl) ?_
    obtain ⟨hi5, h⟩ := ckin_some h
    refine g_ald (f := aBegins) X hT hG 33 rfl rfl hi5 dX3_firstCost_29 ?_
    obtain ⟨y_6, er7, h⟩ := bnd1_some h
    have J7 : ∀ (H : Heap) (locs : List Loc) (ls : Array Slot), GH D cI cZ layB q s ([iReadings, iAlterations, iRankings, iLetters, iCurrent, iDue, iSize, iLsize], [], [gCosts, gWorths, gMiddles, gApart, gApartWithout, gNeeded, gUps, gDowns, gKeys, gNexts, gShutKeys, aCodes, aPbegins, aPends, aPlengths, aBegins, aEnds, aLengths, aRanks, aRoadsByRank, aRow, aRanksBefore, aBusy, aOpen, aShut]) H locs → lv_has ls 3 [] → W p l e R s m args below meth c H locs 0 0 Q (F0 m 39 ls [.int y_6]) := by
      intro H locs ls hG hl
      cases h
      rw [hQ]
      exact g_iret X hT hG hr hlk dX3_firstCost_39
    refine lv_icmp_ne (tgt := 38) hx hb dX3_firstCost_30 (by decide) (fun cb8 => ?_) (fun cb8 => ?_)
    · have er7 := ite_f cb8 er7
      refine lv_iconst (v := 0) hx hb dX3_firstCost_38 (by decide) ?_
      cases er7
      exact J7 H locs ls hG (lv_sub hl [] rfl)
    · have er7 := ite_t cb8 er7
      refine lv_bipush (v := (-5)) hx hb dX3_firstCost_33 (by decide) ?_
      refine lv_goto (tgt := 39) hx hb dX3_firstCost_35 (by decide) ?_
      cases er7
      exact J7 H locs ls hG (lv_sub hl [] rfl)
  · have h := ite_f cb3 h
    refine lv_bipush (v := (-6)) hx hb dX3_firstCost_15 (by decide) ?_
    cases h
    rw [hQ]
    exact g_iret X hT hG hr hlk dX3_firstCost_17
def f1_set (p1 : Int32) (p2 : Int32) (gCosts : (Nat → Int32)) (p3 : Int32) : Option ((Nat → Int32)) :=
  ckin ((p1 * 12) + p2) 144 (bd (upd gCosts ((p1 * 12) + p2).toNatClampNeg p3) fun gCosts_2 => some gCosts_2)
set_option maxHeartbeats 4000000 in
set_option maxRecDepth 100000 in
theorem c_X1_set_0 (hq : gJ layB q) {p1 : Int32} {p2 : Int32} {p3 : Int32} {o_gCosts : (Nat → Int32)} (h : f1_set p1 p2 gCosts p3 = some o_gCosts) :
    GM l yX1_set cX1_set 4 none 0 0 D cI cZ layB q [.ref (q 0), .int p1, .int p2, .int p3] ([iReadings, iAlterations, iRankings, iLetters, iCurrent, iDue, iSize, iLsize], [], [gCosts, gWorths, gMiddles, gApart, gApartWithout, gNeeded, gUps, gDowns, gKeys, gNexts, gShutKeys, aCodes, aPbegins, aPends, aPlengths, aBegins, aEnds, aLengths, aRanks, aRoadsByRank, aRow, aRanksBefore, aBusy, aOpen, aShut]) none ([iReadings, iAlterations, iRankings, iLetters, iCurrent, iDue, iSize, iLsize], [], [o_gCosts, gWorths, gMiddles, gApart, gApartWithout, gNeeded, gUps, gDowns, gKeys, gNexts, gShutKeys, aCodes, aPbegins, aPends, aPlengths, aBegins, aEnds, aLengths, aRanks, aRoadsByRank, aRow, aRanksBefore, aBusy, aOpen, aShut]) := by
  refine GM.go RX1 (by decide) rfl (Nat.le_of_ble_eq_true rfl) ?_
  intro p e s m args below meth c ls R Q H locs X hr hlk hT hG hl hR hQ
  have hx := X.1
  have hb := X.2.1
  have hl : lv_has ls 4 [(0, .ref (q 0)), (1, .int p1), (2, .int p2), (3, .int p3)] := hl
  unfold f1_set at h
  refine lv_aload_n hx hb dX1_set_0 rfl (lv_at hl 0 rfl) ?_
  refine g_get (v := .ref (q 11)) X hT hG fl_X1_9 0 rfl rfl rfl dX1_set_1 ?_
  refine lv_iload_n hx hb dX1_set_4 rfl (lv_at hl 1 rfl) ?_
  refine lv_bipush (v := 12) hx hb dX1_set_5 (by decide) ?_
  refine lv_imul hx hb dX1_set_7 ?_
  refine lv_iload_n hx hb dX1_set_8 rfl (lv_at hl 2 rfl) ?_
  refine lv_iadd hx hb dX1_set_9 ?_
  refine lv_iload_n hx hb dX1_set_10 rfl (lv_at hl 3 rfl) ?_
  obtain ⟨hi1, h⟩ := ckin_some h
  obtain ⟨gCosts_2, egCosts_2⟩ : ∃ z : Nat → Int32, z = upd gCosts ((p1 * 12) + p2).toNatClampNeg p3 := ⟨_, rfl⟩
  have h := bd_e egCosts_2 h
  refine g_ast (w' := ([iReadings, iAlterations, iRankings, iLetters, iCurrent, iDue, iSize, iLsize], [], [gCosts_2, gWorths, gMiddles, gApart, gApartWithout, gNeeded, gUps, gDowns, gKeys, gNexts, gShutKeys, aCodes, aPbegins, aPends, aPlengths, aBegins, aEnds, aLengths, aRanks, aRoadsByRank, aRow, aRanksBefore, aBusy, aOpen, aShut])) X hT hq hG 11 rfl ga_B_gCosts (Nat.le_of_ble_eq_true rfl) hi1 (by subst egCosts_2; rfl) dX1_set_11 (fun H locs hG => ?_)
  cases h
  rw [hQ]
  exact g_vret X hT hG hr hlk dX1_set_12
def f3_take_b2 (r_1 : Int32) (x2_6 : Int32) (aEnds_4 : (Nat → Int32)) (aBegins_3 : (Nat → Int32)) (x3_11 : Int32) (gCosts_12 : (Nat → Int32)) : Option ((Int32 × (Nat → Int32)) ⊕ ((Nat → Int32))) :=
  if r_1 ≤ x3_11 then (some (.inr gCosts_12)) else bnd1 (f3_firstCost x2_6 x3_11 aEnds_4 aBegins_3) fun (r_16 : Int32) => bnd1 (f1_set x2_6 x3_11 gCosts_12 r_16) fun (gCosts_18 : (Nat → Int32)) => bd (x3_11 + 1) fun x3_20 => some (.inl (x3_20, gCosts_18))
def f3_take_b1 (fu : Nat) (r_1 : Int32) (aEnds_4 : (Nat → Int32)) (aBegins_3 : (Nat → Int32)) (x2_6 : Int32) (gCosts_7 : (Nat → Int32)) : Option ((Int32 × (Nat → Int32)) ⊕ ((Nat → Int32))) :=
  if r_1 ≤ x2_6 then (some (.inr gCosts_7)) else bnd1 (lpG (fun z => f3_take_b2 r_1 x2_6 aEnds_4 aBegins_3 z.1 z.2) fu ((0 : Int32), gCosts_7)) fun (gCosts_13 : (Nat → Int32)) => bd (x2_6 + 1) fun x2_21 => some (.inl (x2_21, gCosts_13))
def f3_take (fu : Nat) (iCurrent : Int32) (aPbegins : (Nat → Int32)) (aBegins : (Nat → Int32)) (aPends : (Nat → Int32)) (aEnds : (Nat → Int32)) (aPlengths : (Nat → Int32)) (aLengths : (Nat → Int32)) (gCosts : (Nat → Int32)) : Option (Int32 × (Nat → Int32) × (Nat → Int32) × (Nat → Int32) × (Nat → Int32)) :=
  bnd1 (f4_howManyRoads iCurrent) fun (r_1 : Int32) => bd (va_cpy aPbegins aBegins (0 : Int32).toNatClampNeg (0 : Int32).toNatClampNeg (12 : Int32).toNatClampNeg) fun aBegins_3 => bd (va_cpy aPends aEnds (0 : Int32).toNatClampNeg (0 : Int32).toNatClampNeg (12 : Int32).toNatClampNeg) fun aEnds_4 => bd (va_cpy aPlengths aLengths (0 : Int32).toNatClampNeg (0 : Int32).toNatClampNeg (12 : Int32).toNatClampNeg) fun aLengths_5 => bnd1 (lpG (fun z => f3_take_b1 fu r_1 aEnds_4 aBegins_3 z.1 z.2) fu ((0 : Int32), gCosts)) fun (gCosts_8 : (Nat → Int32)) => some (r_1, gCosts_8, aBegins_3, aEnds_4, aLengths_5)
set_option maxHeartbeats 4000000 in
set_option maxRecDepth 100000 in
theorem c_X3_take_24_23 (hq : gJ layB q) {fu : Nat} {o_iSize : Int32} {o_gCosts : (Nat → Int32)} {o_aBegins : (Nat → Int32)} {o_aEnds : (Nat → Int32)} {o_aLengths : (Nat → Int32)} (h : f3_take fu iCurrent aPbegins aBegins aPends aEnds aPlengths aLengths gCosts = some (o_iSize, o_gCosts, o_aBegins, o_aEnds, o_aLengths)) :
    GM l yX3_take cX3_take 4 none 1 23 D cI cZ layB q [.ref (q 24), .ref (q 23)] ([iReadings, iAlterations, iRankings, iLetters, iCurrent, iDue, iSize, iLsize], [], [gCosts, gWorths, gMiddles, gApart, gApartWithout, gNeeded, gUps, gDowns, gKeys, gNexts, gShutKeys, aCodes, aPbegins, aPends, aPlengths, aBegins, aEnds, aLengths, aRanks, aRoadsByRank, aRow, aRanksBefore, aBusy, aOpen, aShut]) none ([iReadings, iAlterations, iRankings, iLetters, iCurrent, iDue, o_iSize, iLsize], [], [o_gCosts, gWorths, gMiddles, gApart, gApartWithout, gNeeded, gUps, gDowns, gKeys, gNexts, gShutKeys, aCodes, aPbegins, aPends, aPlengths, o_aBegins, o_aEnds, o_aLengths, aRanks, aRoadsByRank, aRow, aRanksBefore, aBusy, aOpen, aShut]) := by
  refine GM.go RX3 (by decide) rfl (Nat.le_of_ble_eq_true rfl) ?_
  intro p e s m args below meth c ls R Q H locs X hr hlk hT hG hl hR hQ
  have hx := X.1
  have hb := X.2.1
  have hl : lv_has ls 4 [(0, .ref (q 24)), (1, .ref (q 23))] := hl
  unfold f3_take at h
  refine lv_aload_n hx hb dX3_take_0 rfl (lv_at hl 0 rfl) ?_
  refine lv_aload_n hx hb dX3_take_1 rfl (lv_at hl 1 rfl) ?_
  obtain ⟨r_1, ec2, h⟩ := bnd1_some h
  refine g_callVr [] [.ref (q 24)] 23 X hT hG ml_X3_28 (c_X4_howManyRoads hq ec2) rfl rfl rfl rfl rfl hl.1 (Nat.le_of_ble_eq_true rfl) (by rw [hR]; exact ⟨Nat.le_of_ble_eq_true rfl, Nat.le_of_ble_eq_true rfl⟩) dX3_take_2 (fun H locs hG => ?_)
  refine g_putI (w' := ([iReadings, iAlterations, iRankings, iLetters, iCurrent, iDue, r_1, iLsize], [], [gCosts, gWorths, gMiddles, gApart, gApartWithout, gNeeded, gUps, gDowns, gKeys, gNexts, gShutKeys, aCodes, aPbegins, aPends, aPlengths, aBegins, aEnds, aLengths, aRanks, aRoadsByRank, aRow, aRanksBefore, aBusy, aOpen, aShut])) X hT hq hG fp_X3_34 24 rfl rfl gu_B_iSize (Nat.le_of_ble_eq_true rfl) rfl dX3_take_5 (fun H locs hG => ?_)
  refine lv_aload_n hx hb dX3_take_8 rfl (lv_at hl 1 rfl) ?_
  refine g_get (v := .ref (q 30)) X hT hG fl_X3_38 23 rfl rfl rfl dX3_take_9 ?_
  refine lv_iconst (v := 0) hx hb dX3_take_12 (by decide) ?_
  refine lv_aload_n hx hb dX3_take_13 rfl (lv_at hl 0 rfl) ?_
  refine g_get (v := .ref (q 33)) X hT hG fl_X3_9 24 rfl rfl rfl dX3_take_14 ?_
  refine lv_iconst (v := 0) hx hb dX3_take_17 (by decide) ?_
  refine lv_bipush (v := 12) hx hb dX3_take_18 (by decide) ?_
  obtain ⟨aBegins_3, eaBegins_3⟩ : ∃ z : Nat → Int32, z = va_cpy aPbegins aBegins (0 : Int32).toNatClampNeg (0 : Int32).toNatClampNeg (12 : Int32).toNatClampNeg := ⟨_, rfl⟩
  have h := bd_e eaBegins_3 h
  refine g_copy 30 33 (w' := ([iReadings, iAlterations, iRankings, iLetters, iCurrent, iDue, r_1, iLsize], [], [gCosts, gWorths, gMiddles, gApart, gApartWithout, gNeeded, gUps, gDowns, gKeys, gNexts, gShutKeys, aCodes, aPbegins, aPends, aPlengths, aBegins_3, aEnds, aLengths, aRanks, aRoadsByRank, aRow, aRanksBefore, aBusy, aOpen, aShut])) X hT hq hG mc_X3_39 rfl rfl ga_B_aBegins (Nat.le_of_ble_eq_true rfl) (by decide) (by decide) (by decide) (by decide) (by decide) hl.1 (by rw [hR]; exact Nat.le_of_ble_eq_true rfl) (by rw [hR]; exact Nat.le_of_ble_eq_true rfl) (by subst eaBegins_3; rfl) dX3_take_20 (fun H locs hG => ?_)
  refine lv_aload_n hx hb dX3_take_23 rfl (lv_at hl 1 rfl) ?_
  refine g_get (v := .ref (q 31)) X hT hG fl_X3_45 23 rfl rfl rfl dX3_take_24 ?_
  refine lv_iconst (v := 0) hx hb dX3_take_27 (by decide) ?_
  refine lv_aload_n hx hb dX3_take_28 rfl (lv_at hl 0 rfl) ?_
  refine g_get (v := .ref (q 34)) X hT hG fl_X3_15 24 rfl rfl rfl dX3_take_29 ?_
  refine lv_iconst (v := 0) hx hb dX3_take_32 (by decide) ?_
  refine lv_bipush (v := 12) hx hb dX3_take_33 (by decide) ?_
  obtain ⟨aEnds_4, eaEnds_4⟩ : ∃ z : Nat → Int32, z = va_cpy aPends aEnds (0 : Int32).toNatClampNeg (0 : Int32).toNatClampNeg (12 : Int32).toNatClampNeg := ⟨_, rfl⟩
  have h := bd_e eaEnds_4 h
  refine g_copy 31 34 (w' := ([iReadings, iAlterations, iRankings, iLetters, iCurrent, iDue, r_1, iLsize], [], [gCosts, gWorths, gMiddles, gApart, gApartWithout, gNeeded, gUps, gDowns, gKeys, gNexts, gShutKeys, aCodes, aPbegins, aPends, aPlengths, aBegins_3, aEnds_4, aLengths, aRanks, aRoadsByRank, aRow, aRanksBefore, aBusy, aOpen, aShut])) X hT hq hG mc_X3_39 rfl rfl ga_B_aEnds (Nat.le_of_ble_eq_true rfl) (by decide) (by decide) (by decide) (by decide) (by decide) hl.1 (by rw [hR]; exact Nat.le_of_ble_eq_true rfl) (by rw [hR]; exact Nat.le_of_ble_eq_true rfl) (by subst eaEnds_4; rfl) dX3_take_35 (fun H locs hG => ?_)
  refine lv_aload_n hx hb dX3_take_38 rfl (lv_at hl 1 rfl) ?_
  refine g_get (v := .ref (q 32)) X hT hG fl_X3_46 23 rfl rfl rfl dX3_take_39 ?_
  refine lv_iconst (v := 0) hx hb dX3_take_42 (by decide) ?_
  refine lv_aload_n hx hb dX3_take_43 rfl (lv_at hl 0 rfl) ?_
  refine g_get (v := .ref (q 35)) X hT hG fl_X3_18 24 rfl rfl rfl dX3_take_44 ?_
  refine lv_iconst (v := 0) hx hb dX3_take_47 (by decide) ?_
  refine lv_bipush (v := 12) hx hb dX3_take_48 (by decide) ?_
  obtain ⟨aLengths_5, eaLengths_5⟩ : ∃ z : Nat → Int32, z = va_cpy aPlengths aLengths (0 : Int32).toNatClampNeg (0 : Int32).toNatClampNeg (12 : Int32).toNatClampNeg := ⟨_, rfl⟩
  have h := bd_e eaLengths_5 h
  refine g_copy 32 35 (w' := ([iReadings, iAlterations, iRankings, iLetters, iCurrent, iDue, r_1, iLsize], [], [gCosts, gWorths, gMiddles, gApart, gApartWithout, gNeeded, gUps, gDowns, gKeys, gNexts, gShutKeys, aCodes, aPbegins, aPends, aPlengths, aBegins_3, aEnds_4, aLengths_5, aRanks, aRoadsByRank, aRow, aRanksBefore, aBusy, aOpen, aShut])) X hT hq hG mc_X3_39 rfl rfl ga_B_aLengths (Nat.le_of_ble_eq_true rfl) (by decide) (by decide) (by decide) (by decide) (by decide) hl.1 (by rw [hR]; exact Nat.le_of_ble_eq_true rfl) (by rw [hR]; exact Nat.le_of_ble_eq_true rfl) (by subst eaLengths_5; rfl) dX3_take_50 (fun H locs hG => ?_)
  refine lv_iconst (v := 0) hx hb dX3_take_53 (by decide) ?_
  refine lv_istore_n (lv' := [(2, .int 0), (0, .ref (q 24)), (1, .ref (q 23))]) hx hb dX3_take_54 rfl hl (by decide) rfl (fun ls hl => ?_)
  obtain ⟨gCosts_8, eL9, h⟩ := bnd1_some h
  have JX9 : ∀ (H : Heap) (locs : List Loc) (ls : Array Slot), GH D cI cZ layB q s ([iReadings, iAlterations, iRankings, iLetters, iCurrent, iDue, r_1, iLsize], [], [gCosts_8, gWorths, gMiddles, gApart, gApartWithout, gNeeded, gUps, gDowns, gKeys, gNexts, gShutKeys, aCodes, aPbegins, aPends, aPlengths, aBegins_3, aEnds_4, aLengths_5, aRanks, aRoadsByRank, aRow, aRanksBefore, aBusy, aOpen, aShut]) H locs → lv_has ls 4 [] → W p l e R s m args below meth c H locs 0 0 Q (F0 m 100 ls []) := by
    intro H locs ls hG hl
    cases h
    rw [hQ]
    exact g_vret X hT hG hr hlk dX3_take_100
  refine lpG_W (Wh := fun z => ∀ (H : Heap) (locs : List Loc) (ls : Array Slot), GH D cI cZ layB q s ([iReadings, iAlterations, iRankings, iLetters, iCurrent, iDue, r_1, iLsize], [], [z.2, gWorths, gMiddles, gApart, gApartWithout, gNeeded, gUps, gDowns, gKeys, gNexts, gShutKeys, aCodes, aPbegins, aPends, aPlengths, aBegins_3, aEnds_4, aLengths_5, aRanks, aRoadsByRank, aRow, aRanksBefore, aBusy, aOpen, aShut]) H locs → lv_has ls 4 [(0, .ref (q 24)), (2, .int (z.1))] → W p l e R s m args below meth c H locs 0 0 Q (F0 m 55 ls [])) ?_ fu _ eL9 H locs ls hG (lv_sub hl [1, 0] rfl)
  intro z rr9 hb9 hin9 hout9
  obtain ⟨x2_6, gCosts_7⟩ := z
  intro H locs ls hG hl
  have hb9 : f3_take_b1 fu r_1 aEnds_4 aBegins_3 x2_6 gCosts_7 = some rr9 := hb9
  have hG : GH D cI cZ layB q s ([iReadings, iAlterations, iRankings, iLetters, iCurrent, iDue, r_1, iLsize], [], [gCosts_7, gWorths, gMiddles, gApart, gApartWithout, gNeeded, gUps, gDowns, gKeys, gNexts, gShutKeys, aCodes, aPbegins, aPends, aPlengths, aBegins_3, aEnds_4, aLengths_5, aRanks, aRoadsByRank, aRow, aRanksBefore, aBusy, aOpen, aShut]) H locs := hG
  have hl : lv_has ls 4 [(0, .ref (q 24)), (2, .int x2_6)] := hl
  unfold f3_take_b1 at hb9
  refine lv_iload_n hx hb dX3_take_55 rfl (lv_at hl 1 rfl) ?_
  refine lv_aload_n hx hb dX3_take_56 rfl (lv_at hl 0 rfl) ?_
  refine g_get (v := .int r_1) X hT hG fl_X3_34 24 rfl rfl rfl dX3_take_57 ?_
  refine lv_icmp_ge (tgt := 100) hx hb dX3_take_60 (by decide) (fun cb10 => ?_) (fun cb10 => ?_)
  · have hb9 := ite_t cb10 hb9
    have eo := hout9 _ (Option.some.inj hb9).symm
    cases eo
    exact JX9 H locs ls hG (lv_sub hl [] rfl)
  · have hb9 := ite_f cb10 hb9
    refine lv_iconst (v := 0) hx hb dX3_take_63 (by decide) ?_
    refine lv_istore_n (lv' := [(3, .int 0), (0, .ref (q 24)), (2, .int x2_6)]) hx hb dX3_take_64 rfl hl (by decide) rfl (fun ls hl => ?_)
    obtain ⟨gCosts_13, eL14, hb9⟩ := bnd1_some hb9
    have JX14 : ∀ (H : Heap) (locs : List Loc) (ls : Array Slot), GH D cI cZ layB q s ([iReadings, iAlterations, iRankings, iLetters, iCurrent, iDue, r_1, iLsize], [], [gCosts_13, gWorths, gMiddles, gApart, gApartWithout, gNeeded, gUps, gDowns, gKeys, gNexts, gShutKeys, aCodes, aPbegins, aPends, aPlengths, aBegins_3, aEnds_4, aLengths_5, aRanks, aRoadsByRank, aRow, aRanksBefore, aBusy, aOpen, aShut]) H locs → lv_has ls 4 [(0, .ref (q 24)), (2, .int x2_6)] → W p l e R s m args below meth c H locs 0 0 Q (F0 m 94 ls []) := by
      intro H locs ls hG hl
      obtain ⟨x2_21, ex2_21⟩ : ∃ z : Int32, z = x2_6 + 1 := ⟨_, rfl⟩
      have hb9 := bd_e ex2_21 hb9
      refine lv_iinc (v := x2_21) (lv' := [(2, .int x2_21), (0, .ref (q 24))]) hx hb dX3_take_94 hl (k := 1) rfl (by rw [ex2_21]; rfl) (by decide) rfl (fun ls hl => ?_)
      refine lv_goto (tgt := 55) hx hb dX3_take_97 (by decide) ?_
      exact hin9 _ (Option.some.inj hb9).symm H locs ls hG (lv_sub hl [1, 0] rfl)
    refine lpG_W (Wh := fun z => ∀ (H : Heap) (locs : List Loc) (ls : Array Slot), GH D cI cZ layB q s ([iReadings, iAlterations, iRankings, iLetters, iCurrent, iDue, r_1, iLsize], [], [z.2, gWorths, gMiddles, gApart, gApartWithout, gNeeded, gUps, gDowns, gKeys, gNexts, gShutKeys, aCodes, aPbegins, aPends, aPlengths, aBegins_3, aEnds_4, aLengths_5, aRanks, aRoadsByRank, aRow, aRanksBefore, aBusy, aOpen, aShut]) H locs → lv_has ls 4 [(0, .ref (q 24)), (2, .int x2_6), (3, .int (z.1))] → W p l e R s m args below meth c H locs 0 0 Q (F0 m 65 ls [])) ?_ fu _ eL14 H locs ls hG (lv_sub hl [1, 2, 0] rfl)
    intro z rr14 hb14 hin14 hout14
    obtain ⟨x3_11, gCosts_12⟩ := z
    intro H locs ls hG hl
    have hb14 : f3_take_b2 r_1 x2_6 aEnds_4 aBegins_3 x3_11 gCosts_12 = some rr14 := hb14
    have hG : GH D cI cZ layB q s ([iReadings, iAlterations, iRankings, iLetters, iCurrent, iDue, r_1, iLsize], [], [gCosts_12, gWorths, gMiddles, gApart, gApartWithout, gNeeded, gUps, gDowns, gKeys, gNexts, gShutKeys, aCodes, aPbegins, aPends, aPlengths, aBegins_3, aEnds_4, aLengths_5, aRanks, aRoadsByRank, aRow, aRanksBefore, aBusy, aOpen, aShut]) H locs := hG
    have hl : lv_has ls 4 [(0, .ref (q 24)), (2, .int x2_6), (3, .int x3_11)] := hl
    unfold f3_take_b2 at hb14
    refine lv_iload_n hx hb dX3_take_65 rfl (lv_at hl 2 rfl) ?_
    refine lv_aload_n hx hb dX3_take_66 rfl (lv_at hl 0 rfl) ?_
    refine g_get (v := .int r_1) X hT hG fl_X3_34 24 rfl rfl rfl dX3_take_67 ?_
    refine lv_icmp_ge (tgt := 94) hx hb dX3_take_70 (by decide) (fun cb15 => ?_) (fun cb15 => ?_)
    · have hb14 := ite_t cb15 hb14
      have eo := hout14 _ (Option.some.inj hb14).symm
      cases eo
      exact JX14 H locs ls hG (lv_sub hl [0, 1] rfl)
    · have hb14 := ite_f cb15 hb14
      refine lv_aload_n hx hb dX3_take_73 rfl (lv_at hl 0 rfl) ?_
      refine g_get (v := .ref (q 0)) X hT hG fl_X3_24 24 rfl rfl rfl dX3_take_74 ?_
      refine lv_iload_n hx hb dX3_take_77 rfl (lv_at hl 1 rfl) ?_
      refine lv_iload_n hx hb dX3_take_78 rfl (lv_at hl 2 rfl) ?_
      refine lv_aload_n hx hb dX3_take_79 rfl (lv_at hl 0 rfl) ?_
      refine lv_iload_n hx hb dX3_take_80 rfl (lv_at hl 1 rfl) ?_
      refine lv_iload_n hx hb dX3_take_81 rfl (lv_at hl 2 rfl) ?_
      obtain ⟨r_16, ec17, hb14⟩ := bnd1_some hb14
      refine g_callVr [.int x2_6, .int x3_11] [.int x3_11, .int x2_6, .ref (q 0)] 24 X hT hG ml_X3_47 (c_X3_firstCost hq ec17) rfl rfl rfl rfl rfl hl.1 (Nat.le_of_ble_eq_true rfl) (by rw [hR]; exact ⟨Nat.le_of_ble_eq_true rfl, Nat.le_of_ble_eq_true rfl⟩) dX3_take_82 (fun H locs hG => ?_)
      obtain ⟨gCosts_18, ec19, hb14⟩ := bnd1_some hb14
      refine g_callVv [.int x2_6, .int x3_11, .int r_16] [] 0 X hT hG ml_X3_51 (c_X1_set_0 hq ec19) rfl rfl rfl rfl rfl hl.1 (Nat.le_of_ble_eq_true rfl) (by rw [hR]; exact ⟨Nat.le_of_ble_eq_true rfl, Nat.le_of_ble_eq_true rfl⟩) dX3_take_85 (fun H locs hG => ?_)
      have hG : GH D cI cZ layB q s ([iReadings, iAlterations, iRankings, iLetters, iCurrent, iDue, r_1, iLsize], [], [gCosts_18, gWorths, gMiddles, gApart, gApartWithout, gNeeded, gUps, gDowns, gKeys, gNexts, gShutKeys, aCodes, aPbegins, aPends, aPlengths, aBegins_3, aEnds_4, aLengths_5, aRanks, aRoadsByRank, aRow, aRanksBefore, aBusy, aOpen, aShut]) H locs := hG
      obtain ⟨x3_20, ex3_20⟩ : ∃ z : Int32, z = x3_11 + 1 := ⟨_, rfl⟩
      have hb14 := bd_e ex3_20 hb14
      refine lv_iinc (v := x3_20) (lv' := [(3, .int x3_20), (0, .ref (q 24)), (2, .int x2_6)]) hx hb dX3_take_88 hl (k := 2) rfl (by rw [ex3_20]; rfl) (by decide) rfl (fun ls hl => ?_)
      refine lv_goto (tgt := 65) hx hb dX3_take_91 (by decide) ?_
      exact hin14 _ (Option.some.inj hb14).symm H locs ls hG (lv_sub hl [1, 2, 0] rfl)
def f1_get (p1 : Int32) (p2 : Int32) (gCosts : (Nat → Int32)) : Option (Int32) :=
  ckin ((p1 * 12) + p2) 144 (some (gCosts ((p1 * 12) + p2).toNatClampNeg))
set_option maxHeartbeats 4000000 in
set_option maxRecDepth 100000 in
theorem c_X1_get_0 (hq : gJ layB q) {p1 : Int32} {p2 : Int32} {o_r : Int32} (h : f1_get p1 p2 gCosts = some o_r) :
    GM l yX1_get cX1_get 3 (some .int) 0 0 D cI cZ layB q [.ref (q 0), .int p1, .int p2] ([iReadings, iAlterations, iRankings, iLetters, iCurrent, iDue, iSize, iLsize], [], [gCosts, gWorths, gMiddles, gApart, gApartWithout, gNeeded, gUps, gDowns, gKeys, gNexts, gShutKeys, aCodes, aPbegins, aPends, aPlengths, aBegins, aEnds, aLengths, aRanks, aRoadsByRank, aRow, aRanksBefore, aBusy, aOpen, aShut]) (some (.int o_r)) ([iReadings, iAlterations, iRankings, iLetters, iCurrent, iDue, iSize, iLsize], [], [gCosts, gWorths, gMiddles, gApart, gApartWithout, gNeeded, gUps, gDowns, gKeys, gNexts, gShutKeys, aCodes, aPbegins, aPends, aPlengths, aBegins, aEnds, aLengths, aRanks, aRoadsByRank, aRow, aRanksBefore, aBusy, aOpen, aShut]) := by
  refine GM.go RX1 (by decide) rfl (Nat.le_of_ble_eq_true rfl) ?_
  intro p e s m args below meth c ls R Q H locs X hr hlk hT hG hl hR hQ
  have hx := X.1
  have hb := X.2.1
  have hl : lv_has ls 3 [(0, .ref (q 0)), (1, .int p1), (2, .int p2)] := hl
  unfold f1_get at h
  refine lv_aload_n hx hb dX1_get_0 rfl (lv_at hl 0 rfl) ?_
  refine g_get (v := .ref (q 11)) X hT hG fl_X1_9 0 rfl rfl rfl dX1_get_1 ?_
  refine lv_iload_n hx hb dX1_get_4 rfl (lv_at hl 1 rfl) ?_
  refine lv_bipush (v := 12) hx hb dX1_get_5 (by decide) ?_
  refine lv_imul hx hb dX1_get_7 ?_
  refine lv_iload_n hx hb dX1_get_8 rfl (lv_at hl 2 rfl) ?_
  refine lv_iadd hx hb dX1_get_9 ?_
  obtain ⟨hi1, h⟩ := ckin_some h
  refine g_ald (f := gCosts) X hT hG 11 rfl rfl hi1 dX1_get_10 ?_
  cases h
  rw [hQ]
  exact g_iret X hT hG hr hlk dX1_get_11
def f3_stepWorth (p1 : Int32) (p2 : Int32) (gCosts : (Nat → Int32)) (aLengths : (Nat → Int32)) : Option (Int32) :=
  bnd1 (f1_get p1 p2 gCosts) fun (r_1 : Int32) => bnd1 (if r_1 < 0 then (some 268435456) else ckin p2 12 (some (r_1 + (aLengths p2.toNatClampNeg)))) fun (y_3 : Int32) => some y_3
set_option maxHeartbeats 4000000 in
set_option maxRecDepth 100000 in
theorem c_X3_stepWorth (hq : gJ layB q) {p1 : Int32} {p2 : Int32} {o_r : Int32} (h : f3_stepWorth p1 p2 gCosts aLengths = some o_r) :
    GM l yX3_stepWorth cX3_stepWorth 4 (some .int) 1 22 D cI cZ layB q [.ref (q 24), .int p1, .int p2] ([iReadings, iAlterations, iRankings, iLetters, iCurrent, iDue, iSize, iLsize], [], [gCosts, gWorths, gMiddles, gApart, gApartWithout, gNeeded, gUps, gDowns, gKeys, gNexts, gShutKeys, aCodes, aPbegins, aPends, aPlengths, aBegins, aEnds, aLengths, aRanks, aRoadsByRank, aRow, aRanksBefore, aBusy, aOpen, aShut]) (some (.int o_r)) ([iReadings, iAlterations, iRankings, iLetters, iCurrent, iDue, iSize, iLsize], [], [gCosts, gWorths, gMiddles, gApart, gApartWithout, gNeeded, gUps, gDowns, gKeys, gNexts, gShutKeys, aCodes, aPbegins, aPends, aPlengths, aBegins, aEnds, aLengths, aRanks, aRoadsByRank, aRow, aRanksBefore, aBusy, aOpen, aShut]) := by
  refine GM.go RX3 (by decide) rfl (Nat.le_of_ble_eq_true rfl) ?_
  intro p e s m args below meth c ls R Q H locs X hr hlk hT hG hl hR hQ
  have hx := X.1
  have hb := X.2.1
  have hl : lv_has ls 4 [(0, .ref (q 24)), (1, .int p1), (2, .int p2)] := hl
  unfold f3_stepWorth at h
  refine lv_aload_n hx hb dX3_stepWorth_0 rfl (lv_at hl 0 rfl) ?_
  refine g_get (v := .ref (q 0)) X hT hG fl_X3_24 24 rfl rfl rfl dX3_stepWorth_1 ?_
  refine lv_iload_n hx hb dX3_stepWorth_4 rfl (lv_at hl 1 rfl) ?_
  refine lv_iload_n hx hb dX3_stepWorth_5 rfl (lv_at hl 2 rfl) ?_
  obtain ⟨r_1, ec2, h⟩ := bnd1_some h
  refine g_callVr [.int p1, .int p2] [] 0 X hT hG ml_X3_59 (c_X1_get_0 hq ec2) rfl rfl rfl rfl rfl hl.1 (Nat.le_of_ble_eq_true rfl) (by rw [hR]; exact ⟨Nat.le_of_ble_eq_true rfl, Nat.le_of_ble_eq_true rfl⟩) dX3_stepWorth_6 (fun H locs hG => ?_)
  refine lv_istore_n (lv' := [(3, .int r_1), (0, .ref (q 24)), (1, .int p1), (2, .int p2)]) hx hb dX3_stepWorth_9 rfl hl (by decide) rfl (fun ls hl => ?_)
  refine lv_iload_n hx hb dX3_stepWorth_10 rfl (lv_at hl 0 rfl) ?_
  obtain ⟨y_3, er4, h⟩ := bnd1_some h
  have J4 : ∀ (H : Heap) (locs : List Loc) (ls : Array Slot), GH D cI cZ layB q s ([iReadings, iAlterations, iRankings, iLetters, iCurrent, iDue, iSize, iLsize], [], [gCosts, gWorths, gMiddles, gApart, gApartWithout, gNeeded, gUps, gDowns, gKeys, gNexts, gShutKeys, aCodes, aPbegins, aPends, aPlengths, aBegins, aEnds, aLengths, aRanks, aRoadsByRank, aRow, aRanksBefore, aBusy, aOpen, aShut]) H locs → lv_has ls 4 [] → W p l e R s m args below meth c H locs 0 0 Q (F0 m 27 ls [.int y_3]) := by
    intro H locs ls hG hl
    cases h
    rw [hQ]
    exact g_iret X hT hG hr hlk dX3_stepWorth_27
  refine lv_if_lt (tgt := 25) hx hb dX3_stepWorth_11 (by decide) (fun cb5 => ?_) (fun cb5 => ?_)
  · have er4 := ite_t cb5 er4
    refine lv_ldc (v := 268435456) hx hb X.2.2.2.1 (X.2.2.2.2 _ cn_X3_62) dX3_stepWorth_25 ?_
    cases er4
    exact J4 H locs ls hG (lv_sub hl [] rfl)
  · have er4 := ite_f cb5 er4
    refine lv_iload_n hx hb dX3_stepWorth_14 rfl (lv_at hl 0 rfl) ?_
    refine lv_aload_n hx hb dX3_stepWorth_15 rfl (lv_at hl 1 rfl) ?_
    refine g_get (v := .ref (q 35)) X hT hG fl_X3_18 24 rfl rfl rfl dX3_stepWorth_16 ?_
    refine lv_iload_n hx hb dX3_stepWorth_19 rfl (lv_at hl 3 rfl) ?_
    obtain ⟨hi6, er4⟩ := ckin_some er4
    refine g_ald (f := aLengths) X hT hG 35 rfl rfl hi6 dX3_stepWorth_20 ?_
    refine lv_iadd hx hb dX3_stepWorth_21 ?_
    refine lv_goto (tgt := 27) hx hb dX3_stepWorth_22 (by decide) ?_
    cases er4
    exact J4 H locs ls hG (lv_sub hl [] rfl)
set_option maxHeartbeats 4000000 in
set_option maxRecDepth 100000 in
theorem c_X1_set_1 (hq : gJ layB q) {p1 : Int32} {p2 : Int32} {p3 : Int32} {o_gWorths : (Nat → Int32)} (h : f1_set p1 p2 gWorths p3 = some o_gWorths) :
    GM l yX1_set cX1_set 4 none 0 0 D cI cZ layB q [.ref (q 1), .int p1, .int p2, .int p3] ([iReadings, iAlterations, iRankings, iLetters, iCurrent, iDue, iSize, iLsize], [], [gCosts, gWorths, gMiddles, gApart, gApartWithout, gNeeded, gUps, gDowns, gKeys, gNexts, gShutKeys, aCodes, aPbegins, aPends, aPlengths, aBegins, aEnds, aLengths, aRanks, aRoadsByRank, aRow, aRanksBefore, aBusy, aOpen, aShut]) none ([iReadings, iAlterations, iRankings, iLetters, iCurrent, iDue, iSize, iLsize], [], [gCosts, o_gWorths, gMiddles, gApart, gApartWithout, gNeeded, gUps, gDowns, gKeys, gNexts, gShutKeys, aCodes, aPbegins, aPends, aPlengths, aBegins, aEnds, aLengths, aRanks, aRoadsByRank, aRow, aRanksBefore, aBusy, aOpen, aShut]) := by
  refine GM.go RX1 (by decide) rfl (Nat.le_of_ble_eq_true rfl) ?_
  intro p e s m args below meth c ls R Q H locs X hr hlk hT hG hl hR hQ
  have hx := X.1
  have hb := X.2.1
  have hl : lv_has ls 4 [(0, .ref (q 1)), (1, .int p1), (2, .int p2), (3, .int p3)] := hl
  unfold f1_set at h
  refine lv_aload_n hx hb dX1_set_0 rfl (lv_at hl 0 rfl) ?_
  refine g_get (v := .ref (q 12)) X hT hG fl_X1_9 1 rfl rfl rfl dX1_set_1 ?_
  refine lv_iload_n hx hb dX1_set_4 rfl (lv_at hl 1 rfl) ?_
  refine lv_bipush (v := 12) hx hb dX1_set_5 (by decide) ?_
  refine lv_imul hx hb dX1_set_7 ?_
  refine lv_iload_n hx hb dX1_set_8 rfl (lv_at hl 2 rfl) ?_
  refine lv_iadd hx hb dX1_set_9 ?_
  refine lv_iload_n hx hb dX1_set_10 rfl (lv_at hl 3 rfl) ?_
  obtain ⟨hi1, h⟩ := ckin_some h
  obtain ⟨gWorths_2, egWorths_2⟩ : ∃ z : Nat → Int32, z = upd gWorths ((p1 * 12) + p2).toNatClampNeg p3 := ⟨_, rfl⟩
  have h := bd_e egWorths_2 h
  refine g_ast (w' := ([iReadings, iAlterations, iRankings, iLetters, iCurrent, iDue, iSize, iLsize], [], [gCosts, gWorths_2, gMiddles, gApart, gApartWithout, gNeeded, gUps, gDowns, gKeys, gNexts, gShutKeys, aCodes, aPbegins, aPends, aPlengths, aBegins, aEnds, aLengths, aRanks, aRoadsByRank, aRow, aRanksBefore, aBusy, aOpen, aShut])) X hT hq hG 12 rfl ga_B_gWorths (Nat.le_of_ble_eq_true rfl) hi1 (by subst egWorths_2; rfl) dX1_set_11 (fun H locs hG => ?_)
  cases h
  rw [hQ]
  exact g_vret X hT hG hr hlk dX1_set_12
set_option maxHeartbeats 4000000 in
set_option maxRecDepth 100000 in
theorem c_X1_set_2 (hq : gJ layB q) {p1 : Int32} {p2 : Int32} {p3 : Int32} {o_gMiddles : (Nat → Int32)} (h : f1_set p1 p2 gMiddles p3 = some o_gMiddles) :
    GM l yX1_set cX1_set 4 none 0 0 D cI cZ layB q [.ref (q 2), .int p1, .int p2, .int p3] ([iReadings, iAlterations, iRankings, iLetters, iCurrent, iDue, iSize, iLsize], [], [gCosts, gWorths, gMiddles, gApart, gApartWithout, gNeeded, gUps, gDowns, gKeys, gNexts, gShutKeys, aCodes, aPbegins, aPends, aPlengths, aBegins, aEnds, aLengths, aRanks, aRoadsByRank, aRow, aRanksBefore, aBusy, aOpen, aShut]) none ([iReadings, iAlterations, iRankings, iLetters, iCurrent, iDue, iSize, iLsize], [], [gCosts, gWorths, o_gMiddles, gApart, gApartWithout, gNeeded, gUps, gDowns, gKeys, gNexts, gShutKeys, aCodes, aPbegins, aPends, aPlengths, aBegins, aEnds, aLengths, aRanks, aRoadsByRank, aRow, aRanksBefore, aBusy, aOpen, aShut]) := by
  refine GM.go RX1 (by decide) rfl (Nat.le_of_ble_eq_true rfl) ?_
  intro p e s m args below meth c ls R Q H locs X hr hlk hT hG hl hR hQ
  have hx := X.1
  have hb := X.2.1
  have hl : lv_has ls 4 [(0, .ref (q 2)), (1, .int p1), (2, .int p2), (3, .int p3)] := hl
  unfold f1_set at h
  refine lv_aload_n hx hb dX1_set_0 rfl (lv_at hl 0 rfl) ?_
  refine g_get (v := .ref (q 13)) X hT hG fl_X1_9 2 rfl rfl rfl dX1_set_1 ?_
  refine lv_iload_n hx hb dX1_set_4 rfl (lv_at hl 1 rfl) ?_
  refine lv_bipush (v := 12) hx hb dX1_set_5 (by decide) ?_
  refine lv_imul hx hb dX1_set_7 ?_
  refine lv_iload_n hx hb dX1_set_8 rfl (lv_at hl 2 rfl) ?_
  refine lv_iadd hx hb dX1_set_9 ?_
  refine lv_iload_n hx hb dX1_set_10 rfl (lv_at hl 3 rfl) ?_
  obtain ⟨hi1, h⟩ := ckin_some h
  obtain ⟨gMiddles_2, egMiddles_2⟩ : ∃ z : Nat → Int32, z = upd gMiddles ((p1 * 12) + p2).toNatClampNeg p3 := ⟨_, rfl⟩
  have h := bd_e egMiddles_2 h
  refine g_ast (w' := ([iReadings, iAlterations, iRankings, iLetters, iCurrent, iDue, iSize, iLsize], [], [gCosts, gWorths, gMiddles_2, gApart, gApartWithout, gNeeded, gUps, gDowns, gKeys, gNexts, gShutKeys, aCodes, aPbegins, aPends, aPlengths, aBegins, aEnds, aLengths, aRanks, aRoadsByRank, aRow, aRanksBefore, aBusy, aOpen, aShut])) X hT hq hG 13 rfl ga_B_gMiddles (Nat.le_of_ble_eq_true rfl) hi1 (by subst egMiddles_2; rfl) dX1_set_11 (fun H locs hG => ?_)
  cases h
  rw [hQ]
  exact g_vret X hT hG hr hlk dX1_set_12
def f2_startAnew_b2 (iSize : Int32) (x2_1 : Int32) (gCosts : (Nat → Int32)) (aLengths : (Nat → Int32)) (x3_12 : Int32) (gWorths_13 : (Nat → Int32)) (gMiddles_14 : (Nat → Int32)) : Option ((Int32 × (Nat → Int32) × (Nat → Int32)) ⊕ ((Nat → Int32) × (Nat → Int32))) :=
  if iSize ≤ x3_12 then (some (.inr (gWorths_13, gMiddles_14))) else bnd1 (f3_stepWorth x2_1 x3_12 gCosts aLengths) fun (r_19 : Int32) => bnd1 (f1_set x2_1 x3_12 gWorths_13 r_19) fun (gWorths_21 : (Nat → Int32)) => bnd1 (f1_set x2_1 x3_12 gMiddles_14 (-1)) fun (gMiddles_23 : (Nat → Int32)) => bd (x3_12 + 1) fun x3_25 => some (.inl (x3_25, gWorths_21, gMiddles_23))
def f2_startAnew_b1 (fu : Nat) (iSize : Int32) (gCosts : (Nat → Int32)) (aLengths : (Nat → Int32)) (x2_1 : Int32) (gWorths_2 : (Nat → Int32)) (gMiddles_3 : (Nat → Int32)) (aRanks_4 : (Nat → Int32)) : Option ((Int32 × (Nat → Int32) × (Nat → Int32) × (Nat → Int32)) ⊕ ((Nat → Int32) × (Nat → Int32) × (Nat → Int32))) :=
  if iSize ≤ x2_1 then (some (.inr (gWorths_2, gMiddles_3, aRanks_4))) else ckin x2_1 12 (bd (upd aRanks_4 x2_1.toNatClampNeg (-1)) fun aRanks_11 => bnd2 (lpG (fun z => f2_startAnew_b2 iSize x2_1 gCosts aLengths z.1 z.2.1 z.2.2) fu ((0 : Int32), gWorths_2, gMiddles_3)) fun (gWorths_15 : (Nat → Int32)) (gMiddles_16 : (Nat → Int32)) => bd (x2_1 + 1) fun x2_26 => some (.inl (x2_26, gWorths_15, gMiddles_16, aRanks_11)))
def f2_startAnew (fu : Nat) (iSize : Int32) (gCosts : (Nat → Int32)) (aLengths : (Nat → Int32)) (gWorths : (Nat → Int32)) (gMiddles : (Nat → Int32)) (aRanks : (Nat → Int32)) : Option (Int32 × (Nat → Int32) × (Nat → Int32) × (Nat → Int32)) :=
  bnd3 (lpG (fun z => f2_startAnew_b1 fu iSize gCosts aLengths z.1 z.2.1 z.2.2.1 z.2.2.2) fu ((0 : Int32), gWorths, gMiddles, aRanks)) fun (gWorths_5 : (Nat → Int32)) (gMiddles_6 : (Nat → Int32)) (aRanks_7 : (Nat → Int32)) => some (iSize, gWorths_5, gMiddles_6, aRanks_7)
set_option maxHeartbeats 4000000 in
set_option maxRecDepth 100000 in
theorem c_X2_startAnew_25_24 (hq : gJ layB q) {fu : Nat} {o_iLsize : Int32} {o_gWorths : (Nat → Int32)} {o_gMiddles : (Nat → Int32)} {o_aRanks : (Nat → Int32)} (h : f2_startAnew fu iSize gCosts aLengths gWorths gMiddles aRanks = some (o_iLsize, o_gWorths, o_gMiddles, o_aRanks)) :
    GM l yX2_startAnew cX2_startAnew 4 none 2 45 D cI cZ layB q [.ref (q 25), .ref (q 24)] ([iReadings, iAlterations, iRankings, iLetters, iCurrent, iDue, iSize, iLsize], [], [gCosts, gWorths, gMiddles, gApart, gApartWithout, gNeeded, gUps, gDowns, gKeys, gNexts, gShutKeys, aCodes, aPbegins, aPends, aPlengths, aBegins, aEnds, aLengths, aRanks, aRoadsByRank, aRow, aRanksBefore, aBusy, aOpen, aShut]) none ([iReadings, iAlterations, iRankings, iLetters, iCurrent, iDue, iSize, o_iLsize], [], [gCosts, o_gWorths, o_gMiddles, gApart, gApartWithout, gNeeded, gUps, gDowns, gKeys, gNexts, gShutKeys, aCodes, aPbegins, aPends, aPlengths, aBegins, aEnds, aLengths, o_aRanks, aRoadsByRank, aRow, aRanksBefore, aBusy, aOpen, aShut]) := by
  refine GM.go RX2 (by decide) rfl (Nat.le_of_ble_eq_true rfl) ?_
  intro p e s m args below meth c ls R Q H locs X hr hlk hT hG hl hR hQ
  have hx := X.1
  have hb := X.2.1
  have hl : lv_has ls 4 [(0, .ref (q 25)), (1, .ref (q 24))] := hl
  unfold f2_startAnew at h
  refine lv_aload_n hx hb dX2_startAnew_0 rfl (lv_at hl 0 rfl) ?_
  refine lv_aload_n hx hb dX2_startAnew_1 rfl (lv_at hl 1 rfl) ?_
  refine g_get (v := .int iSize) X hT hG fl_X2_69 24 rfl rfl rfl dX2_startAnew_2 ?_
  refine g_putI (w' := ([iReadings, iAlterations, iRankings, iLetters, iCurrent, iDue, iSize, iSize], [], [gCosts, gWorths, gMiddles, gApart, gApartWithout, gNeeded, gUps, gDowns, gKeys, gNexts, gShutKeys, aCodes, aPbegins, aPends, aPlengths, aBegins, aEnds, aLengths, aRanks, aRoadsByRank, aRow, aRanksBefore, aBusy, aOpen, aShut])) X hT hq hG fp_X2_47 25 rfl rfl gu_B_iLsize (Nat.le_of_ble_eq_true rfl) rfl dX2_startAnew_5 (fun H locs hG => ?_)
  refine lv_iconst (v := 0) hx hb dX2_startAnew_8 (by decide) ?_
  refine lv_istore_n (lv' := [(2, .int 0), (0, .ref (q 25)), (1, .ref (q 24))]) hx hb dX2_startAnew_9 rfl hl (by decide) rfl (fun ls hl => ?_)
  obtain ⟨gWorths_5, gMiddles_6, aRanks_7, eL8, h⟩ := bnd3_some h
  have JX8 : ∀ (H : Heap) (locs : List Loc) (ls : Array Slot), GH D cI cZ layB q s ([iReadings, iAlterations, iRankings, iLetters, iCurrent, iDue, iSize, iSize], [], [gCosts, gWorths_5, gMiddles_6, gApart, gApartWithout, gNeeded, gUps, gDowns, gKeys, gNexts, gShutKeys, aCodes, aPbegins, aPends, aPlengths, aBegins, aEnds, aLengths, aRanks_7, aRoadsByRank, aRow, aRanksBefore, aBusy, aOpen, aShut]) H locs → lv_has ls 4 [] → W p l e R s m args below meth c H locs 0 0 Q (F0 m 72 ls []) := by
    intro H locs ls hG hl
    cases h
    rw [hQ]
    exact g_vret X hT hG hr hlk dX2_startAnew_72
  refine lpG_W (Wh := fun z => ∀ (H : Heap) (locs : List Loc) (ls : Array Slot), GH D cI cZ layB q s ([iReadings, iAlterations, iRankings, iLetters, iCurrent, iDue, iSize, iSize], [], [gCosts, z.2.1, z.2.2.1, gApart, gApartWithout, gNeeded, gUps, gDowns, gKeys, gNexts, gShutKeys, aCodes, aPbegins, aPends, aPlengths, aBegins, aEnds, aLengths, z.2.2.2, aRoadsByRank, aRow, aRanksBefore, aBusy, aOpen, aShut]) H locs → lv_has ls 4 [(0, .ref (q 25)), (1, .ref (q 24)), (2, .int (z.1))] → W p l e R s m args below meth c H locs 0 0 Q (F0 m 10 ls [])) ?_ fu _ eL8 H locs ls hG (lv_sub hl [1, 2, 0] rfl)
  intro z rr8 hb8 hin8 hout8
  obtain ⟨x2_1, gWorths_2, gMiddles_3, aRanks_4⟩ := z
  intro H locs ls hG hl
  have hb8 : f2_startAnew_b1 fu iSize gCosts aLengths x2_1 gWorths_2 gMiddles_3 aRanks_4 = some rr8 := hb8
  have hG : GH D cI cZ layB q s ([iReadings, iAlterations, iRankings, iLetters, iCurrent, iDue, iSize, iSize], [], [gCosts, gWorths_2, gMiddles_3, gApart, gApartWithout, gNeeded, gUps, gDowns, gKeys, gNexts, gShutKeys, aCodes, aPbegins, aPends, aPlengths, aBegins, aEnds, aLengths, aRanks_4, aRoadsByRank, aRow, aRanksBefore, aBusy, aOpen, aShut]) H locs := hG
  have hl : lv_has ls 4 [(0, .ref (q 25)), (1, .ref (q 24)), (2, .int x2_1)] := hl
  unfold f2_startAnew_b1 at hb8
  refine lv_iload_n hx hb dX2_startAnew_10 rfl (lv_at hl 2 rfl) ?_
  refine lv_aload_n hx hb dX2_startAnew_11 rfl (lv_at hl 0 rfl) ?_
  refine g_get (v := .int iSize) X hT hG fl_X2_47 25 rfl rfl rfl dX2_startAnew_12 ?_
  refine lv_icmp_ge (tgt := 72) hx hb dX2_startAnew_15 (by decide) (fun cb9 => ?_) (fun cb9 => ?_)
  · have hb8 := ite_t cb9 hb8
    have eo := hout8 _ (Option.some.inj hb8).symm
    cases eo
    exact JX8 H locs ls hG (lv_sub hl [] rfl)
  · have hb8 := ite_f cb9 hb8
    refine lv_aload_n hx hb dX2_startAnew_18 rfl (lv_at hl 0 rfl) ?_
    refine g_get (v := .ref (q 36)) X hT hG fl_X2_21 25 rfl rfl rfl dX2_startAnew_19 ?_
    refine lv_iload_n hx hb dX2_startAnew_22 rfl (lv_at hl 2 rfl) ?_
    refine lv_iconst (v := (-1)) hx hb dX2_startAnew_23 (by decide) ?_
    obtain ⟨hi10, hb8⟩ := ckin_some hb8
    obtain ⟨aRanks_11, eaRanks_11⟩ : ∃ z : Nat → Int32, z = upd aRanks_4 x2_1.toNatClampNeg (-1) := ⟨_, rfl⟩
    have hb8 := bd_e eaRanks_11 hb8
    refine g_ast (w' := ([iReadings, iAlterations, iRankings, iLetters, iCurrent, iDue, iSize, iSize], [], [gCosts, gWorths_2, gMiddles_3, gApart, gApartWithout, gNeeded, gUps, gDowns, gKeys, gNexts, gShutKeys, aCodes, aPbegins, aPends, aPlengths, aBegins, aEnds, aLengths, aRanks_11, aRoadsByRank, aRow, aRanksBefore, aBusy, aOpen, aShut])) X hT hq hG 36 rfl ga_B_aRanks (Nat.le_of_ble_eq_true rfl) hi10 (by subst eaRanks_11; rfl) dX2_startAnew_24 (fun H locs hG => ?_)
    refine lv_iconst (v := 0) hx hb dX2_startAnew_25 (by decide) ?_
    refine lv_istore_n (lv' := [(3, .int 0), (0, .ref (q 25)), (1, .ref (q 24)), (2, .int x2_1)]) hx hb dX2_startAnew_26 rfl hl (by decide) rfl (fun ls hl => ?_)
    obtain ⟨gWorths_15, gMiddles_16, eL17, hb8⟩ := bnd2_some hb8
    have JX17 : ∀ (H : Heap) (locs : List Loc) (ls : Array Slot), GH D cI cZ layB q s ([iReadings, iAlterations, iRankings, iLetters, iCurrent, iDue, iSize, iSize], [], [gCosts, gWorths_15, gMiddles_16, gApart, gApartWithout, gNeeded, gUps, gDowns, gKeys, gNexts, gShutKeys, aCodes, aPbegins, aPends, aPlengths, aBegins, aEnds, aLengths, aRanks_11, aRoadsByRank, aRow, aRanksBefore, aBusy, aOpen, aShut]) H locs → lv_has ls 4 [(0, .ref (q 25)), (1, .ref (q 24)), (2, .int x2_1)] → W p l e R s m args below meth c H locs 0 0 Q (F0 m 66 ls []) := by
      intro H locs ls hG hl
      obtain ⟨x2_26, ex2_26⟩ : ∃ z : Int32, z = x2_1 + 1 := ⟨_, rfl⟩
      have hb8 := bd_e ex2_26 hb8
      refine lv_iinc (v := x2_26) (lv' := [(2, .int x2_26), (0, .ref (q 25)), (1, .ref (q 24))]) hx hb dX2_startAnew_66 hl (k := 2) rfl (by rw [ex2_26]; rfl) (by decide) rfl (fun ls hl => ?_)
      refine lv_goto (tgt := 10) hx hb dX2_startAnew_69 (by decide) ?_
      exact hin8 _ (Option.some.inj hb8).symm H locs ls hG (lv_sub hl [1, 2, 0] rfl)
    refine lpG_W (Wh := fun z => ∀ (H : Heap) (locs : List Loc) (ls : Array Slot), GH D cI cZ layB q s ([iReadings, iAlterations, iRankings, iLetters, iCurrent, iDue, iSize, iSize], [], [gCosts, z.2.1, z.2.2, gApart, gApartWithout, gNeeded, gUps, gDowns, gKeys, gNexts, gShutKeys, aCodes, aPbegins, aPends, aPlengths, aBegins, aEnds, aLengths, aRanks_11, aRoadsByRank, aRow, aRanksBefore, aBusy, aOpen, aShut]) H locs → lv_has ls 4 [(0, .ref (q 25)), (1, .ref (q 24)), (2, .int x2_1), (3, .int (z.1))] → W p l e R s m args below meth c H locs 0 0 Q (F0 m 27 ls [])) ?_ fu _ eL17 H locs ls hG (lv_sub hl [1, 2, 3, 0] rfl)
    intro z rr17 hb17 hin17 hout17
    obtain ⟨x3_12, gWorths_13, gMiddles_14⟩ := z
    intro H locs ls hG hl
    have hb17 : f2_startAnew_b2 iSize x2_1 gCosts aLengths x3_12 gWorths_13 gMiddles_14 = some rr17 := hb17
    have hG : GH D cI cZ layB q s ([iReadings, iAlterations, iRankings, iLetters, iCurrent, iDue, iSize, iSize], [], [gCosts, gWorths_13, gMiddles_14, gApart, gApartWithout, gNeeded, gUps, gDowns, gKeys, gNexts, gShutKeys, aCodes, aPbegins, aPends, aPlengths, aBegins, aEnds, aLengths, aRanks_11, aRoadsByRank, aRow, aRanksBefore, aBusy, aOpen, aShut]) H locs := hG
    have hl : lv_has ls 4 [(0, .ref (q 25)), (1, .ref (q 24)), (2, .int x2_1), (3, .int x3_12)] := hl
    unfold f2_startAnew_b2 at hb17
    refine lv_iload_n hx hb dX2_startAnew_27 rfl (lv_at hl 3 rfl) ?_
    refine lv_aload_n hx hb dX2_startAnew_28 rfl (lv_at hl 0 rfl) ?_
    refine g_get (v := .int iSize) X hT hG fl_X2_47 25 rfl rfl rfl dX2_startAnew_29 ?_
    refine lv_icmp_ge (tgt := 66) hx hb dX2_startAnew_32 (by decide) (fun cb18 => ?_) (fun cb18 => ?_)
    · have hb17 := ite_t cb18 hb17
      have eo := hout17 _ (Option.some.inj hb17).symm
      cases eo
      exact JX17 H locs ls hG (lv_sub hl [0, 1, 2] rfl)
    · have hb17 := ite_f cb18 hb17
      refine lv_aload_n hx hb dX2_startAnew_35 rfl (lv_at hl 0 rfl) ?_
      refine g_get (v := .ref (q 1)) X hT hG fl_X2_12 25 rfl rfl rfl dX2_startAnew_36 ?_
      refine lv_iload_n hx hb dX2_startAnew_39 rfl (lv_at hl 2 rfl) ?_
      refine lv_iload_n hx hb dX2_startAnew_40 rfl (lv_at hl 3 rfl) ?_
      refine lv_aload_n hx hb dX2_startAnew_41 rfl (lv_at hl 1 rfl) ?_
      refine lv_iload_n hx hb dX2_startAnew_42 rfl (lv_at hl 2 rfl) ?_
      refine lv_iload_n hx hb dX2_startAnew_43 rfl (lv_at hl 3 rfl) ?_
      obtain ⟨r_19, ec20, hb17⟩ := bnd1_some hb17
      refine g_callVr [.int x2_1, .int x3_12] [.int x3_12, .int x2_1, .ref (q 1)] 24 X hT hG ml_X2_72 (c_X3_stepWorth hq ec20) rfl rfl rfl rfl rfl hl.1 (Nat.le_of_ble_eq_true rfl) (by rw [hR]; exact ⟨Nat.le_of_ble_eq_true rfl, Nat.le_of_ble_eq_true rfl⟩) dX2_startAnew_44 (fun H locs hG => ?_)
      obtain ⟨gWorths_21, ec22, hb17⟩ := bnd1_some hb17
      refine g_callVv [.int x2_1, .int x3_12, .int r_19] [] 1 X hT hG ml_X2_76 (c_X1_set_1 hq ec22) rfl rfl rfl rfl rfl hl.1 (Nat.le_of_ble_eq_true rfl) (by rw [hR]; exact ⟨Nat.le_of_ble_eq_true rfl, Nat.le_of_ble_eq_true rfl⟩) dX2_startAnew_47 (fun H locs hG => ?_)
      have hG : GH D cI cZ layB q s ([iReadings, iAlterations, iRankings, iLetters, iCurrent, iDue, iSize, iSize], [], [gCosts, gWorths_21, gMiddles_14, gApart, gApartWithout, gNeeded, gUps, gDowns, gKeys, gNexts, gShutKeys, aCodes, aPbegins, aPends, aPlengths, aBegins, aEnds, aLengths, aRanks_11, aRoadsByRank, aRow, aRanksBefore, aBusy, aOpen, aShut]) H locs := hG
      refine lv_aload_n hx hb dX2_startAnew_50 rfl (lv_at hl 0 rfl) ?_
      refine g_get (v := .ref (q 2)) X hT hG fl_X2_18 25 rfl rfl rfl dX2_startAnew_51 ?_
      refine lv_iload_n hx hb dX2_startAnew_54 rfl (lv_at hl 2 rfl) ?_
      refine lv_iload_n hx hb dX2_startAnew_55 rfl (lv_at hl 3 rfl) ?_
      refine lv_iconst (v := (-1)) hx hb dX2_startAnew_56 (by decide) ?_
      obtain ⟨gMiddles_23, ec24, hb17⟩ := bnd1_some hb17
      refine g_callVv [.int x2_1, .int x3_12, .int (-1)] [] 2 X hT hG ml_X2_76 (c_X1_set_2 hq ec24) rfl rfl rfl rfl rfl hl.1 (Nat.le_of_ble_eq_true rfl) (by rw [hR]; exact ⟨Nat.le_of_ble_eq_true rfl, Nat.le_of_ble_eq_true rfl⟩) dX2_startAnew_57 (fun H locs hG => ?_)
      have hG : GH D cI cZ layB q s ([iReadings, iAlterations, iRankings, iLetters, iCurrent, iDue, iSize, iSize], [], [gCosts, gWorths_21, gMiddles_23, gApart, gApartWithout, gNeeded, gUps, gDowns, gKeys, gNexts, gShutKeys, aCodes, aPbegins, aPends, aPlengths, aBegins, aEnds, aLengths, aRanks_11, aRoadsByRank, aRow, aRanksBefore, aBusy, aOpen, aShut]) H locs := hG
      obtain ⟨x3_25, ex3_25⟩ : ∃ z : Int32, z = x3_12 + 1 := ⟨_, rfl⟩
      have hb17 := bd_e ex3_25 hb17
      refine lv_iinc (v := x3_25) (lv' := [(3, .int x3_25), (0, .ref (q 25)), (1, .ref (q 24)), (2, .int x2_1)]) hx hb dX2_startAnew_60 hl (k := 3) rfl (by rw [ex3_25]; rfl) (by decide) rfl (fun ls hl => ?_)
      refine lv_goto (tgt := 27) hx hb dX2_startAnew_63 (by decide) ?_
      exact hin17 _ (Option.some.inj hb17).symm H locs ls hG (lv_sub hl [1, 2, 3, 0] rfl)
def f2_isFree (p1 : Int32) (aRanks : (Nat → Int32)) : Option (Int32) :=
  ckin p1 12 (bnd1 (if (aRanks p1.toNatClampNeg) = (-1) then (some 1) else some 0) fun (y_2 : Int32) => ckb y_2 (some y_2))
set_option maxHeartbeats 4000000 in
set_option maxRecDepth 100000 in
theorem c_X2_isFree (hq : gJ layB q) {p1 : Int32} {o_r : Int32} (h : f2_isFree p1 aRanks = some o_r) :
    GM l yX2_isFree cX2_isFree 2 (some .boolean) 0 0 D cI cZ layB q [.ref (q 25), .int p1] ([iReadings, iAlterations, iRankings, iLetters, iCurrent, iDue, iSize, iLsize], [], [gCosts, gWorths, gMiddles, gApart, gApartWithout, gNeeded, gUps, gDowns, gKeys, gNexts, gShutKeys, aCodes, aPbegins, aPends, aPlengths, aBegins, aEnds, aLengths, aRanks, aRoadsByRank, aRow, aRanksBefore, aBusy, aOpen, aShut]) (some (.int o_r)) ([iReadings, iAlterations, iRankings, iLetters, iCurrent, iDue, iSize, iLsize], [], [gCosts, gWorths, gMiddles, gApart, gApartWithout, gNeeded, gUps, gDowns, gKeys, gNexts, gShutKeys, aCodes, aPbegins, aPends, aPlengths, aBegins, aEnds, aLengths, aRanks, aRoadsByRank, aRow, aRanksBefore, aBusy, aOpen, aShut]) := by
  refine GM.go RX2 (by decide) rfl (Nat.le_of_ble_eq_true rfl) ?_
  intro p e s m args below meth c ls R Q H locs X hr hlk hT hG hl hR hQ
  have hx := X.1
  have hb := X.2.1
  have hl : lv_has ls 2 [(0, .ref (q 25)), (1, .int p1)] := hl
  unfold f2_isFree at h
  refine lv_aload_n hx hb dX2_isFree_0 rfl (lv_at hl 0 rfl) ?_
  refine g_get (v := .ref (q 36)) X hT hG fl_X2_21 25 rfl rfl rfl dX2_isFree_1 ?_
  refine lv_iload_n hx hb dX2_isFree_4 rfl (lv_at hl 1 rfl) ?_
  obtain ⟨hi1, h⟩ := ckin_some h
  refine g_ald (f := aRanks) X hT hG 36 rfl rfl hi1 dX2_isFree_5 ?_
  refine lv_iconst (v := (-1)) hx hb dX2_isFree_6 (by decide) ?_
  obtain ⟨y_2, er3, h⟩ := bnd1_some h
  have J3 : ∀ (H : Heap) (locs : List Loc) (ls : Array Slot), GH D cI cZ layB q s ([iReadings, iAlterations, iRankings, iLetters, iCurrent, iDue, iSize, iLsize], [], [gCosts, gWorths, gMiddles, gApart, gApartWithout, gNeeded, gUps, gDowns, gKeys, gNexts, gShutKeys, aCodes, aPbegins, aPends, aPlengths, aBegins, aEnds, aLengths, aRanks, aRoadsByRank, aRow, aRanksBefore, aBusy, aOpen, aShut]) H locs → lv_has ls 2 [] → W p l e R s m args below meth c H locs 0 0 Q (F0 m 15 ls [.int y_2]) := by
    intro H locs ls hG hl
    obtain ⟨hz, h⟩ := ckb_some h
    cases h
    rw [hQ]
    exact g_zret X hT hG hr hlk hz dX2_isFree_15
  refine lv_icmp_ne (tgt := 14) hx hb dX2_isFree_7 (by decide) (fun cb4 => ?_) (fun cb4 => ?_)
  · have er3 := ite_f cb4 er3
    refine lv_iconst (v := 0) hx hb dX2_isFree_14 (by decide) ?_
    cases er3
    exact J3 H locs ls hG (lv_sub hl [] rfl)
  · have er3 := ite_t cb4 er3
    refine lv_iconst (v := 1) hx hb dX2_isFree_10 (by decide) ?_
    refine lv_goto (tgt := 15) hx hb dX2_isFree_11 (by decide) ?_
    cases er3
    exact J3 H locs ls hG (lv_sub hl [] rfl)
set_option maxHeartbeats 4000000 in
set_option maxRecDepth 100000 in
theorem c_X1_get_1 (hq : gJ layB q) {p1 : Int32} {p2 : Int32} {o_r : Int32} (h : f1_get p1 p2 gWorths = some o_r) :
    GM l yX1_get cX1_get 3 (some .int) 0 0 D cI cZ layB q [.ref (q 1), .int p1, .int p2] ([iReadings, iAlterations, iRankings, iLetters, iCurrent, iDue, iSize, iLsize], [], [gCosts, gWorths, gMiddles, gApart, gApartWithout, gNeeded, gUps, gDowns, gKeys, gNexts, gShutKeys, aCodes, aPbegins, aPends, aPlengths, aBegins, aEnds, aLengths, aRanks, aRoadsByRank, aRow, aRanksBefore, aBusy, aOpen, aShut]) (some (.int o_r)) ([iReadings, iAlterations, iRankings, iLetters, iCurrent, iDue, iSize, iLsize], [], [gCosts, gWorths, gMiddles, gApart, gApartWithout, gNeeded, gUps, gDowns, gKeys, gNexts, gShutKeys, aCodes, aPbegins, aPends, aPlengths, aBegins, aEnds, aLengths, aRanks, aRoadsByRank, aRow, aRanksBefore, aBusy, aOpen, aShut]) := by
  refine GM.go RX1 (by decide) rfl (Nat.le_of_ble_eq_true rfl) ?_
  intro p e s m args below meth c ls R Q H locs X hr hlk hT hG hl hR hQ
  have hx := X.1
  have hb := X.2.1
  have hl : lv_has ls 3 [(0, .ref (q 1)), (1, .int p1), (2, .int p2)] := hl
  unfold f1_get at h
  refine lv_aload_n hx hb dX1_get_0 rfl (lv_at hl 0 rfl) ?_
  refine g_get (v := .ref (q 12)) X hT hG fl_X1_9 1 rfl rfl rfl dX1_get_1 ?_
  refine lv_iload_n hx hb dX1_get_4 rfl (lv_at hl 1 rfl) ?_
  refine lv_bipush (v := 12) hx hb dX1_get_5 (by decide) ?_
  refine lv_imul hx hb dX1_get_7 ?_
  refine lv_iload_n hx hb dX1_get_8 rfl (lv_at hl 2 rfl) ?_
  refine lv_iadd hx hb dX1_get_9 ?_
  obtain ⟨hi1, h⟩ := ckin_some h
  refine g_ald (f := gWorths) X hT hG 12 rfl rfl hi1 dX1_get_10 ?_
  cases h
  rw [hQ]
  exact g_iret X hT hG hr hlk dX1_get_11
set_option maxHeartbeats 4000000 in
set_option maxRecDepth 100000 in
theorem c_X1_set_3 (hq : gJ layB q) {p1 : Int32} {p2 : Int32} {p3 : Int32} {o_gApart : (Nat → Int32)} (h : f1_set p1 p2 gApart p3 = some o_gApart) :
    GM l yX1_set cX1_set 4 none 0 0 D cI cZ layB q [.ref (q 3), .int p1, .int p2, .int p3] ([iReadings, iAlterations, iRankings, iLetters, iCurrent, iDue, iSize, iLsize], [], [gCosts, gWorths, gMiddles, gApart, gApartWithout, gNeeded, gUps, gDowns, gKeys, gNexts, gShutKeys, aCodes, aPbegins, aPends, aPlengths, aBegins, aEnds, aLengths, aRanks, aRoadsByRank, aRow, aRanksBefore, aBusy, aOpen, aShut]) none ([iReadings, iAlterations, iRankings, iLetters, iCurrent, iDue, iSize, iLsize], [], [gCosts, gWorths, gMiddles, o_gApart, gApartWithout, gNeeded, gUps, gDowns, gKeys, gNexts, gShutKeys, aCodes, aPbegins, aPends, aPlengths, aBegins, aEnds, aLengths, aRanks, aRoadsByRank, aRow, aRanksBefore, aBusy, aOpen, aShut]) := by
  refine GM.go RX1 (by decide) rfl (Nat.le_of_ble_eq_true rfl) ?_
  intro p e s m args below meth c ls R Q H locs X hr hlk hT hG hl hR hQ
  have hx := X.1
  have hb := X.2.1
  have hl : lv_has ls 4 [(0, .ref (q 3)), (1, .int p1), (2, .int p2), (3, .int p3)] := hl
  unfold f1_set at h
  refine lv_aload_n hx hb dX1_set_0 rfl (lv_at hl 0 rfl) ?_
  refine g_get (v := .ref (q 14)) X hT hG fl_X1_9 3 rfl rfl rfl dX1_set_1 ?_
  refine lv_iload_n hx hb dX1_set_4 rfl (lv_at hl 1 rfl) ?_
  refine lv_bipush (v := 12) hx hb dX1_set_5 (by decide) ?_
  refine lv_imul hx hb dX1_set_7 ?_
  refine lv_iload_n hx hb dX1_set_8 rfl (lv_at hl 2 rfl) ?_
  refine lv_iadd hx hb dX1_set_9 ?_
  refine lv_iload_n hx hb dX1_set_10 rfl (lv_at hl 3 rfl) ?_
  obtain ⟨hi1, h⟩ := ckin_some h
  obtain ⟨gApart_2, egApart_2⟩ : ∃ z : Nat → Int32, z = upd gApart ((p1 * 12) + p2).toNatClampNeg p3 := ⟨_, rfl⟩
  have h := bd_e egApart_2 h
  refine g_ast (w' := ([iReadings, iAlterations, iRankings, iLetters, iCurrent, iDue, iSize, iLsize], [], [gCosts, gWorths, gMiddles, gApart_2, gApartWithout, gNeeded, gUps, gDowns, gKeys, gNexts, gShutKeys, aCodes, aPbegins, aPends, aPlengths, aBegins, aEnds, aLengths, aRanks, aRoadsByRank, aRow, aRanksBefore, aBusy, aOpen, aShut])) X hT hq hG 14 rfl ga_B_gApart (Nat.le_of_ble_eq_true rfl) hi1 (by subst egApart_2; rfl) dX1_set_11 (fun H locs hG => ?_)
  cases h
  rw [hQ]
  exact g_vret X hT hG hr hlk dX1_set_12
set_option maxHeartbeats 4000000 in
set_option maxRecDepth 100000 in
theorem c_X1_get_3 (hq : gJ layB q) {p1 : Int32} {p2 : Int32} {o_r : Int32} (h : f1_get p1 p2 gApart = some o_r) :
    GM l yX1_get cX1_get 3 (some .int) 0 0 D cI cZ layB q [.ref (q 3), .int p1, .int p2] ([iReadings, iAlterations, iRankings, iLetters, iCurrent, iDue, iSize, iLsize], [], [gCosts, gWorths, gMiddles, gApart, gApartWithout, gNeeded, gUps, gDowns, gKeys, gNexts, gShutKeys, aCodes, aPbegins, aPends, aPlengths, aBegins, aEnds, aLengths, aRanks, aRoadsByRank, aRow, aRanksBefore, aBusy, aOpen, aShut]) (some (.int o_r)) ([iReadings, iAlterations, iRankings, iLetters, iCurrent, iDue, iSize, iLsize], [], [gCosts, gWorths, gMiddles, gApart, gApartWithout, gNeeded, gUps, gDowns, gKeys, gNexts, gShutKeys, aCodes, aPbegins, aPends, aPlengths, aBegins, aEnds, aLengths, aRanks, aRoadsByRank, aRow, aRanksBefore, aBusy, aOpen, aShut]) := by
  refine GM.go RX1 (by decide) rfl (Nat.le_of_ble_eq_true rfl) ?_
  intro p e s m args below meth c ls R Q H locs X hr hlk hT hG hl hR hQ
  have hx := X.1
  have hb := X.2.1
  have hl : lv_has ls 3 [(0, .ref (q 3)), (1, .int p1), (2, .int p2)] := hl
  unfold f1_get at h
  refine lv_aload_n hx hb dX1_get_0 rfl (lv_at hl 0 rfl) ?_
  refine g_get (v := .ref (q 14)) X hT hG fl_X1_9 3 rfl rfl rfl dX1_get_1 ?_
  refine lv_iload_n hx hb dX1_get_4 rfl (lv_at hl 1 rfl) ?_
  refine lv_bipush (v := 12) hx hb dX1_get_5 (by decide) ?_
  refine lv_imul hx hb dX1_get_7 ?_
  refine lv_iload_n hx hb dX1_get_8 rfl (lv_at hl 2 rfl) ?_
  refine lv_iadd hx hb dX1_get_9 ?_
  obtain ⟨hi1, h⟩ := ckin_some h
  refine g_ald (f := gApart) X hT hG 14 rfl rfl hi1 dX1_get_10 ?_
  cases h
  rw [hQ]
  exact g_iret X hT hG hr hlk dX1_get_11
def f1_shortenRow_b1 (p4 : Int32) (x6_2 : Int32) (p3 : Int32) (x5_1 : Int32) (x7_3 : Int32) (gApart_4 : (Nat → Int32)) : Option ((Int32 × (Nat → Int32)) ⊕ ((Nat → Int32))) :=
  if p4 ≤ x7_3 then (some (.inr gApart_4)) else ckin (x6_2 + x7_3) 144 (bd ((p3 + (gApart_4 (x6_2 + x7_3).toNatClampNeg))) fun x8_9 => ckin (x5_1 + x7_3) 144 (bnd1 (if (gApart_4 (x5_1 + x7_3).toNatClampNeg) ≤ x8_9 then (some gApart_4) else ckin (x5_1 + x7_3) 144 (bd (upd gApart_4 (x5_1 + x7_3).toNatClampNeg x8_9) fun gApart_15 => some gApart_15)) fun (gApart_11 : (Nat → Int32)) => bd (x7_3 + 1) fun x7_16 => some (.inl (x7_16, gApart_11))))
def f1_shortenRow (fu : Nat) (p1 : Int32) (p2 : Int32) (p4 : Int32) (p3 : Int32) (gApart : (Nat → Int32)) : Option ((Nat → Int32)) :=
  bd ((p1 * 12)) fun x5_1 => bd ((p2 * 12)) fun x6_2 => bnd1 (lpG (fun z => f1_shortenRow_b1 p4 x6_2 p3 x5_1 z.1 z.2) fu ((0 : Int32), gApart)) fun (gApart_5 : (Nat → Int32)) => some gApart_5
set_option maxHeartbeats 4000000 in
set_option maxRecDepth 100000 in
theorem c_X1_shortenRow_3 (hq : gJ layB q) {fu : Nat} {p1 : Int32} {p2 : Int32} {p3 : Int32} {p4 : Int32} {o_gApart : (Nat → Int32)} (h : f1_shortenRow fu p1 p2 p4 p3 gApart = some o_gApart) :
    GM l yX1_shortenRow cX1_shortenRow 9 none 0 0 D cI cZ layB q [.ref (q 3), .int p1, .int p2, .int p3, .int p4] ([iReadings, iAlterations, iRankings, iLetters, iCurrent, iDue, iSize, iLsize], [], [gCosts, gWorths, gMiddles, gApart, gApartWithout, gNeeded, gUps, gDowns, gKeys, gNexts, gShutKeys, aCodes, aPbegins, aPends, aPlengths, aBegins, aEnds, aLengths, aRanks, aRoadsByRank, aRow, aRanksBefore, aBusy, aOpen, aShut]) none ([iReadings, iAlterations, iRankings, iLetters, iCurrent, iDue, iSize, iLsize], [], [gCosts, gWorths, gMiddles, o_gApart, gApartWithout, gNeeded, gUps, gDowns, gKeys, gNexts, gShutKeys, aCodes, aPbegins, aPends, aPlengths, aBegins, aEnds, aLengths, aRanks, aRoadsByRank, aRow, aRanksBefore, aBusy, aOpen, aShut]) := by
  refine GM.go RX1 (by decide) rfl (Nat.le_of_ble_eq_true rfl) ?_
  intro p e s m args below meth c ls R Q H locs X hr hlk hT hG hl hR hQ
  have hx := X.1
  have hb := X.2.1
  have hl : lv_has ls 9 [(0, .ref (q 3)), (1, .int p1), (2, .int p2), (3, .int p3), (4, .int p4)] := hl
  unfold f1_shortenRow at h
  refine lv_iload_n hx hb dX1_shortenRow_0 rfl (lv_at hl 1 rfl) ?_
  refine lv_bipush (v := 12) hx hb dX1_shortenRow_1 (by decide) ?_
  refine lv_imul hx hb dX1_shortenRow_3 ?_
  refine lv_topi (fun x5_1 ex5_1 => ?_)
  have h := bd_e ex5_1 h
  refine lv_istore (lv' := [(5, .int x5_1), (0, .ref (q 3)), (1, .int p1), (2, .int p2), (3, .int p3), (4, .int p4)]) hx hb dX1_shortenRow_4 hl (by decide) rfl (fun ls hl => ?_)
  refine lv_iload_n hx hb dX1_shortenRow_6 rfl (lv_at hl 3 rfl) ?_
  refine lv_bipush (v := 12) hx hb dX1_shortenRow_7 (by decide) ?_
  refine lv_imul hx hb dX1_shortenRow_9 ?_
  refine lv_topi (fun x6_2 ex6_2 => ?_)
  have h := bd_e ex6_2 h
  refine lv_istore (lv' := [(6, .int x6_2), (5, .int x5_1), (0, .ref (q 3)), (1, .int p1), (2, .int p2), (3, .int p3), (4, .int p4)]) hx hb dX1_shortenRow_10 hl (by decide) rfl (fun ls hl => ?_)
  refine lv_iconst (v := 0) hx hb dX1_shortenRow_12 (by decide) ?_
  refine lv_istore (lv' := [(7, .int 0), (6, .int x6_2), (5, .int x5_1), (0, .ref (q 3)), (1, .int p1), (2, .int p2), (3, .int p3), (4, .int p4)]) hx hb dX1_shortenRow_13 hl (by decide) rfl (fun ls hl => ?_)
  obtain ⟨gApart_5, eL6, h⟩ := bnd1_some h
  have JX6 : ∀ (H : Heap) (locs : List Loc) (ls : Array Slot), GH D cI cZ layB q s ([iReadings, iAlterations, iRankings, iLetters, iCurrent, iDue, iSize, iLsize], [], [gCosts, gWorths, gMiddles, gApart_5, gApartWithout, gNeeded, gUps, gDowns, gKeys, gNexts, gShutKeys, aCodes, aPbegins, aPends, aPlengths, aBegins, aEnds, aLengths, aRanks, aRoadsByRank, aRow, aRanksBefore, aBusy, aOpen, aShut]) H locs → lv_has ls 9 [] → W p l e R s m args below meth c H locs 0 0 Q (F0 m 69 ls []) := by
    intro H locs ls hG hl
    cases h
    rw [hQ]
    exact g_vret X hT hG hr hlk dX1_shortenRow_69
  refine lpG_W (Wh := fun z => ∀ (H : Heap) (locs : List Loc) (ls : Array Slot), GH D cI cZ layB q s ([iReadings, iAlterations, iRankings, iLetters, iCurrent, iDue, iSize, iLsize], [], [gCosts, gWorths, gMiddles, z.2, gApartWithout, gNeeded, gUps, gDowns, gKeys, gNexts, gShutKeys, aCodes, aPbegins, aPends, aPlengths, aBegins, aEnds, aLengths, aRanks, aRoadsByRank, aRow, aRanksBefore, aBusy, aOpen, aShut]) H locs → lv_has ls 9 [(0, .ref (q 3)), (3, .int p3), (4, .int p4), (5, .int x5_1), (6, .int x6_2), (7, .int (z.1))] → W p l e R s m args below meth c H locs 0 0 Q (F0 m 15 ls [])) ?_ fu _ eL6 H locs ls hG (lv_sub hl [3, 6, 7, 2, 1, 0] rfl)
  intro z rr6 hb6 hin6 hout6
  obtain ⟨x7_3, gApart_4⟩ := z
  intro H locs ls hG hl
  have hb6 : f1_shortenRow_b1 p4 x6_2 p3 x5_1 x7_3 gApart_4 = some rr6 := hb6
  have hG : GH D cI cZ layB q s ([iReadings, iAlterations, iRankings, iLetters, iCurrent, iDue, iSize, iLsize], [], [gCosts, gWorths, gMiddles, gApart_4, gApartWithout, gNeeded, gUps, gDowns, gKeys, gNexts, gShutKeys, aCodes, aPbegins, aPends, aPlengths, aBegins, aEnds, aLengths, aRanks, aRoadsByRank, aRow, aRanksBefore, aBusy, aOpen, aShut]) H locs := hG
  have hl : lv_has ls 9 [(0, .ref (q 3)), (3, .int p3), (4, .int p4), (5, .int x5_1), (6, .int x6_2), (7, .int x7_3)] := hl
  unfold f1_shortenRow_b1 at hb6
  refine lv_iload hx hb dX1_shortenRow_15 (lv_at hl 5 rfl) ?_
  refine lv_iload hx hb dX1_shortenRow_17 (lv_at hl 2 rfl) ?_
  refine lv_icmp_ge (tgt := 69) hx hb dX1_shortenRow_19 (by decide) (fun cb7 => ?_) (fun cb7 => ?_)
  · have hb6 := ite_t cb7 hb6
    have eo := hout6 _ (Option.some.inj hb6).symm
    cases eo
    exact JX6 H locs ls hG (lv_sub hl [] rfl)
  · have hb6 := ite_f cb7 hb6
    refine lv_iload_n hx hb dX1_shortenRow_22 rfl (lv_at hl 1 rfl) ?_
    refine lv_aload_n hx hb dX1_shortenRow_23 rfl (lv_at hl 0 rfl) ?_
    refine g_get (v := .ref (q 14)) X hT hG fl_X1_9 3 rfl rfl rfl dX1_shortenRow_24 ?_
    refine lv_iload hx hb dX1_shortenRow_27 (lv_at hl 4 rfl) ?_
    refine lv_iload hx hb dX1_shortenRow_29 (lv_at hl 5 rfl) ?_
    refine lv_iadd hx hb dX1_shortenRow_31 ?_
    obtain ⟨hi8, hb6⟩ := ckin_some hb6
    refine g_ald (f := gApart_4) X hT hG 14 rfl rfl hi8 dX1_shortenRow_32 ?_
    refine lv_iadd hx hb dX1_shortenRow_33 ?_
    refine lv_topi (fun x8_9 ex8_9 => ?_)
    have hb6 := bd_e ex8_9 hb6
    refine lv_istore (lv' := [(8, .int x8_9), (0, .ref (q 3)), (3, .int p3), (4, .int p4), (5, .int x5_1), (6, .int x6_2), (7, .int x7_3)]) hx hb dX1_shortenRow_34 hl (by decide) rfl (fun ls hl => ?_)
    refine lv_iload hx hb dX1_shortenRow_36 (lv_at hl 0 rfl) ?_
    refine lv_aload_n hx hb dX1_shortenRow_38 rfl (lv_at hl 1 rfl) ?_
    refine g_get (v := .ref (q 14)) X hT hG fl_X1_9 3 rfl rfl rfl dX1_shortenRow_39 ?_
    refine lv_iload hx hb dX1_shortenRow_42 (lv_at hl 4 rfl) ?_
    refine lv_iload hx hb dX1_shortenRow_44 (lv_at hl 6 rfl) ?_
    refine lv_iadd hx hb dX1_shortenRow_46 ?_
    obtain ⟨hi10, hb6⟩ := ckin_some hb6
    refine g_ald (f := gApart_4) X hT hG 14 rfl rfl hi10 dX1_shortenRow_47 ?_
    obtain ⟨gApart_11, er12, hb6⟩ := bnd1_some hb6
    have J12 : ∀ (H : Heap) (locs : List Loc) (ls : Array Slot), GH D cI cZ layB q s ([iReadings, iAlterations, iRankings, iLetters, iCurrent, iDue, iSize, iLsize], [], [gCosts, gWorths, gMiddles, gApart_11, gApartWithout, gNeeded, gUps, gDowns, gKeys, gNexts, gShutKeys, aCodes, aPbegins, aPends, aPlengths, aBegins, aEnds, aLengths, aRanks, aRoadsByRank, aRow, aRanksBefore, aBusy, aOpen, aShut]) H locs → lv_has ls 9 [(0, .ref (q 3)), (3, .int p3), (4, .int p4), (5, .int x5_1), (6, .int x6_2), (7, .int x7_3)] → W p l e R s m args below meth c H locs 0 0 Q (F0 m 63 ls []) := by
      intro H locs ls hG hl
      obtain ⟨x7_16, ex7_16⟩ : ∃ z : Int32, z = x7_3 + 1 := ⟨_, rfl⟩
      have hb6 := bd_e ex7_16 hb6
      refine lv_iinc (v := x7_16) (lv' := [(7, .int x7_16), (0, .ref (q 3)), (3, .int p3), (4, .int p4), (5, .int x5_1), (6, .int x6_2)]) hx hb dX1_shortenRow_63 hl (k := 5) rfl (by rw [ex7_16]; rfl) (by decide) rfl (fun ls hl => ?_)
      refine lv_goto (tgt := 15) hx hb dX1_shortenRow_66 (by decide) ?_
      exact hin6 _ (Option.some.inj hb6).symm H locs ls hG (lv_sub hl [1, 2, 3, 4, 5, 0] rfl)
    refine lv_icmp_ge (tgt := 63) hx hb dX1_shortenRow_48 (by decide) (fun cb13 => ?_) (fun cb13 => ?_)
    · have er12 := ite_t cb13 er12
      cases er12
      exact J12 H locs ls hG (lv_sub hl [1, 2, 3, 4, 5, 6] rfl)
    · have er12 := ite_f cb13 er12
      refine lv_aload_n hx hb dX1_shortenRow_51 rfl (lv_at hl 1 rfl) ?_
      refine g_get (v := .ref (q 14)) X hT hG fl_X1_9 3 rfl rfl rfl dX1_shortenRow_52 ?_
      refine lv_iload hx hb dX1_shortenRow_55 (lv_at hl 4 rfl) ?_
      refine lv_iload hx hb dX1_shortenRow_57 (lv_at hl 6 rfl) ?_
      refine lv_iadd hx hb dX1_shortenRow_59 ?_
      refine lv_iload hx hb dX1_shortenRow_60 (lv_at hl 0 rfl) ?_
      obtain ⟨hi14, er12⟩ := ckin_some er12
      obtain ⟨gApart_15, egApart_15⟩ : ∃ z : Nat → Int32, z = upd gApart_4 (x5_1 + x7_3).toNatClampNeg x8_9 := ⟨_, rfl⟩
      have er12 := bd_e egApart_15 er12
      refine g_ast (w' := ([iReadings, iAlterations, iRankings, iLetters, iCurrent, iDue, iSize, iLsize], [], [gCosts, gWorths, gMiddles, gApart_15, gApartWithout, gNeeded, gUps, gDowns, gKeys, gNexts, gShutKeys, aCodes, aPbegins, aPends, aPlengths, aBegins, aEnds, aLengths, aRanks, aRoadsByRank, aRow, aRanksBefore, aBusy, aOpen, aShut])) X hT hq hG 14 rfl ga_B_gApart (Nat.le_of_ble_eq_true rfl) hi14 (by subst egApart_15; rfl) dX1_shortenRow_62 (fun H locs hG => ?_)
      cases er12
      exact J12 H locs ls hG (lv_sub hl [1, 2, 3, 4, 5, 6] rfl)
def f1_shorten_b2 (fu : Nat) (p1 : Int32) (x2_1 : Int32) (x3_6 : Int32) (gApart_7 : (Nat → Int32)) : Option ((Int32 × (Nat → Int32)) ⊕ ((Nat → Int32))) :=
  if p1 ≤ x3_6 then (some (.inr gApart_7)) else bnd1 (f1_get x3_6 x2_1 gApart_7) fun (r_11 : Int32) => bnd1 (if 268435456 ≤ r_11 then (some gApart_7) else bnd1 (f1_shortenRow fu x3_6 x2_1 p1 r_11 gApart_7) fun (gApart_16 : (Nat → Int32)) => some gApart_16) fun (gApart_13 : (Nat → Int32)) => bd (x3_6 + 1) fun x3_18 => some (.inl (x3_18, gApart_13))
def f1_shorten_b1 (fu : Nat) (p1 : Int32) (x2_1 : Int32) (gApart_2 : (Nat → Int32)) : Option ((Int32 × (Nat → Int32)) ⊕ ((Nat → Int32))) :=
  if p1 ≤ x2_1 then (some (.inr gApart_2)) else bnd1 (lpG (fun z => f1_shorten_b2 fu p1 x2_1 z.1 z.2) fu ((0 : Int32), gApart_2)) fun (gApart_8 : (Nat → Int32)) => bd (x2_1 + 1) fun x2_19 => some (.inl (x2_19, gApart_8))
def f1_shorten (fu : Nat) (p1 : Int32) (gApart : (Nat → Int32)) : Option ((Nat → Int32)) :=
  bnd1 (lpG (fun z => f1_shorten_b1 fu p1 z.1 z.2) fu ((0 : Int32), gApart)) fun (gApart_3 : (Nat → Int32)) => some gApart_3
set_option maxHeartbeats 4000000 in
set_option maxRecDepth 100000 in
theorem c_X1_shorten_3 (hq : gJ layB q) {fu : Nat} {p1 : Int32} {o_gApart : (Nat → Int32)} (h : f1_shorten fu p1 gApart = some o_gApart) :
    GM l yX1_shorten cX1_shorten 5 none 1 28 D cI cZ layB q [.ref (q 3), .int p1] ([iReadings, iAlterations, iRankings, iLetters, iCurrent, iDue, iSize, iLsize], [], [gCosts, gWorths, gMiddles, gApart, gApartWithout, gNeeded, gUps, gDowns, gKeys, gNexts, gShutKeys, aCodes, aPbegins, aPends, aPlengths, aBegins, aEnds, aLengths, aRanks, aRoadsByRank, aRow, aRanksBefore, aBusy, aOpen, aShut]) none ([iReadings, iAlterations, iRankings, iLetters, iCurrent, iDue, iSize, iLsize], [], [gCosts, gWorths, gMiddles, o_gApart, gApartWithout, gNeeded, gUps, gDowns, gKeys, gNexts, gShutKeys, aCodes, aPbegins, aPends, aPlengths, aBegins, aEnds, aLengths, aRanks, aRoadsByRank, aRow, aRanksBefore, aBusy, aOpen, aShut]) := by
  refine GM.go RX1 (by decide) rfl (Nat.le_of_ble_eq_true rfl) ?_
  intro p e s m args below meth c ls R Q H locs X hr hlk hT hG hl hR hQ
  have hx := X.1
  have hb := X.2.1
  have hl : lv_has ls 5 [(0, .ref (q 3)), (1, .int p1)] := hl
  unfold f1_shorten at h
  refine lv_iconst (v := 0) hx hb dX1_shorten_0 (by decide) ?_
  refine lv_istore_n (lv' := [(2, .int 0), (0, .ref (q 3)), (1, .int p1)]) hx hb dX1_shorten_1 rfl hl (by decide) rfl (fun ls hl => ?_)
  obtain ⟨gApart_3, eL4, h⟩ := bnd1_some h
  have JX4 : ∀ (H : Heap) (locs : List Loc) (ls : Array Slot), GH D cI cZ layB q s ([iReadings, iAlterations, iRankings, iLetters, iCurrent, iDue, iSize, iLsize], [], [gCosts, gWorths, gMiddles, gApart_3, gApartWithout, gNeeded, gUps, gDowns, gKeys, gNexts, gShutKeys, aCodes, aPbegins, aPends, aPlengths, aBegins, aEnds, aLengths, aRanks, aRoadsByRank, aRow, aRanksBefore, aBusy, aOpen, aShut]) H locs → lv_has ls 5 [] → W p l e R s m args below meth c H locs 0 0 Q (F0 m 50 ls []) := by
    intro H locs ls hG hl
    cases h
    rw [hQ]
    exact g_vret X hT hG hr hlk dX1_shorten_50
  refine lpG_W (Wh := fun z => ∀ (H : Heap) (locs : List Loc) (ls : Array Slot), GH D cI cZ layB q s ([iReadings, iAlterations, iRankings, iLetters, iCurrent, iDue, iSize, iLsize], [], [gCosts, gWorths, gMiddles, z.2, gApartWithout, gNeeded, gUps, gDowns, gKeys, gNexts, gShutKeys, aCodes, aPbegins, aPends, aPlengths, aBegins, aEnds, aLengths, aRanks, aRoadsByRank, aRow, aRanksBefore, aBusy, aOpen, aShut]) H locs → lv_has ls 5 [(0, .ref (q 3)), (1, .int p1), (2, .int (z.1))] → W p l e R s m args below meth c H locs 0 0 Q (F0 m 2 ls [])) ?_ fu _ eL4 H locs ls hG (lv_sub hl [1, 2, 0] rfl)
  intro z rr4 hb4 hin4 hout4
  obtain ⟨x2_1, gApart_2⟩ := z
  intro H locs ls hG hl
  have hb4 : f1_shorten_b1 fu p1 x2_1 gApart_2 = some rr4 := hb4
  have hG : GH D cI cZ layB q s ([iReadings, iAlterations, iRankings, iLetters, iCurrent, iDue, iSize, iLsize], [], [gCosts, gWorths, gMiddles, gApart_2, gApartWithout, gNeeded, gUps, gDowns, gKeys, gNexts, gShutKeys, aCodes, aPbegins, aPends, aPlengths, aBegins, aEnds, aLengths, aRanks, aRoadsByRank, aRow, aRanksBefore, aBusy, aOpen, aShut]) H locs := hG
  have hl : lv_has ls 5 [(0, .ref (q 3)), (1, .int p1), (2, .int x2_1)] := hl
  unfold f1_shorten_b1 at hb4
  refine lv_iload_n hx hb dX1_shorten_2 rfl (lv_at hl 2 rfl) ?_
  refine lv_iload_n hx hb dX1_shorten_3 rfl (lv_at hl 1 rfl) ?_
  refine lv_icmp_ge (tgt := 50) hx hb dX1_shorten_4 (by decide) (fun cb5 => ?_) (fun cb5 => ?_)
  · have hb4 := ite_t cb5 hb4
    have eo := hout4 _ (Option.some.inj hb4).symm
    cases eo
    exact JX4 H locs ls hG (lv_sub hl [] rfl)
  · have hb4 := ite_f cb5 hb4
    refine lv_iconst (v := 0) hx hb dX1_shorten_7 (by decide) ?_
    refine lv_istore_n (lv' := [(3, .int 0), (0, .ref (q 3)), (1, .int p1), (2, .int x2_1)]) hx hb dX1_shorten_8 rfl hl (by decide) rfl (fun ls hl => ?_)
    obtain ⟨gApart_8, eL9, hb4⟩ := bnd1_some hb4
    have JX9 : ∀ (H : Heap) (locs : List Loc) (ls : Array Slot), GH D cI cZ layB q s ([iReadings, iAlterations, iRankings, iLetters, iCurrent, iDue, iSize, iLsize], [], [gCosts, gWorths, gMiddles, gApart_8, gApartWithout, gNeeded, gUps, gDowns, gKeys, gNexts, gShutKeys, aCodes, aPbegins, aPends, aPlengths, aBegins, aEnds, aLengths, aRanks, aRoadsByRank, aRow, aRanksBefore, aBusy, aOpen, aShut]) H locs → lv_has ls 5 [(0, .ref (q 3)), (1, .int p1), (2, .int x2_1)] → W p l e R s m args below meth c H locs 0 0 Q (F0 m 44 ls []) := by
      intro H locs ls hG hl
      obtain ⟨x2_19, ex2_19⟩ : ∃ z : Int32, z = x2_1 + 1 := ⟨_, rfl⟩
      have hb4 := bd_e ex2_19 hb4
      refine lv_iinc (v := x2_19) (lv' := [(2, .int x2_19), (0, .ref (q 3)), (1, .int p1)]) hx hb dX1_shorten_44 hl (k := 2) rfl (by rw [ex2_19]; rfl) (by decide) rfl (fun ls hl => ?_)
      refine lv_goto (tgt := 2) hx hb dX1_shorten_47 (by decide) ?_
      exact hin4 _ (Option.some.inj hb4).symm H locs ls hG (lv_sub hl [1, 2, 0] rfl)
    refine lpG_W (Wh := fun z => ∀ (H : Heap) (locs : List Loc) (ls : Array Slot), GH D cI cZ layB q s ([iReadings, iAlterations, iRankings, iLetters, iCurrent, iDue, iSize, iLsize], [], [gCosts, gWorths, gMiddles, z.2, gApartWithout, gNeeded, gUps, gDowns, gKeys, gNexts, gShutKeys, aCodes, aPbegins, aPends, aPlengths, aBegins, aEnds, aLengths, aRanks, aRoadsByRank, aRow, aRanksBefore, aBusy, aOpen, aShut]) H locs → lv_has ls 5 [(0, .ref (q 3)), (1, .int p1), (2, .int x2_1), (3, .int (z.1))] → W p l e R s m args below meth c H locs 0 0 Q (F0 m 9 ls [])) ?_ fu _ eL9 H locs ls hG (lv_sub hl [1, 2, 3, 0] rfl)
    intro z rr9 hb9 hin9 hout9
    obtain ⟨x3_6, gApart_7⟩ := z
    intro H locs ls hG hl
    have hb9 : f1_shorten_b2 fu p1 x2_1 x3_6 gApart_7 = some rr9 := hb9
    have hG : GH D cI cZ layB q s ([iReadings, iAlterations, iRankings, iLetters, iCurrent, iDue, iSize, iLsize], [], [gCosts, gWorths, gMiddles, gApart_7, gApartWithout, gNeeded, gUps, gDowns, gKeys, gNexts, gShutKeys, aCodes, aPbegins, aPends, aPlengths, aBegins, aEnds, aLengths, aRanks, aRoadsByRank, aRow, aRanksBefore, aBusy, aOpen, aShut]) H locs := hG
    have hl : lv_has ls 5 [(0, .ref (q 3)), (1, .int p1), (2, .int x2_1), (3, .int x3_6)] := hl
    unfold f1_shorten_b2 at hb9
    refine lv_iload_n hx hb dX1_shorten_9 rfl (lv_at hl 3 rfl) ?_
    refine lv_iload_n hx hb dX1_shorten_10 rfl (lv_at hl 1 rfl) ?_
    refine lv_icmp_ge (tgt := 44) hx hb dX1_shorten_11 (by decide) (fun cb10 => ?_) (fun cb10 => ?_)
    · have hb9 := ite_t cb10 hb9
      have eo := hout9 _ (Option.some.inj hb9).symm
      cases eo
      exact JX9 H locs ls hG (lv_sub hl [0, 1, 2] rfl)
    · have hb9 := ite_f cb10 hb9
      refine lv_aload_n hx hb dX1_shorten_14 rfl (lv_at hl 0 rfl) ?_
      refine lv_iload_n hx hb dX1_shorten_15 rfl (lv_at hl 3 rfl) ?_
      refine lv_iload_n hx hb dX1_shorten_16 rfl (lv_at hl 2 rfl) ?_
      obtain ⟨r_11, ec12, hb9⟩ := bnd1_some hb9
      refine g_callVr [.int x3_6, .int x2_1] [] 3 X hT hG ml_X1_15 (c_X1_get_3 hq ec12) rfl rfl rfl rfl rfl hl.1 (Nat.le_of_ble_eq_true rfl) (by rw [hR]; exact ⟨Nat.le_of_ble_eq_true rfl, Nat.le_of_ble_eq_true rfl⟩) dX1_shorten_17 (fun H locs hG => ?_)
      refine lv_istore (lv' := [(4, .int r_11), (0, .ref (q 3)), (1, .int p1), (2, .int x2_1), (3, .int x3_6)]) hx hb dX1_shorten_20 hl (by decide) rfl (fun ls hl => ?_)
      refine lv_iload hx hb dX1_shorten_22 (lv_at hl 0 rfl) ?_
      refine lv_ldc (v := 268435456) hx hb X.2.2.2.1 (X.2.2.2.2 _ cn_X1_19) dX1_shorten_24 ?_
      obtain ⟨gApart_13, er14, hb9⟩ := bnd1_some hb9
      have J14 : ∀ (H : Heap) (locs : List Loc) (ls : Array Slot), GH D cI cZ layB q s ([iReadings, iAlterations, iRankings, iLetters, iCurrent, iDue, iSize, iLsize], [], [gCosts, gWorths, gMiddles, gApart_13, gApartWithout, gNeeded, gUps, gDowns, gKeys, gNexts, gShutKeys, aCodes, aPbegins, aPends, aPlengths, aBegins, aEnds, aLengths, aRanks, aRoadsByRank, aRow, aRanksBefore, aBusy, aOpen, aShut]) H locs → lv_has ls 5 [(0, .ref (q 3)), (1, .int p1), (2, .int x2_1), (3, .int x3_6)] → W p l e R s m args below meth c H locs 0 0 Q (F0 m 38 ls []) := by
        intro H locs ls hG hl
        obtain ⟨x3_18, ex3_18⟩ : ∃ z : Int32, z = x3_6 + 1 := ⟨_, rfl⟩
        have hb9 := bd_e ex3_18 hb9
        refine lv_iinc (v := x3_18) (lv' := [(3, .int x3_18), (0, .ref (q 3)), (1, .int p1), (2, .int x2_1)]) hx hb dX1_shorten_38 hl (k := 3) rfl (by rw [ex3_18]; rfl) (by decide) rfl (fun ls hl => ?_)
        refine lv_goto (tgt := 9) hx hb dX1_shorten_41 (by decide) ?_
        exact hin9 _ (Option.some.inj hb9).symm H locs ls hG (lv_sub hl [1, 2, 3, 0] rfl)
      refine lv_icmp_ge (tgt := 38) hx hb dX1_shorten_26 (by decide) (fun cb15 => ?_) (fun cb15 => ?_)
      · have er14 := ite_t cb15 er14
        cases er14
        exact J14 H locs ls hG (lv_sub hl [1, 2, 3, 4] rfl)
      · have er14 := ite_f cb15 er14
        refine lv_aload_n hx hb dX1_shorten_29 rfl (lv_at hl 1 rfl) ?_
        refine lv_iload_n hx hb dX1_shorten_30 rfl (lv_at hl 4 rfl) ?_
        refine lv_iload_n hx hb dX1_shorten_31 rfl (lv_at hl 3 rfl) ?_
        refine lv_iload hx hb dX1_shorten_32 (lv_at hl 0 rfl) ?_
        refine lv_iload_n hx hb dX1_shorten_34 rfl (lv_at hl 2 rfl) ?_
        obtain ⟨gApart_16, ec17, er14⟩ := bnd1_some er14
        refine g_callVv [.int x3_6, .int x2_1, .int r_11, .int p1] [] 3 X hT hG ml_X1_20 (c_X1_shortenRow_3 hq ec17) rfl rfl rfl rfl rfl hl.1 (Nat.le_of_ble_eq_true rfl) (by rw [hR]; exact ⟨Nat.le_of_ble_eq_true rfl, Nat.le_of_ble_eq_true rfl⟩) dX1_shorten_35 (fun H locs hG => ?_)
        have hG : GH D cI cZ layB q s ([iReadings, iAlterations, iRankings, iLetters, iCurrent, iDue, iSize, iLsize], [], [gCosts, gWorths, gMiddles, gApart_16, gApartWithout, gNeeded, gUps, gDowns, gKeys, gNexts, gShutKeys, aCodes, aPbegins, aPends, aPlengths, aBegins, aEnds, aLengths, aRanks, aRoadsByRank, aRow, aRanksBefore, aBusy, aOpen, aShut]) H locs := hG
        cases er14
        exact J14 H locs ls hG (lv_sub hl [1, 2, 3, 4] rfl)
def f2_measureFree_b2 (iLsize : Int32) (x3_1 : Int32) (aRanks : (Nat → Int32)) (p1 : Int32) (gWorths : (Nat → Int32)) (x4_6 : Int32) (gApart_7 : (Nat → Int32)) : Option ((Int32 × (Nat → Int32)) ⊕ ((Nat → Int32))) :=
  if iLsize ≤ x4_6 then (some (.inr gApart_7)) else bnd1 (f2_isFree x3_1 aRanks) fun (r_11 : Int32) => bnd1 (if r_11 = 0 then (some 0) else bnd1 (f2_isFree x4_6 aRanks) fun (r_16 : Int32) => if r_16 = 0 then (some 0) else if x3_1 = p1 then (some 0) else if x4_6 = p1 then (some 0) else some 1) fun (y_13 : Int32) => bnd1 (if y_13 = 0 then (some 268435456) else bnd1 (f1_get x3_1 x4_6 gWorths) fun (r_24 : Int32) => some r_24) fun (y_21 : Int32) => bnd1 (f1_set x3_1 x4_6 gApart_7 y_21) fun (gApart_26 : (Nat → Int32)) => bd (x4_6 + 1) fun x4_28 => some (.inl (x4_28, gApart_26))
def f2_measureFree_b1 (fu : Nat) (iLsize : Int32) (aRanks : (Nat → Int32)) (p1 : Int32) (gWorths : (Nat → Int32)) (x3_1 : Int32) (gApart_2 : (Nat → Int32)) : Option ((Int32 × (Nat → Int32)) ⊕ ((Nat → Int32))) :=
  if iLsize ≤ x3_1 then (some (.inr gApart_2)) else bnd1 (lpG (fun z => f2_measureFree_b2 iLsize x3_1 aRanks p1 gWorths z.1 z.2) fu ((0 : Int32), gApart_2)) fun (gApart_8 : (Nat → Int32)) => bd (x3_1 + 1) fun x3_29 => some (.inl (x3_29, gApart_8))
def f2_measureFree (fu : Nat) (iLsize : Int32) (aRanks : (Nat → Int32)) (p1 : Int32) (gWorths : (Nat → Int32)) (gApart : (Nat → Int32)) : Option ((Nat → Int32)) :=
  bnd1 (lpG (fun z => f2_measureFree_b1 fu iLsize aRanks p1 gWorths z.1 z.2) fu ((0 : Int32), gApart)) fun (gApart_3 : (Nat → Int32)) => bnd1 (f1_shorten fu iLsize gApart_3) fun (gApart_30 : (Nat → Int32)) => some gApart_30
set_option maxHeartbeats 4000000 in
set_option maxRecDepth 100000 in
theorem c_X2_measureFree_25_3 (hq : gJ layB q) {fu : Nat} {p1 : Int32} {o_gApart : (Nat → Int32)} (h : f2_measureFree fu iLsize aRanks p1 gWorths gApart = some o_gApart) :
    GM l yX2_measureFree cX2_measureFree 6 none 2 52 D cI cZ layB q [.ref (q 25), .ref (q 3), .int p1] ([iReadings, iAlterations, iRankings, iLetters, iCurrent, iDue, iSize, iLsize], [], [gCosts, gWorths, gMiddles, gApart, gApartWithout, gNeeded, gUps, gDowns, gKeys, gNexts, gShutKeys, aCodes, aPbegins, aPends, aPlengths, aBegins, aEnds, aLengths, aRanks, aRoadsByRank, aRow, aRanksBefore, aBusy, aOpen, aShut]) none ([iReadings, iAlterations, iRankings, iLetters, iCurrent, iDue, iSize, iLsize], [], [gCosts, gWorths, gMiddles, o_gApart, gApartWithout, gNeeded, gUps, gDowns, gKeys, gNexts, gShutKeys, aCodes, aPbegins, aPends, aPlengths, aBegins, aEnds, aLengths, aRanks, aRoadsByRank, aRow, aRanksBefore, aBusy, aOpen, aShut]) := by
  refine GM.go RX2 (by decide) rfl (Nat.le_of_ble_eq_true rfl) ?_
  intro p e s m args below meth c ls R Q H locs X hr hlk hT hG hl hR hQ
  have hx := X.1
  have hb := X.2.1
  have hl : lv_has ls 6 [(0, .ref (q 25)), (1, .ref (q 3)), (2, .int p1)] := hl
  unfold f2_measureFree at h
  refine lv_iconst (v := 0) hx hb dX2_measureFree_0 (by decide) ?_
  refine lv_istore_n (lv' := [(3, .int 0), (0, .ref (q 25)), (1, .ref (q 3)), (2, .int p1)]) hx hb dX2_measureFree_1 rfl hl (by decide) rfl (fun ls hl => ?_)
  obtain ⟨gApart_3, eL4, h⟩ := bnd1_some h
  have JX4 : ∀ (H : Heap) (locs : List Loc) (ls : Array Slot), GH D cI cZ layB q s ([iReadings, iAlterations, iRankings, iLetters, iCurrent, iDue, iSize, iLsize], [], [gCosts, gWorths, gMiddles, gApart_3, gApartWithout, gNeeded, gUps, gDowns, gKeys, gNexts, gShutKeys, aCodes, aPbegins, aPends, aPlengths, aBegins, aEnds, aLengths, aRanks, aRoadsByRank, aRow, aRanksBefore, aBusy, aOpen, aShut]) H locs → lv_has ls 6 [(0, .ref (q 25)), (1, .ref (q 3))] → W p l e R s m args below meth c H locs 0 0 Q (F0 m 96 ls []) := by
    intro H locs ls hG hl
    refine lv_aload_n hx hb dX2_measureFree_96 rfl (lv_at hl 1 rfl) ?_
    refine lv_aload_n hx hb dX2_measureFree_97 rfl (lv_at hl 0 rfl) ?_
    refine g_get (v := .int iLsize) X hT hG fl_X2_47 25 rfl rfl rfl dX2_measureFree_98 ?_
    obtain ⟨gApart_30, ec31, h⟩ := bnd1_some h
    refine g_callVv [.int iLsize] [] 3 X hT hG ml_X2_88 (c_X1_shorten_3 hq ec31) rfl rfl rfl rfl rfl hl.1 (Nat.le_of_ble_eq_true rfl) (by rw [hR]; exact ⟨Nat.le_of_ble_eq_true rfl, Nat.le_of_ble_eq_true rfl⟩) dX2_measureFree_101 (fun H locs hG => ?_)
    have hG : GH D cI cZ layB q s ([iReadings, iAlterations, iRankings, iLetters, iCurrent, iDue, iSize, iLsize], [], [gCosts, gWorths, gMiddles, gApart_30, gApartWithout, gNeeded, gUps, gDowns, gKeys, gNexts, gShutKeys, aCodes, aPbegins, aPends, aPlengths, aBegins, aEnds, aLengths, aRanks, aRoadsByRank, aRow, aRanksBefore, aBusy, aOpen, aShut]) H locs := hG
    cases h
    rw [hQ]
    exact g_vret X hT hG hr hlk dX2_measureFree_104
  refine lpG_W (Wh := fun z => ∀ (H : Heap) (locs : List Loc) (ls : Array Slot), GH D cI cZ layB q s ([iReadings, iAlterations, iRankings, iLetters, iCurrent, iDue, iSize, iLsize], [], [gCosts, gWorths, gMiddles, z.2, gApartWithout, gNeeded, gUps, gDowns, gKeys, gNexts, gShutKeys, aCodes, aPbegins, aPends, aPlengths, aBegins, aEnds, aLengths, aRanks, aRoadsByRank, aRow, aRanksBefore, aBusy, aOpen, aShut]) H locs → lv_has ls 6 [(0, .ref (q 25)), (1, .ref (q 3)), (2, .int p1), (3, .int (z.1))] → W p l e R s m args below meth c H locs 0 0 Q (F0 m 2 ls [])) ?_ fu _ eL4 H locs ls hG (lv_sub hl [1, 2, 3, 0] rfl)
  intro z rr4 hb4 hin4 hout4
  obtain ⟨x3_1, gApart_2⟩ := z
  intro H locs ls hG hl
  have hb4 : f2_measureFree_b1 fu iLsize aRanks p1 gWorths x3_1 gApart_2 = some rr4 := hb4
  have hG : GH D cI cZ layB q s ([iReadings, iAlterations, iRankings, iLetters, iCurrent, iDue, iSize, iLsize], [], [gCosts, gWorths, gMiddles, gApart_2, gApartWithout, gNeeded, gUps, gDowns, gKeys, gNexts, gShutKeys, aCodes, aPbegins, aPends, aPlengths, aBegins, aEnds, aLengths, aRanks, aRoadsByRank, aRow, aRanksBefore, aBusy, aOpen, aShut]) H locs := hG
  have hl : lv_has ls 6 [(0, .ref (q 25)), (1, .ref (q 3)), (2, .int p1), (3, .int x3_1)] := hl
  unfold f2_measureFree_b1 at hb4
  refine lv_iload_n hx hb dX2_measureFree_2 rfl (lv_at hl 3 rfl) ?_
  refine lv_aload_n hx hb dX2_measureFree_3 rfl (lv_at hl 0 rfl) ?_
  refine g_get (v := .int iLsize) X hT hG fl_X2_47 25 rfl rfl rfl dX2_measureFree_4 ?_
  refine lv_icmp_ge (tgt := 96) hx hb dX2_measureFree_7 (by decide) (fun cb5 => ?_) (fun cb5 => ?_)
  · have hb4 := ite_t cb5 hb4
    have eo := hout4 _ (Option.some.inj hb4).symm
    cases eo
    exact JX4 H locs ls hG (lv_sub hl [0, 1] rfl)
  · have hb4 := ite_f cb5 hb4
    refine lv_iconst (v := 0) hx hb dX2_measureFree_10 (by decide) ?_
    refine lv_istore (lv' := [(4, .int 0), (0, .ref (q 25)), (1, .ref (q 3)), (2, .int p1), (3, .int x3_1)]) hx hb dX2_measureFree_11 hl (by decide) rfl (fun ls hl => ?_)
    obtain ⟨gApart_8, eL9, hb4⟩ := bnd1_some hb4
    have JX9 : ∀ (H : Heap) (locs : List Loc) (ls : Array Slot), GH D cI cZ layB q s ([iReadings, iAlterations, iRankings, iLetters, iCurrent, iDue, iSize, iLsize], [], [gCosts, gWorths, gMiddles, gApart_8, gApartWithout, gNeeded, gUps, gDowns, gKeys, gNexts, gShutKeys, aCodes, aPbegins, aPends, aPlengths, aBegins, aEnds, aLengths, aRanks, aRoadsByRank, aRow, aRanksBefore, aBusy, aOpen, aShut]) H locs → lv_has ls 6 [(0, .ref (q 25)), (1, .ref (q 3)), (2, .int p1), (3, .int x3_1)] → W p l e R s m args below meth c H locs 0 0 Q (F0 m 90 ls []) := by
      intro H locs ls hG hl
      obtain ⟨x3_29, ex3_29⟩ : ∃ z : Int32, z = x3_1 + 1 := ⟨_, rfl⟩
      have hb4 := bd_e ex3_29 hb4
      refine lv_iinc (v := x3_29) (lv' := [(3, .int x3_29), (0, .ref (q 25)), (1, .ref (q 3)), (2, .int p1)]) hx hb dX2_measureFree_90 hl (k := 3) rfl (by rw [ex3_29]; rfl) (by decide) rfl (fun ls hl => ?_)
      refine lv_goto (tgt := 2) hx hb dX2_measureFree_93 (by decide) ?_
      exact hin4 _ (Option.some.inj hb4).symm H locs ls hG (lv_sub hl [1, 2, 3, 0] rfl)
    refine lpG_W (Wh := fun z => ∀ (H : Heap) (locs : List Loc) (ls : Array Slot), GH D cI cZ layB q s ([iReadings, iAlterations, iRankings, iLetters, iCurrent, iDue, iSize, iLsize], [], [gCosts, gWorths, gMiddles, z.2, gApartWithout, gNeeded, gUps, gDowns, gKeys, gNexts, gShutKeys, aCodes, aPbegins, aPends, aPlengths, aBegins, aEnds, aLengths, aRanks, aRoadsByRank, aRow, aRanksBefore, aBusy, aOpen, aShut]) H locs → lv_has ls 6 [(0, .ref (q 25)), (1, .ref (q 3)), (2, .int p1), (3, .int x3_1), (4, .int (z.1))] → W p l e R s m args below meth c H locs 0 0 Q (F0 m 13 ls [])) ?_ fu _ eL9 H locs ls hG (lv_sub hl [1, 2, 3, 4, 0] rfl)
    intro z rr9 hb9 hin9 hout9
    obtain ⟨x4_6, gApart_7⟩ := z
    intro H locs ls hG hl
    have hb9 : f2_measureFree_b2 iLsize x3_1 aRanks p1 gWorths x4_6 gApart_7 = some rr9 := hb9
    have hG : GH D cI cZ layB q s ([iReadings, iAlterations, iRankings, iLetters, iCurrent, iDue, iSize, iLsize], [], [gCosts, gWorths, gMiddles, gApart_7, gApartWithout, gNeeded, gUps, gDowns, gKeys, gNexts, gShutKeys, aCodes, aPbegins, aPends, aPlengths, aBegins, aEnds, aLengths, aRanks, aRoadsByRank, aRow, aRanksBefore, aBusy, aOpen, aShut]) H locs := hG
    have hl : lv_has ls 6 [(0, .ref (q 25)), (1, .ref (q 3)), (2, .int p1), (3, .int x3_1), (4, .int x4_6)] := hl
    unfold f2_measureFree_b2 at hb9
    refine lv_iload hx hb dX2_measureFree_13 (lv_at hl 4 rfl) ?_
    refine lv_aload_n hx hb dX2_measureFree_15 rfl (lv_at hl 0 rfl) ?_
    refine g_get (v := .int iLsize) X hT hG fl_X2_47 25 rfl rfl rfl dX2_measureFree_16 ?_
    refine lv_icmp_ge (tgt := 90) hx hb dX2_measureFree_19 (by decide) (fun cb10 => ?_) (fun cb10 => ?_)
    · have hb9 := ite_t cb10 hb9
      have eo := hout9 _ (Option.some.inj hb9).symm
      cases eo
      exact JX9 H locs ls hG (lv_sub hl [0, 1, 2, 3] rfl)
    · have hb9 := ite_f cb10 hb9
      refine lv_aload_n hx hb dX2_measureFree_22 rfl (lv_at hl 0 rfl) ?_
      refine lv_iload_n hx hb dX2_measureFree_23 rfl (lv_at hl 3 rfl) ?_
      obtain ⟨r_11, ec12, hb9⟩ := bnd1_some hb9
      refine g_callVr [.int x3_1] [] 25 X hT hG ml_X2_80 (c_X2_isFree hq ec12) rfl rfl rfl rfl rfl hl.1 (Nat.le_of_ble_eq_true rfl) (by rw [hR]; exact ⟨Nat.le_of_ble_eq_true rfl, Nat.le_of_ble_eq_true rfl⟩) dX2_measureFree_24 (fun H locs hG => ?_)
      obtain ⟨y_13, er14, hb9⟩ := bnd1_some hb9
      have J14 : ∀ (H : Heap) (locs : List Loc) (ls : Array Slot), GH D cI cZ layB q s ([iReadings, iAlterations, iRankings, iLetters, iCurrent, iDue, iSize, iLsize], [], [gCosts, gWorths, gMiddles, gApart_7, gApartWithout, gNeeded, gUps, gDowns, gKeys, gNexts, gShutKeys, aCodes, aPbegins, aPends, aPlengths, aBegins, aEnds, aLengths, aRanks, aRoadsByRank, aRow, aRanksBefore, aBusy, aOpen, aShut]) H locs → lv_has ls 6 [(0, .ref (q 25)), (1, .ref (q 3)), (2, .int p1), (3, .int x3_1), (4, .int x4_6)] → W p l e R s m args below meth c H locs 0 0 Q (F0 m 55 ls [.int y_13]) := by
        intro H locs ls hG hl
        refine lv_istore (lv' := [(5, .int y_13), (0, .ref (q 25)), (1, .ref (q 3)), (2, .int p1), (3, .int x3_1), (4, .int x4_6)]) hx hb dX2_measureFree_55 hl (by decide) rfl (fun ls hl => ?_)
        refine lv_aload_n hx hb dX2_measureFree_57 rfl (lv_at hl 2 rfl) ?_
        refine lv_iload_n hx hb dX2_measureFree_58 rfl (lv_at hl 4 rfl) ?_
        refine lv_iload hx hb dX2_measureFree_59 (lv_at hl 5 rfl) ?_
        refine lv_iload hx hb dX2_measureFree_61 (lv_at hl 0 rfl) ?_
        obtain ⟨y_21, er22, hb9⟩ := bnd1_some hb9
        have J22 : ∀ (H : Heap) (locs : List Loc) (ls : Array Slot), GH D cI cZ layB q s ([iReadings, iAlterations, iRankings, iLetters, iCurrent, iDue, iSize, iLsize], [], [gCosts, gWorths, gMiddles, gApart_7, gApartWithout, gNeeded, gUps, gDowns, gKeys, gNexts, gShutKeys, aCodes, aPbegins, aPends, aPlengths, aBegins, aEnds, aLengths, aRanks, aRoadsByRank, aRow, aRanksBefore, aBusy, aOpen, aShut]) H locs → lv_has ls 6 [(0, .ref (q 25)), (1, .ref (q 3)), (2, .int p1), (3, .int x3_1), (4, .int x4_6)] → W p l e R s m args below meth c H locs 0 0 Q (F0 m 81 ls [.int y_21, .int x4_6, .int x3_1, .ref (q 3)]) := by
          intro H locs ls hG hl
          obtain ⟨gApart_26, ec27, hb9⟩ := bnd1_some hb9
          refine g_callVv [.int x3_1, .int x4_6, .int y_21] [] 3 X hT hG ml_X2_76 (c_X1_set_3 hq ec27) rfl rfl rfl rfl rfl hl.1 (Nat.le_of_ble_eq_true rfl) (by rw [hR]; exact ⟨Nat.le_of_ble_eq_true rfl, Nat.le_of_ble_eq_true rfl⟩) dX2_measureFree_81 (fun H locs hG => ?_)
          have hG : GH D cI cZ layB q s ([iReadings, iAlterations, iRankings, iLetters, iCurrent, iDue, iSize, iLsize], [], [gCosts, gWorths, gMiddles, gApart_26, gApartWithout, gNeeded, gUps, gDowns, gKeys, gNexts, gShutKeys, aCodes, aPbegins, aPends, aPlengths, aBegins, aEnds, aLengths, aRanks, aRoadsByRank, aRow, aRanksBefore, aBusy, aOpen, aShut]) H locs := hG
          obtain ⟨x4_28, ex4_28⟩ : ∃ z : Int32, z = x4_6 + 1 := ⟨_, rfl⟩
          have hb9 := bd_e ex4_28 hb9
          refine lv_iinc (v := x4_28) (lv' := [(4, .int x4_28), (0, .ref (q 25)), (1, .ref (q 3)), (2, .int p1), (3, .int x3_1)]) hx hb dX2_measureFree_84 hl (k := 4) rfl (by rw [ex4_28]; rfl) (by decide) rfl (fun ls hl => ?_)
          refine lv_goto (tgt := 13) hx hb dX2_measureFree_87 (by decide) ?_
          exact hin9 _ (Option.some.inj hb9).symm H locs ls hG (lv_sub hl [1, 2, 3, 4, 0] rfl)
        refine lv_if_eq (tgt := 79) hx hb dX2_measureFree_63 (by decide) (fun cb23 => ?_) (fun cb23 => ?_)
        · have er22 := ite_t cb23 er22
          refine lv_ldc (v := 268435456) hx hb X.2.2.2.1 (X.2.2.2.2 _ cn_X2_87) dX2_measureFree_79 ?_
          cases er22
          exact J22 H locs ls hG (lv_sub hl [1, 2, 3, 4, 5] rfl)
        · have er22 := ite_f cb23 er22
          refine lv_aload_n hx hb dX2_measureFree_66 rfl (lv_at hl 1 rfl) ?_
          refine g_get (v := .ref (q 1)) X hT hG fl_X2_12 25 rfl rfl rfl dX2_measureFree_67 ?_
          refine lv_iload_n hx hb dX2_measureFree_70 rfl (lv_at hl 4 rfl) ?_
          refine lv_iload hx hb dX2_measureFree_71 (lv_at hl 5 rfl) ?_
          obtain ⟨r_24, ec25, er22⟩ := bnd1_some er22
          refine g_callVr [.int x3_1, .int x4_6] [.int x4_6, .int x3_1, .ref (q 3)] 1 X hT hG ml_X2_84 (c_X1_get_1 hq ec25) rfl rfl rfl rfl rfl hl.1 (Nat.le_of_ble_eq_true rfl) (by rw [hR]; exact ⟨Nat.le_of_ble_eq_true rfl, Nat.le_of_ble_eq_true rfl⟩) dX2_measureFree_73 (fun H locs hG => ?_)
          refine lv_goto (tgt := 81) hx hb dX2_measureFree_76 (by decide) ?_
          cases er22
          exact J22 H locs ls hG (lv_sub hl [1, 2, 3, 4, 5] rfl)
      refine lv_if_eq (tgt := 54) hx hb dX2_measureFree_27 (by decide) (fun cb15 => ?_) (fun cb15 => ?_)
      · have er14 := ite_t cb15 er14
        refine lv_iconst (v := 0) hx hb dX2_measureFree_54 (by decide) ?_
        cases er14
        exact J14 H locs ls hG (lv_sub hl [0, 1, 2, 3, 4] rfl)
      · have er14 := ite_f cb15 er14
        refine lv_aload_n hx hb dX2_measureFree_30 rfl (lv_at hl 0 rfl) ?_
        refine lv_iload hx hb dX2_measureFree_31 (lv_at hl 4 rfl) ?_
        obtain ⟨r_16, ec17, er14⟩ := bnd1_some er14
        refine g_callVr [.int x4_6] [] 25 X hT hG ml_X2_80 (c_X2_isFree hq ec17) rfl rfl rfl rfl rfl hl.1 (Nat.le_of_ble_eq_true rfl) (by rw [hR]; exact ⟨Nat.le_of_ble_eq_true rfl, Nat.le_of_ble_eq_true rfl⟩) dX2_measureFree_33 (fun H locs hG => ?_)
        refine lv_if_eq (tgt := 54) hx hb dX2_measureFree_36 (by decide) (fun cb18 => ?_) (fun cb18 => ?_)
        · have er14 := ite_t cb18 er14
          refine lv_iconst (v := 0) hx hb dX2_measureFree_54 (by decide) ?_
          cases er14
          exact J14 H locs ls hG (lv_sub hl [0, 1, 2, 3, 4] rfl)
        · have er14 := ite_f cb18 er14
          refine lv_iload_n hx hb dX2_measureFree_39 rfl (lv_at hl 3 rfl) ?_
          refine lv_iload_n hx hb dX2_measureFree_40 rfl (lv_at hl 2 rfl) ?_
          refine lv_icmp_eq (tgt := 54) hx hb dX2_measureFree_41 (by decide) (fun cb19 => ?_) (fun cb19 => ?_)
          · have er14 := ite_t cb19 er14
            refine lv_iconst (v := 0) hx hb dX2_measureFree_54 (by decide) ?_
            cases er14
            exact J14 H locs ls hG (lv_sub hl [0, 1, 2, 3, 4] rfl)
          · have er14 := ite_f cb19 er14
            refine lv_iload hx hb dX2_measureFree_44 (lv_at hl 4 rfl) ?_
            refine lv_iload_n hx hb dX2_measureFree_46 rfl (lv_at hl 2 rfl) ?_
            refine lv_icmp_eq (tgt := 54) hx hb dX2_measureFree_47 (by decide) (fun cb20 => ?_) (fun cb20 => ?_)
            · have er14 := ite_t cb20 er14
              refine lv_iconst (v := 0) hx hb dX2_measureFree_54 (by decide) ?_
              cases er14
              exact J14 H locs ls hG (lv_sub hl [0, 1, 2, 3, 4] rfl)
            · have er14 := ite_f cb20 er14
              refine lv_iconst (v := 1) hx hb dX2_measureFree_50 (by decide) ?_
              refine lv_goto (tgt := 55) hx hb dX2_measureFree_51 (by decide) ?_
              cases er14
              exact J14 H locs ls hG (lv_sub hl [0, 1, 2, 3, 4] rfl)
set_option maxHeartbeats 4000000 in
set_option maxRecDepth 100000 in
theorem c_X1_set_4 (hq : gJ layB q) {p1 : Int32} {p2 : Int32} {p3 : Int32} {o_gApartWithout : (Nat → Int32)} (h : f1_set p1 p2 gApartWithout p3 = some o_gApartWithout) :
    GM l yX1_set cX1_set 4 none 0 0 D cI cZ layB q [.ref (q 4), .int p1, .int p2, .int p3] ([iReadings, iAlterations, iRankings, iLetters, iCurrent, iDue, iSize, iLsize], [], [gCosts, gWorths, gMiddles, gApart, gApartWithout, gNeeded, gUps, gDowns, gKeys, gNexts, gShutKeys, aCodes, aPbegins, aPends, aPlengths, aBegins, aEnds, aLengths, aRanks, aRoadsByRank, aRow, aRanksBefore, aBusy, aOpen, aShut]) none ([iReadings, iAlterations, iRankings, iLetters, iCurrent, iDue, iSize, iLsize], [], [gCosts, gWorths, gMiddles, gApart, o_gApartWithout, gNeeded, gUps, gDowns, gKeys, gNexts, gShutKeys, aCodes, aPbegins, aPends, aPlengths, aBegins, aEnds, aLengths, aRanks, aRoadsByRank, aRow, aRanksBefore, aBusy, aOpen, aShut]) := by
  refine GM.go RX1 (by decide) rfl (Nat.le_of_ble_eq_true rfl) ?_
  intro p e s m args below meth c ls R Q H locs X hr hlk hT hG hl hR hQ
  have hx := X.1
  have hb := X.2.1
  have hl : lv_has ls 4 [(0, .ref (q 4)), (1, .int p1), (2, .int p2), (3, .int p3)] := hl
  unfold f1_set at h
  refine lv_aload_n hx hb dX1_set_0 rfl (lv_at hl 0 rfl) ?_
  refine g_get (v := .ref (q 15)) X hT hG fl_X1_9 4 rfl rfl rfl dX1_set_1 ?_
  refine lv_iload_n hx hb dX1_set_4 rfl (lv_at hl 1 rfl) ?_
  refine lv_bipush (v := 12) hx hb dX1_set_5 (by decide) ?_
  refine lv_imul hx hb dX1_set_7 ?_
  refine lv_iload_n hx hb dX1_set_8 rfl (lv_at hl 2 rfl) ?_
  refine lv_iadd hx hb dX1_set_9 ?_
  refine lv_iload_n hx hb dX1_set_10 rfl (lv_at hl 3 rfl) ?_
  obtain ⟨hi1, h⟩ := ckin_some h
  obtain ⟨gApartWithout_2, egApartWithout_2⟩ : ∃ z : Nat → Int32, z = upd gApartWithout ((p1 * 12) + p2).toNatClampNeg p3 := ⟨_, rfl⟩
  have h := bd_e egApartWithout_2 h
  refine g_ast (w' := ([iReadings, iAlterations, iRankings, iLetters, iCurrent, iDue, iSize, iLsize], [], [gCosts, gWorths, gMiddles, gApart, gApartWithout_2, gNeeded, gUps, gDowns, gKeys, gNexts, gShutKeys, aCodes, aPbegins, aPends, aPlengths, aBegins, aEnds, aLengths, aRanks, aRoadsByRank, aRow, aRanksBefore, aBusy, aOpen, aShut])) X hT hq hG 15 rfl ga_B_gApartWithout (Nat.le_of_ble_eq_true rfl) hi1 (by subst egApartWithout_2; rfl) dX1_set_11 (fun H locs hG => ?_)
  cases h
  rw [hQ]
  exact g_vret X hT hG hr hlk dX1_set_12
set_option maxHeartbeats 4000000 in
set_option maxRecDepth 100000 in
theorem c_X1_get_4 (hq : gJ layB q) {p1 : Int32} {p2 : Int32} {o_r : Int32} (h : f1_get p1 p2 gApartWithout = some o_r) :
    GM l yX1_get cX1_get 3 (some .int) 0 0 D cI cZ layB q [.ref (q 4), .int p1, .int p2] ([iReadings, iAlterations, iRankings, iLetters, iCurrent, iDue, iSize, iLsize], [], [gCosts, gWorths, gMiddles, gApart, gApartWithout, gNeeded, gUps, gDowns, gKeys, gNexts, gShutKeys, aCodes, aPbegins, aPends, aPlengths, aBegins, aEnds, aLengths, aRanks, aRoadsByRank, aRow, aRanksBefore, aBusy, aOpen, aShut]) (some (.int o_r)) ([iReadings, iAlterations, iRankings, iLetters, iCurrent, iDue, iSize, iLsize], [], [gCosts, gWorths, gMiddles, gApart, gApartWithout, gNeeded, gUps, gDowns, gKeys, gNexts, gShutKeys, aCodes, aPbegins, aPends, aPlengths, aBegins, aEnds, aLengths, aRanks, aRoadsByRank, aRow, aRanksBefore, aBusy, aOpen, aShut]) := by
  refine GM.go RX1 (by decide) rfl (Nat.le_of_ble_eq_true rfl) ?_
  intro p e s m args below meth c ls R Q H locs X hr hlk hT hG hl hR hQ
  have hx := X.1
  have hb := X.2.1
  have hl : lv_has ls 3 [(0, .ref (q 4)), (1, .int p1), (2, .int p2)] := hl
  unfold f1_get at h
  refine lv_aload_n hx hb dX1_get_0 rfl (lv_at hl 0 rfl) ?_
  refine g_get (v := .ref (q 15)) X hT hG fl_X1_9 4 rfl rfl rfl dX1_get_1 ?_
  refine lv_iload_n hx hb dX1_get_4 rfl (lv_at hl 1 rfl) ?_
  refine lv_bipush (v := 12) hx hb dX1_get_5 (by decide) ?_
  refine lv_imul hx hb dX1_get_7 ?_
  refine lv_iload_n hx hb dX1_get_8 rfl (lv_at hl 2 rfl) ?_
  refine lv_iadd hx hb dX1_get_9 ?_
  obtain ⟨hi1, h⟩ := ckin_some h
  refine g_ald (f := gApartWithout) X hT hG 15 rfl rfl hi1 dX1_get_10 ?_
  cases h
  rw [hQ]
  exact g_iret X hT hG hr hlk dX1_get_11
set_option maxHeartbeats 4000000 in
set_option maxRecDepth 100000 in
theorem c_X1_shortenRow_4 (hq : gJ layB q) {fu : Nat} {p1 : Int32} {p2 : Int32} {p3 : Int32} {p4 : Int32} {o_gApartWithout : (Nat → Int32)} (h : f1_shortenRow fu p1 p2 p4 p3 gApartWithout = some o_gApartWithout) :
    GM l yX1_shortenRow cX1_shortenRow 9 none 0 0 D cI cZ layB q [.ref (q 4), .int p1, .int p2, .int p3, .int p4] ([iReadings, iAlterations, iRankings, iLetters, iCurrent, iDue, iSize, iLsize], [], [gCosts, gWorths, gMiddles, gApart, gApartWithout, gNeeded, gUps, gDowns, gKeys, gNexts, gShutKeys, aCodes, aPbegins, aPends, aPlengths, aBegins, aEnds, aLengths, aRanks, aRoadsByRank, aRow, aRanksBefore, aBusy, aOpen, aShut]) none ([iReadings, iAlterations, iRankings, iLetters, iCurrent, iDue, iSize, iLsize], [], [gCosts, gWorths, gMiddles, gApart, o_gApartWithout, gNeeded, gUps, gDowns, gKeys, gNexts, gShutKeys, aCodes, aPbegins, aPends, aPlengths, aBegins, aEnds, aLengths, aRanks, aRoadsByRank, aRow, aRanksBefore, aBusy, aOpen, aShut]) := by
  refine GM.go RX1 (by decide) rfl (Nat.le_of_ble_eq_true rfl) ?_
  intro p e s m args below meth c ls R Q H locs X hr hlk hT hG hl hR hQ
  have hx := X.1
  have hb := X.2.1
  have hl : lv_has ls 9 [(0, .ref (q 4)), (1, .int p1), (2, .int p2), (3, .int p3), (4, .int p4)] := hl
  unfold f1_shortenRow at h
  refine lv_iload_n hx hb dX1_shortenRow_0 rfl (lv_at hl 1 rfl) ?_
  refine lv_bipush (v := 12) hx hb dX1_shortenRow_1 (by decide) ?_
  refine lv_imul hx hb dX1_shortenRow_3 ?_
  refine lv_topi (fun x5_1 ex5_1 => ?_)
  have h := bd_e ex5_1 h
  refine lv_istore (lv' := [(5, .int x5_1), (0, .ref (q 4)), (1, .int p1), (2, .int p2), (3, .int p3), (4, .int p4)]) hx hb dX1_shortenRow_4 hl (by decide) rfl (fun ls hl => ?_)
  refine lv_iload_n hx hb dX1_shortenRow_6 rfl (lv_at hl 3 rfl) ?_
  refine lv_bipush (v := 12) hx hb dX1_shortenRow_7 (by decide) ?_
  refine lv_imul hx hb dX1_shortenRow_9 ?_
  refine lv_topi (fun x6_2 ex6_2 => ?_)
  have h := bd_e ex6_2 h
  refine lv_istore (lv' := [(6, .int x6_2), (5, .int x5_1), (0, .ref (q 4)), (1, .int p1), (2, .int p2), (3, .int p3), (4, .int p4)]) hx hb dX1_shortenRow_10 hl (by decide) rfl (fun ls hl => ?_)
  refine lv_iconst (v := 0) hx hb dX1_shortenRow_12 (by decide) ?_
  refine lv_istore (lv' := [(7, .int 0), (6, .int x6_2), (5, .int x5_1), (0, .ref (q 4)), (1, .int p1), (2, .int p2), (3, .int p3), (4, .int p4)]) hx hb dX1_shortenRow_13 hl (by decide) rfl (fun ls hl => ?_)
  obtain ⟨gApartWithout_5, eL6, h⟩ := bnd1_some h
  have JX6 : ∀ (H : Heap) (locs : List Loc) (ls : Array Slot), GH D cI cZ layB q s ([iReadings, iAlterations, iRankings, iLetters, iCurrent, iDue, iSize, iLsize], [], [gCosts, gWorths, gMiddles, gApart, gApartWithout_5, gNeeded, gUps, gDowns, gKeys, gNexts, gShutKeys, aCodes, aPbegins, aPends, aPlengths, aBegins, aEnds, aLengths, aRanks, aRoadsByRank, aRow, aRanksBefore, aBusy, aOpen, aShut]) H locs → lv_has ls 9 [] → W p l e R s m args below meth c H locs 0 0 Q (F0 m 69 ls []) := by
    intro H locs ls hG hl
    cases h
    rw [hQ]
    exact g_vret X hT hG hr hlk dX1_shortenRow_69
  refine lpG_W (Wh := fun z => ∀ (H : Heap) (locs : List Loc) (ls : Array Slot), GH D cI cZ layB q s ([iReadings, iAlterations, iRankings, iLetters, iCurrent, iDue, iSize, iLsize], [], [gCosts, gWorths, gMiddles, gApart, z.2, gNeeded, gUps, gDowns, gKeys, gNexts, gShutKeys, aCodes, aPbegins, aPends, aPlengths, aBegins, aEnds, aLengths, aRanks, aRoadsByRank, aRow, aRanksBefore, aBusy, aOpen, aShut]) H locs → lv_has ls 9 [(0, .ref (q 4)), (3, .int p3), (4, .int p4), (5, .int x5_1), (6, .int x6_2), (7, .int (z.1))] → W p l e R s m args below meth c H locs 0 0 Q (F0 m 15 ls [])) ?_ fu _ eL6 H locs ls hG (lv_sub hl [3, 6, 7, 2, 1, 0] rfl)
  intro z rr6 hb6 hin6 hout6
  obtain ⟨x7_3, gApartWithout_4⟩ := z
  intro H locs ls hG hl
  have hb6 : f1_shortenRow_b1 p4 x6_2 p3 x5_1 x7_3 gApartWithout_4 = some rr6 := hb6
  have hG : GH D cI cZ layB q s ([iReadings, iAlterations, iRankings, iLetters, iCurrent, iDue, iSize, iLsize], [], [gCosts, gWorths, gMiddles, gApart, gApartWithout_4, gNeeded, gUps, gDowns, gKeys, gNexts, gShutKeys, aCodes, aPbegins, aPends, aPlengths, aBegins, aEnds, aLengths, aRanks, aRoadsByRank, aRow, aRanksBefore, aBusy, aOpen, aShut]) H locs := hG
  have hl : lv_has ls 9 [(0, .ref (q 4)), (3, .int p3), (4, .int p4), (5, .int x5_1), (6, .int x6_2), (7, .int x7_3)] := hl
  unfold f1_shortenRow_b1 at hb6
  refine lv_iload hx hb dX1_shortenRow_15 (lv_at hl 5 rfl) ?_
  refine lv_iload hx hb dX1_shortenRow_17 (lv_at hl 2 rfl) ?_
  refine lv_icmp_ge (tgt := 69) hx hb dX1_shortenRow_19 (by decide) (fun cb7 => ?_) (fun cb7 => ?_)
  · have hb6 := ite_t cb7 hb6
    have eo := hout6 _ (Option.some.inj hb6).symm
    cases eo
    exact JX6 H locs ls hG (lv_sub hl [] rfl)
  · have hb6 := ite_f cb7 hb6
    refine lv_iload_n hx hb dX1_shortenRow_22 rfl (lv_at hl 1 rfl) ?_
    refine lv_aload_n hx hb dX1_shortenRow_23 rfl (lv_at hl 0 rfl) ?_
    refine g_get (v := .ref (q 15)) X hT hG fl_X1_9 4 rfl rfl rfl dX1_shortenRow_24 ?_
    refine lv_iload hx hb dX1_shortenRow_27 (lv_at hl 4 rfl) ?_
    refine lv_iload hx hb dX1_shortenRow_29 (lv_at hl 5 rfl) ?_
    refine lv_iadd hx hb dX1_shortenRow_31 ?_
    obtain ⟨hi8, hb6⟩ := ckin_some hb6
    refine g_ald (f := gApartWithout_4) X hT hG 15 rfl rfl hi8 dX1_shortenRow_32 ?_
    refine lv_iadd hx hb dX1_shortenRow_33 ?_
    refine lv_topi (fun x8_9 ex8_9 => ?_)
    have hb6 := bd_e ex8_9 hb6
    refine lv_istore (lv' := [(8, .int x8_9), (0, .ref (q 4)), (3, .int p3), (4, .int p4), (5, .int x5_1), (6, .int x6_2), (7, .int x7_3)]) hx hb dX1_shortenRow_34 hl (by decide) rfl (fun ls hl => ?_)
    refine lv_iload hx hb dX1_shortenRow_36 (lv_at hl 0 rfl) ?_
    refine lv_aload_n hx hb dX1_shortenRow_38 rfl (lv_at hl 1 rfl) ?_
    refine g_get (v := .ref (q 15)) X hT hG fl_X1_9 4 rfl rfl rfl dX1_shortenRow_39 ?_
    refine lv_iload hx hb dX1_shortenRow_42 (lv_at hl 4 rfl) ?_
    refine lv_iload hx hb dX1_shortenRow_44 (lv_at hl 6 rfl) ?_
    refine lv_iadd hx hb dX1_shortenRow_46 ?_
    obtain ⟨hi10, hb6⟩ := ckin_some hb6
    refine g_ald (f := gApartWithout_4) X hT hG 15 rfl rfl hi10 dX1_shortenRow_47 ?_
    obtain ⟨gApartWithout_11, er12, hb6⟩ := bnd1_some hb6
    have J12 : ∀ (H : Heap) (locs : List Loc) (ls : Array Slot), GH D cI cZ layB q s ([iReadings, iAlterations, iRankings, iLetters, iCurrent, iDue, iSize, iLsize], [], [gCosts, gWorths, gMiddles, gApart, gApartWithout_11, gNeeded, gUps, gDowns, gKeys, gNexts, gShutKeys, aCodes, aPbegins, aPends, aPlengths, aBegins, aEnds, aLengths, aRanks, aRoadsByRank, aRow, aRanksBefore, aBusy, aOpen, aShut]) H locs → lv_has ls 9 [(0, .ref (q 4)), (3, .int p3), (4, .int p4), (5, .int x5_1), (6, .int x6_2), (7, .int x7_3)] → W p l e R s m args below meth c H locs 0 0 Q (F0 m 63 ls []) := by
      intro H locs ls hG hl
      obtain ⟨x7_16, ex7_16⟩ : ∃ z : Int32, z = x7_3 + 1 := ⟨_, rfl⟩
      have hb6 := bd_e ex7_16 hb6
      refine lv_iinc (v := x7_16) (lv' := [(7, .int x7_16), (0, .ref (q 4)), (3, .int p3), (4, .int p4), (5, .int x5_1), (6, .int x6_2)]) hx hb dX1_shortenRow_63 hl (k := 5) rfl (by rw [ex7_16]; rfl) (by decide) rfl (fun ls hl => ?_)
      refine lv_goto (tgt := 15) hx hb dX1_shortenRow_66 (by decide) ?_
      exact hin6 _ (Option.some.inj hb6).symm H locs ls hG (lv_sub hl [1, 2, 3, 4, 5, 0] rfl)
    refine lv_icmp_ge (tgt := 63) hx hb dX1_shortenRow_48 (by decide) (fun cb13 => ?_) (fun cb13 => ?_)
    · have er12 := ite_t cb13 er12
      cases er12
      exact J12 H locs ls hG (lv_sub hl [1, 2, 3, 4, 5, 6] rfl)
    · have er12 := ite_f cb13 er12
      refine lv_aload_n hx hb dX1_shortenRow_51 rfl (lv_at hl 1 rfl) ?_
      refine g_get (v := .ref (q 15)) X hT hG fl_X1_9 4 rfl rfl rfl dX1_shortenRow_52 ?_
      refine lv_iload hx hb dX1_shortenRow_55 (lv_at hl 4 rfl) ?_
      refine lv_iload hx hb dX1_shortenRow_57 (lv_at hl 6 rfl) ?_
      refine lv_iadd hx hb dX1_shortenRow_59 ?_
      refine lv_iload hx hb dX1_shortenRow_60 (lv_at hl 0 rfl) ?_
      obtain ⟨hi14, er12⟩ := ckin_some er12
      obtain ⟨gApartWithout_15, egApartWithout_15⟩ : ∃ z : Nat → Int32, z = upd gApartWithout_4 (x5_1 + x7_3).toNatClampNeg x8_9 := ⟨_, rfl⟩
      have er12 := bd_e egApartWithout_15 er12
      refine g_ast (w' := ([iReadings, iAlterations, iRankings, iLetters, iCurrent, iDue, iSize, iLsize], [], [gCosts, gWorths, gMiddles, gApart, gApartWithout_15, gNeeded, gUps, gDowns, gKeys, gNexts, gShutKeys, aCodes, aPbegins, aPends, aPlengths, aBegins, aEnds, aLengths, aRanks, aRoadsByRank, aRow, aRanksBefore, aBusy, aOpen, aShut])) X hT hq hG 15 rfl ga_B_gApartWithout (Nat.le_of_ble_eq_true rfl) hi14 (by subst egApartWithout_15; rfl) dX1_shortenRow_62 (fun H locs hG => ?_)
      cases er12
      exact J12 H locs ls hG (lv_sub hl [1, 2, 3, 4, 5, 6] rfl)
set_option maxHeartbeats 4000000 in
set_option maxRecDepth 100000 in
theorem c_X1_shorten_4 (hq : gJ layB q) {fu : Nat} {p1 : Int32} {o_gApartWithout : (Nat → Int32)} (h : f1_shorten fu p1 gApartWithout = some o_gApartWithout) :
    GM l yX1_shorten cX1_shorten 5 none 1 28 D cI cZ layB q [.ref (q 4), .int p1] ([iReadings, iAlterations, iRankings, iLetters, iCurrent, iDue, iSize, iLsize], [], [gCosts, gWorths, gMiddles, gApart, gApartWithout, gNeeded, gUps, gDowns, gKeys, gNexts, gShutKeys, aCodes, aPbegins, aPends, aPlengths, aBegins, aEnds, aLengths, aRanks, aRoadsByRank, aRow, aRanksBefore, aBusy, aOpen, aShut]) none ([iReadings, iAlterations, iRankings, iLetters, iCurrent, iDue, iSize, iLsize], [], [gCosts, gWorths, gMiddles, gApart, o_gApartWithout, gNeeded, gUps, gDowns, gKeys, gNexts, gShutKeys, aCodes, aPbegins, aPends, aPlengths, aBegins, aEnds, aLengths, aRanks, aRoadsByRank, aRow, aRanksBefore, aBusy, aOpen, aShut]) := by
  refine GM.go RX1 (by decide) rfl (Nat.le_of_ble_eq_true rfl) ?_
  intro p e s m args below meth c ls R Q H locs X hr hlk hT hG hl hR hQ
  have hx := X.1
  have hb := X.2.1
  have hl : lv_has ls 5 [(0, .ref (q 4)), (1, .int p1)] := hl
  unfold f1_shorten at h
  refine lv_iconst (v := 0) hx hb dX1_shorten_0 (by decide) ?_
  refine lv_istore_n (lv' := [(2, .int 0), (0, .ref (q 4)), (1, .int p1)]) hx hb dX1_shorten_1 rfl hl (by decide) rfl (fun ls hl => ?_)
  obtain ⟨gApartWithout_3, eL4, h⟩ := bnd1_some h
  have JX4 : ∀ (H : Heap) (locs : List Loc) (ls : Array Slot), GH D cI cZ layB q s ([iReadings, iAlterations, iRankings, iLetters, iCurrent, iDue, iSize, iLsize], [], [gCosts, gWorths, gMiddles, gApart, gApartWithout_3, gNeeded, gUps, gDowns, gKeys, gNexts, gShutKeys, aCodes, aPbegins, aPends, aPlengths, aBegins, aEnds, aLengths, aRanks, aRoadsByRank, aRow, aRanksBefore, aBusy, aOpen, aShut]) H locs → lv_has ls 5 [] → W p l e R s m args below meth c H locs 0 0 Q (F0 m 50 ls []) := by
    intro H locs ls hG hl
    cases h
    rw [hQ]
    exact g_vret X hT hG hr hlk dX1_shorten_50
  refine lpG_W (Wh := fun z => ∀ (H : Heap) (locs : List Loc) (ls : Array Slot), GH D cI cZ layB q s ([iReadings, iAlterations, iRankings, iLetters, iCurrent, iDue, iSize, iLsize], [], [gCosts, gWorths, gMiddles, gApart, z.2, gNeeded, gUps, gDowns, gKeys, gNexts, gShutKeys, aCodes, aPbegins, aPends, aPlengths, aBegins, aEnds, aLengths, aRanks, aRoadsByRank, aRow, aRanksBefore, aBusy, aOpen, aShut]) H locs → lv_has ls 5 [(0, .ref (q 4)), (1, .int p1), (2, .int (z.1))] → W p l e R s m args below meth c H locs 0 0 Q (F0 m 2 ls [])) ?_ fu _ eL4 H locs ls hG (lv_sub hl [1, 2, 0] rfl)
  intro z rr4 hb4 hin4 hout4
  obtain ⟨x2_1, gApartWithout_2⟩ := z
  intro H locs ls hG hl
  have hb4 : f1_shorten_b1 fu p1 x2_1 gApartWithout_2 = some rr4 := hb4
  have hG : GH D cI cZ layB q s ([iReadings, iAlterations, iRankings, iLetters, iCurrent, iDue, iSize, iLsize], [], [gCosts, gWorths, gMiddles, gApart, gApartWithout_2, gNeeded, gUps, gDowns, gKeys, gNexts, gShutKeys, aCodes, aPbegins, aPends, aPlengths, aBegins, aEnds, aLengths, aRanks, aRoadsByRank, aRow, aRanksBefore, aBusy, aOpen, aShut]) H locs := hG
  have hl : lv_has ls 5 [(0, .ref (q 4)), (1, .int p1), (2, .int x2_1)] := hl
  unfold f1_shorten_b1 at hb4
  refine lv_iload_n hx hb dX1_shorten_2 rfl (lv_at hl 2 rfl) ?_
  refine lv_iload_n hx hb dX1_shorten_3 rfl (lv_at hl 1 rfl) ?_
  refine lv_icmp_ge (tgt := 50) hx hb dX1_shorten_4 (by decide) (fun cb5 => ?_) (fun cb5 => ?_)
  · have hb4 := ite_t cb5 hb4
    have eo := hout4 _ (Option.some.inj hb4).symm
    cases eo
    exact JX4 H locs ls hG (lv_sub hl [] rfl)
  · have hb4 := ite_f cb5 hb4
    refine lv_iconst (v := 0) hx hb dX1_shorten_7 (by decide) ?_
    refine lv_istore_n (lv' := [(3, .int 0), (0, .ref (q 4)), (1, .int p1), (2, .int x2_1)]) hx hb dX1_shorten_8 rfl hl (by decide) rfl (fun ls hl => ?_)
    obtain ⟨gApartWithout_8, eL9, hb4⟩ := bnd1_some hb4
    have JX9 : ∀ (H : Heap) (locs : List Loc) (ls : Array Slot), GH D cI cZ layB q s ([iReadings, iAlterations, iRankings, iLetters, iCurrent, iDue, iSize, iLsize], [], [gCosts, gWorths, gMiddles, gApart, gApartWithout_8, gNeeded, gUps, gDowns, gKeys, gNexts, gShutKeys, aCodes, aPbegins, aPends, aPlengths, aBegins, aEnds, aLengths, aRanks, aRoadsByRank, aRow, aRanksBefore, aBusy, aOpen, aShut]) H locs → lv_has ls 5 [(0, .ref (q 4)), (1, .int p1), (2, .int x2_1)] → W p l e R s m args below meth c H locs 0 0 Q (F0 m 44 ls []) := by
      intro H locs ls hG hl
      obtain ⟨x2_19, ex2_19⟩ : ∃ z : Int32, z = x2_1 + 1 := ⟨_, rfl⟩
      have hb4 := bd_e ex2_19 hb4
      refine lv_iinc (v := x2_19) (lv' := [(2, .int x2_19), (0, .ref (q 4)), (1, .int p1)]) hx hb dX1_shorten_44 hl (k := 2) rfl (by rw [ex2_19]; rfl) (by decide) rfl (fun ls hl => ?_)
      refine lv_goto (tgt := 2) hx hb dX1_shorten_47 (by decide) ?_
      exact hin4 _ (Option.some.inj hb4).symm H locs ls hG (lv_sub hl [1, 2, 0] rfl)
    refine lpG_W (Wh := fun z => ∀ (H : Heap) (locs : List Loc) (ls : Array Slot), GH D cI cZ layB q s ([iReadings, iAlterations, iRankings, iLetters, iCurrent, iDue, iSize, iLsize], [], [gCosts, gWorths, gMiddles, gApart, z.2, gNeeded, gUps, gDowns, gKeys, gNexts, gShutKeys, aCodes, aPbegins, aPends, aPlengths, aBegins, aEnds, aLengths, aRanks, aRoadsByRank, aRow, aRanksBefore, aBusy, aOpen, aShut]) H locs → lv_has ls 5 [(0, .ref (q 4)), (1, .int p1), (2, .int x2_1), (3, .int (z.1))] → W p l e R s m args below meth c H locs 0 0 Q (F0 m 9 ls [])) ?_ fu _ eL9 H locs ls hG (lv_sub hl [1, 2, 3, 0] rfl)
    intro z rr9 hb9 hin9 hout9
    obtain ⟨x3_6, gApartWithout_7⟩ := z
    intro H locs ls hG hl
    have hb9 : f1_shorten_b2 fu p1 x2_1 x3_6 gApartWithout_7 = some rr9 := hb9
    have hG : GH D cI cZ layB q s ([iReadings, iAlterations, iRankings, iLetters, iCurrent, iDue, iSize, iLsize], [], [gCosts, gWorths, gMiddles, gApart, gApartWithout_7, gNeeded, gUps, gDowns, gKeys, gNexts, gShutKeys, aCodes, aPbegins, aPends, aPlengths, aBegins, aEnds, aLengths, aRanks, aRoadsByRank, aRow, aRanksBefore, aBusy, aOpen, aShut]) H locs := hG
    have hl : lv_has ls 5 [(0, .ref (q 4)), (1, .int p1), (2, .int x2_1), (3, .int x3_6)] := hl
    unfold f1_shorten_b2 at hb9
    refine lv_iload_n hx hb dX1_shorten_9 rfl (lv_at hl 3 rfl) ?_
    refine lv_iload_n hx hb dX1_shorten_10 rfl (lv_at hl 1 rfl) ?_
    refine lv_icmp_ge (tgt := 44) hx hb dX1_shorten_11 (by decide) (fun cb10 => ?_) (fun cb10 => ?_)
    · have hb9 := ite_t cb10 hb9
      have eo := hout9 _ (Option.some.inj hb9).symm
      cases eo
      exact JX9 H locs ls hG (lv_sub hl [0, 1, 2] rfl)
    · have hb9 := ite_f cb10 hb9
      refine lv_aload_n hx hb dX1_shorten_14 rfl (lv_at hl 0 rfl) ?_
      refine lv_iload_n hx hb dX1_shorten_15 rfl (lv_at hl 3 rfl) ?_
      refine lv_iload_n hx hb dX1_shorten_16 rfl (lv_at hl 2 rfl) ?_
      obtain ⟨r_11, ec12, hb9⟩ := bnd1_some hb9
      refine g_callVr [.int x3_6, .int x2_1] [] 4 X hT hG ml_X1_15 (c_X1_get_4 hq ec12) rfl rfl rfl rfl rfl hl.1 (Nat.le_of_ble_eq_true rfl) (by rw [hR]; exact ⟨Nat.le_of_ble_eq_true rfl, Nat.le_of_ble_eq_true rfl⟩) dX1_shorten_17 (fun H locs hG => ?_)
      refine lv_istore (lv' := [(4, .int r_11), (0, .ref (q 4)), (1, .int p1), (2, .int x2_1), (3, .int x3_6)]) hx hb dX1_shorten_20 hl (by decide) rfl (fun ls hl => ?_)
      refine lv_iload hx hb dX1_shorten_22 (lv_at hl 0 rfl) ?_
      refine lv_ldc (v := 268435456) hx hb X.2.2.2.1 (X.2.2.2.2 _ cn_X1_19) dX1_shorten_24 ?_
      obtain ⟨gApartWithout_13, er14, hb9⟩ := bnd1_some hb9
      have J14 : ∀ (H : Heap) (locs : List Loc) (ls : Array Slot), GH D cI cZ layB q s ([iReadings, iAlterations, iRankings, iLetters, iCurrent, iDue, iSize, iLsize], [], [gCosts, gWorths, gMiddles, gApart, gApartWithout_13, gNeeded, gUps, gDowns, gKeys, gNexts, gShutKeys, aCodes, aPbegins, aPends, aPlengths, aBegins, aEnds, aLengths, aRanks, aRoadsByRank, aRow, aRanksBefore, aBusy, aOpen, aShut]) H locs → lv_has ls 5 [(0, .ref (q 4)), (1, .int p1), (2, .int x2_1), (3, .int x3_6)] → W p l e R s m args below meth c H locs 0 0 Q (F0 m 38 ls []) := by
        intro H locs ls hG hl
        obtain ⟨x3_18, ex3_18⟩ : ∃ z : Int32, z = x3_6 + 1 := ⟨_, rfl⟩
        have hb9 := bd_e ex3_18 hb9
        refine lv_iinc (v := x3_18) (lv' := [(3, .int x3_18), (0, .ref (q 4)), (1, .int p1), (2, .int x2_1)]) hx hb dX1_shorten_38 hl (k := 3) rfl (by rw [ex3_18]; rfl) (by decide) rfl (fun ls hl => ?_)
        refine lv_goto (tgt := 9) hx hb dX1_shorten_41 (by decide) ?_
        exact hin9 _ (Option.some.inj hb9).symm H locs ls hG (lv_sub hl [1, 2, 3, 0] rfl)
      refine lv_icmp_ge (tgt := 38) hx hb dX1_shorten_26 (by decide) (fun cb15 => ?_) (fun cb15 => ?_)
      · have er14 := ite_t cb15 er14
        cases er14
        exact J14 H locs ls hG (lv_sub hl [1, 2, 3, 4] rfl)
      · have er14 := ite_f cb15 er14
        refine lv_aload_n hx hb dX1_shorten_29 rfl (lv_at hl 1 rfl) ?_
        refine lv_iload_n hx hb dX1_shorten_30 rfl (lv_at hl 4 rfl) ?_
        refine lv_iload_n hx hb dX1_shorten_31 rfl (lv_at hl 3 rfl) ?_
        refine lv_iload hx hb dX1_shorten_32 (lv_at hl 0 rfl) ?_
        refine lv_iload_n hx hb dX1_shorten_34 rfl (lv_at hl 2 rfl) ?_
        obtain ⟨gApartWithout_16, ec17, er14⟩ := bnd1_some er14
        refine g_callVv [.int x3_6, .int x2_1, .int r_11, .int p1] [] 4 X hT hG ml_X1_20 (c_X1_shortenRow_4 hq ec17) rfl rfl rfl rfl rfl hl.1 (Nat.le_of_ble_eq_true rfl) (by rw [hR]; exact ⟨Nat.le_of_ble_eq_true rfl, Nat.le_of_ble_eq_true rfl⟩) dX1_shorten_35 (fun H locs hG => ?_)
        have hG : GH D cI cZ layB q s ([iReadings, iAlterations, iRankings, iLetters, iCurrent, iDue, iSize, iLsize], [], [gCosts, gWorths, gMiddles, gApart, gApartWithout_16, gNeeded, gUps, gDowns, gKeys, gNexts, gShutKeys, aCodes, aPbegins, aPends, aPlengths, aBegins, aEnds, aLengths, aRanks, aRoadsByRank, aRow, aRanksBefore, aBusy, aOpen, aShut]) H locs := hG
        cases er14
        exact J14 H locs ls hG (lv_sub hl [1, 2, 3, 4] rfl)
set_option maxHeartbeats 4000000 in
set_option maxRecDepth 100000 in
theorem c_X2_measureFree_25_4 (hq : gJ layB q) {fu : Nat} {p1 : Int32} {o_gApartWithout : (Nat → Int32)} (h : f2_measureFree fu iLsize aRanks p1 gWorths gApartWithout = some o_gApartWithout) :
    GM l yX2_measureFree cX2_measureFree 6 none 2 52 D cI cZ layB q [.ref (q 25), .ref (q 4), .int p1] ([iReadings, iAlterations, iRankings, iLetters, iCurrent, iDue, iSize, iLsize], [], [gCosts, gWorths, gMiddles, gApart, gApartWithout, gNeeded, gUps, gDowns, gKeys, gNexts, gShutKeys, aCodes, aPbegins, aPends, aPlengths, aBegins, aEnds, aLengths, aRanks, aRoadsByRank, aRow, aRanksBefore, aBusy, aOpen, aShut]) none ([iReadings, iAlterations, iRankings, iLetters, iCurrent, iDue, iSize, iLsize], [], [gCosts, gWorths, gMiddles, gApart, o_gApartWithout, gNeeded, gUps, gDowns, gKeys, gNexts, gShutKeys, aCodes, aPbegins, aPends, aPlengths, aBegins, aEnds, aLengths, aRanks, aRoadsByRank, aRow, aRanksBefore, aBusy, aOpen, aShut]) := by
  refine GM.go RX2 (by decide) rfl (Nat.le_of_ble_eq_true rfl) ?_
  intro p e s m args below meth c ls R Q H locs X hr hlk hT hG hl hR hQ
  have hx := X.1
  have hb := X.2.1
  have hl : lv_has ls 6 [(0, .ref (q 25)), (1, .ref (q 4)), (2, .int p1)] := hl
  unfold f2_measureFree at h
  refine lv_iconst (v := 0) hx hb dX2_measureFree_0 (by decide) ?_
  refine lv_istore_n (lv' := [(3, .int 0), (0, .ref (q 25)), (1, .ref (q 4)), (2, .int p1)]) hx hb dX2_measureFree_1 rfl hl (by decide) rfl (fun ls hl => ?_)
  obtain ⟨gApartWithout_3, eL4, h⟩ := bnd1_some h
  have JX4 : ∀ (H : Heap) (locs : List Loc) (ls : Array Slot), GH D cI cZ layB q s ([iReadings, iAlterations, iRankings, iLetters, iCurrent, iDue, iSize, iLsize], [], [gCosts, gWorths, gMiddles, gApart, gApartWithout_3, gNeeded, gUps, gDowns, gKeys, gNexts, gShutKeys, aCodes, aPbegins, aPends, aPlengths, aBegins, aEnds, aLengths, aRanks, aRoadsByRank, aRow, aRanksBefore, aBusy, aOpen, aShut]) H locs → lv_has ls 6 [(0, .ref (q 25)), (1, .ref (q 4))] → W p l e R s m args below meth c H locs 0 0 Q (F0 m 96 ls []) := by
    intro H locs ls hG hl
    refine lv_aload_n hx hb dX2_measureFree_96 rfl (lv_at hl 1 rfl) ?_
    refine lv_aload_n hx hb dX2_measureFree_97 rfl (lv_at hl 0 rfl) ?_
    refine g_get (v := .int iLsize) X hT hG fl_X2_47 25 rfl rfl rfl dX2_measureFree_98 ?_
    obtain ⟨gApartWithout_30, ec31, h⟩ := bnd1_some h
    refine g_callVv [.int iLsize] [] 4 X hT hG ml_X2_88 (c_X1_shorten_4 hq ec31) rfl rfl rfl rfl rfl hl.1 (Nat.le_of_ble_eq_true rfl) (by rw [hR]; exact ⟨Nat.le_of_ble_eq_true rfl, Nat.le_of_ble_eq_true rfl⟩) dX2_measureFree_101 (fun H locs hG => ?_)
    have hG : GH D cI cZ layB q s ([iReadings, iAlterations, iRankings, iLetters, iCurrent, iDue, iSize, iLsize], [], [gCosts, gWorths, gMiddles, gApart, gApartWithout_30, gNeeded, gUps, gDowns, gKeys, gNexts, gShutKeys, aCodes, aPbegins, aPends, aPlengths, aBegins, aEnds, aLengths, aRanks, aRoadsByRank, aRow, aRanksBefore, aBusy, aOpen, aShut]) H locs := hG
    cases h
    rw [hQ]
    exact g_vret X hT hG hr hlk dX2_measureFree_104
  refine lpG_W (Wh := fun z => ∀ (H : Heap) (locs : List Loc) (ls : Array Slot), GH D cI cZ layB q s ([iReadings, iAlterations, iRankings, iLetters, iCurrent, iDue, iSize, iLsize], [], [gCosts, gWorths, gMiddles, gApart, z.2, gNeeded, gUps, gDowns, gKeys, gNexts, gShutKeys, aCodes, aPbegins, aPends, aPlengths, aBegins, aEnds, aLengths, aRanks, aRoadsByRank, aRow, aRanksBefore, aBusy, aOpen, aShut]) H locs → lv_has ls 6 [(0, .ref (q 25)), (1, .ref (q 4)), (2, .int p1), (3, .int (z.1))] → W p l e R s m args below meth c H locs 0 0 Q (F0 m 2 ls [])) ?_ fu _ eL4 H locs ls hG (lv_sub hl [1, 2, 3, 0] rfl)
  intro z rr4 hb4 hin4 hout4
  obtain ⟨x3_1, gApartWithout_2⟩ := z
  intro H locs ls hG hl
  have hb4 : f2_measureFree_b1 fu iLsize aRanks p1 gWorths x3_1 gApartWithout_2 = some rr4 := hb4
  have hG : GH D cI cZ layB q s ([iReadings, iAlterations, iRankings, iLetters, iCurrent, iDue, iSize, iLsize], [], [gCosts, gWorths, gMiddles, gApart, gApartWithout_2, gNeeded, gUps, gDowns, gKeys, gNexts, gShutKeys, aCodes, aPbegins, aPends, aPlengths, aBegins, aEnds, aLengths, aRanks, aRoadsByRank, aRow, aRanksBefore, aBusy, aOpen, aShut]) H locs := hG
  have hl : lv_has ls 6 [(0, .ref (q 25)), (1, .ref (q 4)), (2, .int p1), (3, .int x3_1)] := hl
  unfold f2_measureFree_b1 at hb4
  refine lv_iload_n hx hb dX2_measureFree_2 rfl (lv_at hl 3 rfl) ?_
  refine lv_aload_n hx hb dX2_measureFree_3 rfl (lv_at hl 0 rfl) ?_
  refine g_get (v := .int iLsize) X hT hG fl_X2_47 25 rfl rfl rfl dX2_measureFree_4 ?_
  refine lv_icmp_ge (tgt := 96) hx hb dX2_measureFree_7 (by decide) (fun cb5 => ?_) (fun cb5 => ?_)
  · have hb4 := ite_t cb5 hb4
    have eo := hout4 _ (Option.some.inj hb4).symm
    cases eo
    exact JX4 H locs ls hG (lv_sub hl [0, 1] rfl)
  · have hb4 := ite_f cb5 hb4
    refine lv_iconst (v := 0) hx hb dX2_measureFree_10 (by decide) ?_
    refine lv_istore (lv' := [(4, .int 0), (0, .ref (q 25)), (1, .ref (q 4)), (2, .int p1), (3, .int x3_1)]) hx hb dX2_measureFree_11 hl (by decide) rfl (fun ls hl => ?_)
    obtain ⟨gApartWithout_8, eL9, hb4⟩ := bnd1_some hb4
    have JX9 : ∀ (H : Heap) (locs : List Loc) (ls : Array Slot), GH D cI cZ layB q s ([iReadings, iAlterations, iRankings, iLetters, iCurrent, iDue, iSize, iLsize], [], [gCosts, gWorths, gMiddles, gApart, gApartWithout_8, gNeeded, gUps, gDowns, gKeys, gNexts, gShutKeys, aCodes, aPbegins, aPends, aPlengths, aBegins, aEnds, aLengths, aRanks, aRoadsByRank, aRow, aRanksBefore, aBusy, aOpen, aShut]) H locs → lv_has ls 6 [(0, .ref (q 25)), (1, .ref (q 4)), (2, .int p1), (3, .int x3_1)] → W p l e R s m args below meth c H locs 0 0 Q (F0 m 90 ls []) := by
      intro H locs ls hG hl
      obtain ⟨x3_29, ex3_29⟩ : ∃ z : Int32, z = x3_1 + 1 := ⟨_, rfl⟩
      have hb4 := bd_e ex3_29 hb4
      refine lv_iinc (v := x3_29) (lv' := [(3, .int x3_29), (0, .ref (q 25)), (1, .ref (q 4)), (2, .int p1)]) hx hb dX2_measureFree_90 hl (k := 3) rfl (by rw [ex3_29]; rfl) (by decide) rfl (fun ls hl => ?_)
      refine lv_goto (tgt := 2) hx hb dX2_measureFree_93 (by decide) ?_
      exact hin4 _ (Option.some.inj hb4).symm H locs ls hG (lv_sub hl [1, 2, 3, 0] rfl)
    refine lpG_W (Wh := fun z => ∀ (H : Heap) (locs : List Loc) (ls : Array Slot), GH D cI cZ layB q s ([iReadings, iAlterations, iRankings, iLetters, iCurrent, iDue, iSize, iLsize], [], [gCosts, gWorths, gMiddles, gApart, z.2, gNeeded, gUps, gDowns, gKeys, gNexts, gShutKeys, aCodes, aPbegins, aPends, aPlengths, aBegins, aEnds, aLengths, aRanks, aRoadsByRank, aRow, aRanksBefore, aBusy, aOpen, aShut]) H locs → lv_has ls 6 [(0, .ref (q 25)), (1, .ref (q 4)), (2, .int p1), (3, .int x3_1), (4, .int (z.1))] → W p l e R s m args below meth c H locs 0 0 Q (F0 m 13 ls [])) ?_ fu _ eL9 H locs ls hG (lv_sub hl [1, 2, 3, 4, 0] rfl)
    intro z rr9 hb9 hin9 hout9
    obtain ⟨x4_6, gApartWithout_7⟩ := z
    intro H locs ls hG hl
    have hb9 : f2_measureFree_b2 iLsize x3_1 aRanks p1 gWorths x4_6 gApartWithout_7 = some rr9 := hb9
    have hG : GH D cI cZ layB q s ([iReadings, iAlterations, iRankings, iLetters, iCurrent, iDue, iSize, iLsize], [], [gCosts, gWorths, gMiddles, gApart, gApartWithout_7, gNeeded, gUps, gDowns, gKeys, gNexts, gShutKeys, aCodes, aPbegins, aPends, aPlengths, aBegins, aEnds, aLengths, aRanks, aRoadsByRank, aRow, aRanksBefore, aBusy, aOpen, aShut]) H locs := hG
    have hl : lv_has ls 6 [(0, .ref (q 25)), (1, .ref (q 4)), (2, .int p1), (3, .int x3_1), (4, .int x4_6)] := hl
    unfold f2_measureFree_b2 at hb9
    refine lv_iload hx hb dX2_measureFree_13 (lv_at hl 4 rfl) ?_
    refine lv_aload_n hx hb dX2_measureFree_15 rfl (lv_at hl 0 rfl) ?_
    refine g_get (v := .int iLsize) X hT hG fl_X2_47 25 rfl rfl rfl dX2_measureFree_16 ?_
    refine lv_icmp_ge (tgt := 90) hx hb dX2_measureFree_19 (by decide) (fun cb10 => ?_) (fun cb10 => ?_)
    · have hb9 := ite_t cb10 hb9
      have eo := hout9 _ (Option.some.inj hb9).symm
      cases eo
      exact JX9 H locs ls hG (lv_sub hl [0, 1, 2, 3] rfl)
    · have hb9 := ite_f cb10 hb9
      refine lv_aload_n hx hb dX2_measureFree_22 rfl (lv_at hl 0 rfl) ?_
      refine lv_iload_n hx hb dX2_measureFree_23 rfl (lv_at hl 3 rfl) ?_
      obtain ⟨r_11, ec12, hb9⟩ := bnd1_some hb9
      refine g_callVr [.int x3_1] [] 25 X hT hG ml_X2_80 (c_X2_isFree hq ec12) rfl rfl rfl rfl rfl hl.1 (Nat.le_of_ble_eq_true rfl) (by rw [hR]; exact ⟨Nat.le_of_ble_eq_true rfl, Nat.le_of_ble_eq_true rfl⟩) dX2_measureFree_24 (fun H locs hG => ?_)
      obtain ⟨y_13, er14, hb9⟩ := bnd1_some hb9
      have J14 : ∀ (H : Heap) (locs : List Loc) (ls : Array Slot), GH D cI cZ layB q s ([iReadings, iAlterations, iRankings, iLetters, iCurrent, iDue, iSize, iLsize], [], [gCosts, gWorths, gMiddles, gApart, gApartWithout_7, gNeeded, gUps, gDowns, gKeys, gNexts, gShutKeys, aCodes, aPbegins, aPends, aPlengths, aBegins, aEnds, aLengths, aRanks, aRoadsByRank, aRow, aRanksBefore, aBusy, aOpen, aShut]) H locs → lv_has ls 6 [(0, .ref (q 25)), (1, .ref (q 4)), (2, .int p1), (3, .int x3_1), (4, .int x4_6)] → W p l e R s m args below meth c H locs 0 0 Q (F0 m 55 ls [.int y_13]) := by
        intro H locs ls hG hl
        refine lv_istore (lv' := [(5, .int y_13), (0, .ref (q 25)), (1, .ref (q 4)), (2, .int p1), (3, .int x3_1), (4, .int x4_6)]) hx hb dX2_measureFree_55 hl (by decide) rfl (fun ls hl => ?_)
        refine lv_aload_n hx hb dX2_measureFree_57 rfl (lv_at hl 2 rfl) ?_
        refine lv_iload_n hx hb dX2_measureFree_58 rfl (lv_at hl 4 rfl) ?_
        refine lv_iload hx hb dX2_measureFree_59 (lv_at hl 5 rfl) ?_
        refine lv_iload hx hb dX2_measureFree_61 (lv_at hl 0 rfl) ?_
        obtain ⟨y_21, er22, hb9⟩ := bnd1_some hb9
        have J22 : ∀ (H : Heap) (locs : List Loc) (ls : Array Slot), GH D cI cZ layB q s ([iReadings, iAlterations, iRankings, iLetters, iCurrent, iDue, iSize, iLsize], [], [gCosts, gWorths, gMiddles, gApart, gApartWithout_7, gNeeded, gUps, gDowns, gKeys, gNexts, gShutKeys, aCodes, aPbegins, aPends, aPlengths, aBegins, aEnds, aLengths, aRanks, aRoadsByRank, aRow, aRanksBefore, aBusy, aOpen, aShut]) H locs → lv_has ls 6 [(0, .ref (q 25)), (1, .ref (q 4)), (2, .int p1), (3, .int x3_1), (4, .int x4_6)] → W p l e R s m args below meth c H locs 0 0 Q (F0 m 81 ls [.int y_21, .int x4_6, .int x3_1, .ref (q 4)]) := by
          intro H locs ls hG hl
          obtain ⟨gApartWithout_26, ec27, hb9⟩ := bnd1_some hb9
          refine g_callVv [.int x3_1, .int x4_6, .int y_21] [] 4 X hT hG ml_X2_76 (c_X1_set_4 hq ec27) rfl rfl rfl rfl rfl hl.1 (Nat.le_of_ble_eq_true rfl) (by rw [hR]; exact ⟨Nat.le_of_ble_eq_true rfl, Nat.le_of_ble_eq_true rfl⟩) dX2_measureFree_81 (fun H locs hG => ?_)
          have hG : GH D cI cZ layB q s ([iReadings, iAlterations, iRankings, iLetters, iCurrent, iDue, iSize, iLsize], [], [gCosts, gWorths, gMiddles, gApart, gApartWithout_26, gNeeded, gUps, gDowns, gKeys, gNexts, gShutKeys, aCodes, aPbegins, aPends, aPlengths, aBegins, aEnds, aLengths, aRanks, aRoadsByRank, aRow, aRanksBefore, aBusy, aOpen, aShut]) H locs := hG
          obtain ⟨x4_28, ex4_28⟩ : ∃ z : Int32, z = x4_6 + 1 := ⟨_, rfl⟩
          have hb9 := bd_e ex4_28 hb9
          refine lv_iinc (v := x4_28) (lv' := [(4, .int x4_28), (0, .ref (q 25)), (1, .ref (q 4)), (2, .int p1), (3, .int x3_1)]) hx hb dX2_measureFree_84 hl (k := 4) rfl (by rw [ex4_28]; rfl) (by decide) rfl (fun ls hl => ?_)
          refine lv_goto (tgt := 13) hx hb dX2_measureFree_87 (by decide) ?_
          exact hin9 _ (Option.some.inj hb9).symm H locs ls hG (lv_sub hl [1, 2, 3, 4, 0] rfl)
        refine lv_if_eq (tgt := 79) hx hb dX2_measureFree_63 (by decide) (fun cb23 => ?_) (fun cb23 => ?_)
        · have er22 := ite_t cb23 er22
          refine lv_ldc (v := 268435456) hx hb X.2.2.2.1 (X.2.2.2.2 _ cn_X2_87) dX2_measureFree_79 ?_
          cases er22
          exact J22 H locs ls hG (lv_sub hl [1, 2, 3, 4, 5] rfl)
        · have er22 := ite_f cb23 er22
          refine lv_aload_n hx hb dX2_measureFree_66 rfl (lv_at hl 1 rfl) ?_
          refine g_get (v := .ref (q 1)) X hT hG fl_X2_12 25 rfl rfl rfl dX2_measureFree_67 ?_
          refine lv_iload_n hx hb dX2_measureFree_70 rfl (lv_at hl 4 rfl) ?_
          refine lv_iload hx hb dX2_measureFree_71 (lv_at hl 5 rfl) ?_
          obtain ⟨r_24, ec25, er22⟩ := bnd1_some er22
          refine g_callVr [.int x3_1, .int x4_6] [.int x4_6, .int x3_1, .ref (q 4)] 1 X hT hG ml_X2_84 (c_X1_get_1 hq ec25) rfl rfl rfl rfl rfl hl.1 (Nat.le_of_ble_eq_true rfl) (by rw [hR]; exact ⟨Nat.le_of_ble_eq_true rfl, Nat.le_of_ble_eq_true rfl⟩) dX2_measureFree_73 (fun H locs hG => ?_)
          refine lv_goto (tgt := 81) hx hb dX2_measureFree_76 (by decide) ?_
          cases er22
          exact J22 H locs ls hG (lv_sub hl [1, 2, 3, 4, 5] rfl)
      refine lv_if_eq (tgt := 54) hx hb dX2_measureFree_27 (by decide) (fun cb15 => ?_) (fun cb15 => ?_)
      · have er14 := ite_t cb15 er14
        refine lv_iconst (v := 0) hx hb dX2_measureFree_54 (by decide) ?_
        cases er14
        exact J14 H locs ls hG (lv_sub hl [0, 1, 2, 3, 4] rfl)
      · have er14 := ite_f cb15 er14
        refine lv_aload_n hx hb dX2_measureFree_30 rfl (lv_at hl 0 rfl) ?_
        refine lv_iload hx hb dX2_measureFree_31 (lv_at hl 4 rfl) ?_
        obtain ⟨r_16, ec17, er14⟩ := bnd1_some er14
        refine g_callVr [.int x4_6] [] 25 X hT hG ml_X2_80 (c_X2_isFree hq ec17) rfl rfl rfl rfl rfl hl.1 (Nat.le_of_ble_eq_true rfl) (by rw [hR]; exact ⟨Nat.le_of_ble_eq_true rfl, Nat.le_of_ble_eq_true rfl⟩) dX2_measureFree_33 (fun H locs hG => ?_)
        refine lv_if_eq (tgt := 54) hx hb dX2_measureFree_36 (by decide) (fun cb18 => ?_) (fun cb18 => ?_)
        · have er14 := ite_t cb18 er14
          refine lv_iconst (v := 0) hx hb dX2_measureFree_54 (by decide) ?_
          cases er14
          exact J14 H locs ls hG (lv_sub hl [0, 1, 2, 3, 4] rfl)
        · have er14 := ite_f cb18 er14
          refine lv_iload_n hx hb dX2_measureFree_39 rfl (lv_at hl 3 rfl) ?_
          refine lv_iload_n hx hb dX2_measureFree_40 rfl (lv_at hl 2 rfl) ?_
          refine lv_icmp_eq (tgt := 54) hx hb dX2_measureFree_41 (by decide) (fun cb19 => ?_) (fun cb19 => ?_)
          · have er14 := ite_t cb19 er14
            refine lv_iconst (v := 0) hx hb dX2_measureFree_54 (by decide) ?_
            cases er14
            exact J14 H locs ls hG (lv_sub hl [0, 1, 2, 3, 4] rfl)
          · have er14 := ite_f cb19 er14
            refine lv_iload hx hb dX2_measureFree_44 (lv_at hl 4 rfl) ?_
            refine lv_iload_n hx hb dX2_measureFree_46 rfl (lv_at hl 2 rfl) ?_
            refine lv_icmp_eq (tgt := 54) hx hb dX2_measureFree_47 (by decide) (fun cb20 => ?_) (fun cb20 => ?_)
            · have er14 := ite_t cb20 er14
              refine lv_iconst (v := 0) hx hb dX2_measureFree_54 (by decide) ?_
              cases er14
              exact J14 H locs ls hG (lv_sub hl [0, 1, 2, 3, 4] rfl)
            · have er14 := ite_f cb20 er14
              refine lv_iconst (v := 1) hx hb dX2_measureFree_50 (by decide) ?_
              refine lv_goto (tgt := 55) hx hb dX2_measureFree_51 (by decide) ?_
              cases er14
              exact J14 H locs ls hG (lv_sub hl [0, 1, 2, 3, 4] rfl)
def f2_hasArc (p1 : Int32) (p2 : Int32) (gWorths : (Nat → Int32)) : Option (Int32) :=
  bnd1 (f1_get p1 p2 gWorths) fun (r_1 : Int32) => bnd1 (if 268435456 ≤ r_1 then (some 0) else some 1) fun (y_3 : Int32) => ckb y_3 (some y_3)
set_option maxHeartbeats 4000000 in
set_option maxRecDepth 100000 in
theorem c_X2_hasArc (hq : gJ layB q) {p1 : Int32} {p2 : Int32} {o_r : Int32} (h : f2_hasArc p1 p2 gWorths = some o_r) :
    GM l yX2_hasArc cX2_hasArc 3 (some .boolean) 1 22 D cI cZ layB q [.ref (q 25), .int p1, .int p2] ([iReadings, iAlterations, iRankings, iLetters, iCurrent, iDue, iSize, iLsize], [], [gCosts, gWorths, gMiddles, gApart, gApartWithout, gNeeded, gUps, gDowns, gKeys, gNexts, gShutKeys, aCodes, aPbegins, aPends, aPlengths, aBegins, aEnds, aLengths, aRanks, aRoadsByRank, aRow, aRanksBefore, aBusy, aOpen, aShut]) (some (.int o_r)) ([iReadings, iAlterations, iRankings, iLetters, iCurrent, iDue, iSize, iLsize], [], [gCosts, gWorths, gMiddles, gApart, gApartWithout, gNeeded, gUps, gDowns, gKeys, gNexts, gShutKeys, aCodes, aPbegins, aPends, aPlengths, aBegins, aEnds, aLengths, aRanks, aRoadsByRank, aRow, aRanksBefore, aBusy, aOpen, aShut]) := by
  refine GM.go RX2 (by decide) rfl (Nat.le_of_ble_eq_true rfl) ?_
  intro p e s m args below meth c ls R Q H locs X hr hlk hT hG hl hR hQ
  have hx := X.1
  have hb := X.2.1
  have hl : lv_has ls 3 [(0, .ref (q 25)), (1, .int p1), (2, .int p2)] := hl
  unfold f2_hasArc at h
  refine lv_aload_n hx hb dX2_hasArc_0 rfl (lv_at hl 0 rfl) ?_
  refine g_get (v := .ref (q 1)) X hT hG fl_X2_12 25 rfl rfl rfl dX2_hasArc_1 ?_
  refine lv_iload_n hx hb dX2_hasArc_4 rfl (lv_at hl 1 rfl) ?_
  refine lv_iload_n hx hb dX2_hasArc_5 rfl (lv_at hl 2 rfl) ?_
  obtain ⟨r_1, ec2, h⟩ := bnd1_some h
  refine g_callVr [.int p1, .int p2] [] 1 X hT hG ml_X2_84 (c_X1_get_1 hq ec2) rfl rfl rfl rfl rfl hl.1 (Nat.le_of_ble_eq_true rfl) (by rw [hR]; exact ⟨Nat.le_of_ble_eq_true rfl, Nat.le_of_ble_eq_true rfl⟩) dX2_hasArc_6 (fun H locs hG => ?_)
  refine lv_ldc (v := 268435456) hx hb X.2.2.2.1 (X.2.2.2.2 _ cn_X2_87) dX2_hasArc_9 ?_
  obtain ⟨y_3, er4, h⟩ := bnd1_some h
  have J4 : ∀ (H : Heap) (locs : List Loc) (ls : Array Slot), GH D cI cZ layB q s ([iReadings, iAlterations, iRankings, iLetters, iCurrent, iDue, iSize, iLsize], [], [gCosts, gWorths, gMiddles, gApart, gApartWithout, gNeeded, gUps, gDowns, gKeys, gNexts, gShutKeys, aCodes, aPbegins, aPends, aPlengths, aBegins, aEnds, aLengths, aRanks, aRoadsByRank, aRow, aRanksBefore, aBusy, aOpen, aShut]) H locs → lv_has ls 3 [] → W p l e R s m args below meth c H locs 0 0 Q (F0 m 19 ls [.int y_3]) := by
    intro H locs ls hG hl
    obtain ⟨hz, h⟩ := ckb_some h
    cases h
    rw [hQ]
    exact g_zret X hT hG hr hlk hz dX2_hasArc_19
  refine lv_icmp_ge (tgt := 18) hx hb dX2_hasArc_11 (by decide) (fun cb5 => ?_) (fun cb5 => ?_)
  · have er4 := ite_t cb5 er4
    refine lv_iconst (v := 0) hx hb dX2_hasArc_18 (by decide) ?_
    cases er4
    exact J4 H locs ls hG (lv_sub hl [] rfl)
  · have er4 := ite_f cb5 er4
    refine lv_iconst (v := 1) hx hb dX2_hasArc_14 (by decide) ?_
    refine lv_goto (tgt := 19) hx hb dX2_hasArc_15 (by decide) ?_
    cases er4
    exact J4 H locs ls hG (lv_sub hl [] rfl)
def f2_isNeeded (p1 : Int32) (p2 : Int32) (p3 : Int32) (aRanks : (Nat → Int32)) (gWorths : (Nat → Int32)) (gApart : (Nat → Int32)) (gApartWithout : (Nat → Int32)) : Option (Int32) :=
  if p1 = p2 then (some 0) else if p2 = p3 then (some 0) else if p1 = p3 then (some 0) else bnd1 (f2_isFree p1 aRanks) fun (r_4 : Int32) => if r_4 = 0 then (some 0) else bnd1 (f2_isFree p3 aRanks) fun (r_7 : Int32) => if r_7 = 0 then (some 0) else bnd1 (f2_hasArc p1 p2 gWorths) fun (r_10 : Int32) => if r_10 = 0 then (some 0) else bnd1 (f2_hasArc p2 p3 gWorths) fun (r_13 : Int32) => if r_13 = 0 then (some 0) else bnd1 (f1_get p1 p2 gWorths) fun (r_16 : Int32) => bnd1 (f1_get p2 p3 gWorths) fun (r_18 : Int32) => bd ((r_16 + r_18)) fun x4_20 => bnd1 (f1_get p1 p2 gApart) fun (r_21 : Int32) => bnd1 (f1_get p2 p3 gApart) fun (r_23 : Int32) => bnd1 (if (r_21 + r_23) < x4_20 then (some 0) else bnd1 (f1_get p1 p3 gApartWithout) fun (r_28 : Int32) => if r_28 ≤ x4_20 then (some 0) else some 1) fun (y_25 : Int32) => ckb y_25 (some y_25)
set_option maxHeartbeats 4000000 in
set_option maxRecDepth 100000 in
theorem c_X2_isNeeded (hq : gJ layB q) {p1 : Int32} {p2 : Int32} {p3 : Int32} {o_r : Int32} (h : f2_isNeeded p1 p2 p3 aRanks gWorths gApart gApartWithout = some o_r) :
    GM l yX2_isNeeded cX2_isNeeded 5 (some .boolean) 2 44 D cI cZ layB q [.ref (q 25), .int p1, .int p2, .int p3] ([iReadings, iAlterations, iRankings, iLetters, iCurrent, iDue, iSize, iLsize], [], [gCosts, gWorths, gMiddles, gApart, gApartWithout, gNeeded, gUps, gDowns, gKeys, gNexts, gShutKeys, aCodes, aPbegins, aPends, aPlengths, aBegins, aEnds, aLengths, aRanks, aRoadsByRank, aRow, aRanksBefore, aBusy, aOpen, aShut]) (some (.int o_r)) ([iReadings, iAlterations, iRankings, iLetters, iCurrent, iDue, iSize, iLsize], [], [gCosts, gWorths, gMiddles, gApart, gApartWithout, gNeeded, gUps, gDowns, gKeys, gNexts, gShutKeys, aCodes, aPbegins, aPends, aPlengths, aBegins, aEnds, aLengths, aRanks, aRoadsByRank, aRow, aRanksBefore, aBusy, aOpen, aShut]) := by
  refine GM.go RX2 (by decide) rfl (Nat.le_of_ble_eq_true rfl) ?_
  intro p e s m args below meth c ls R Q H locs X hr hlk hT hG hl hR hQ
  have hx := X.1
  have hb := X.2.1
  have hl : lv_has ls 5 [(0, .ref (q 25)), (1, .int p1), (2, .int p2), (3, .int p3)] := hl
  unfold f2_isNeeded at h
  refine lv_iload_n hx hb dX2_isNeeded_0 rfl (lv_at hl 1 rfl) ?_
  refine lv_iload_n hx hb dX2_isNeeded_1 rfl (lv_at hl 2 rfl) ?_
  refine lv_icmp_eq (tgt := 15) hx hb dX2_isNeeded_2 (by decide) (fun cb1 => ?_) (fun cb1 => ?_)
  · have h := ite_t cb1 h
    refine lv_iconst (v := 0) hx hb dX2_isNeeded_15 (by decide) ?_
    cases h
    rw [hQ]
    exact g_zret X hT hG hr hlk (Or.inl rfl) dX2_isNeeded_16
  · have h := ite_f cb1 h
    refine lv_iload_n hx hb dX2_isNeeded_5 rfl (lv_at hl 2 rfl) ?_
    refine lv_iload_n hx hb dX2_isNeeded_6 rfl (lv_at hl 3 rfl) ?_
    refine lv_icmp_eq (tgt := 15) hx hb dX2_isNeeded_7 (by decide) (fun cb2 => ?_) (fun cb2 => ?_)
    · have h := ite_t cb2 h
      refine lv_iconst (v := 0) hx hb dX2_isNeeded_15 (by decide) ?_
      cases h
      rw [hQ]
      exact g_zret X hT hG hr hlk (Or.inl rfl) dX2_isNeeded_16
    · have h := ite_f cb2 h
      refine lv_iload_n hx hb dX2_isNeeded_10 rfl (lv_at hl 1 rfl) ?_
      refine lv_iload_n hx hb dX2_isNeeded_11 rfl (lv_at hl 3 rfl) ?_
      refine lv_icmp_ne (tgt := 17) hx hb dX2_isNeeded_12 (by decide) (fun cb3 => ?_) (fun cb3 => ?_)
      · have h := ite_f cb3 h
        refine lv_aload_n hx hb dX2_isNeeded_17 rfl (lv_at hl 0 rfl) ?_
        refine lv_iload_n hx hb dX2_isNeeded_18 rfl (lv_at hl 1 rfl) ?_
        obtain ⟨r_4, ec5, h⟩ := bnd1_some h
        refine g_callVr [.int p1] [] 25 X hT hG ml_X2_80 (c_X2_isFree hq ec5) rfl rfl rfl rfl rfl hl.1 (Nat.le_of_ble_eq_true rfl) (by rw [hR]; exact ⟨Nat.le_of_ble_eq_true rfl, Nat.le_of_ble_eq_true rfl⟩) dX2_isNeeded_19 (fun H locs hG => ?_)
        refine lv_if_eq (tgt := 51) hx hb dX2_isNeeded_22 (by decide) (fun cb6 => ?_) (fun cb6 => ?_)
        · have h := ite_t cb6 h
          refine lv_iconst (v := 0) hx hb dX2_isNeeded_51 (by decide) ?_
          cases h
          rw [hQ]
          exact g_zret X hT hG hr hlk (Or.inl rfl) dX2_isNeeded_52
        · have h := ite_f cb6 h
          refine lv_aload_n hx hb dX2_isNeeded_25 rfl (lv_at hl 0 rfl) ?_
          refine lv_iload_n hx hb dX2_isNeeded_26 rfl (lv_at hl 3 rfl) ?_
          obtain ⟨r_7, ec8, h⟩ := bnd1_some h
          refine g_callVr [.int p3] [] 25 X hT hG ml_X2_80 (c_X2_isFree hq ec8) rfl rfl rfl rfl rfl hl.1 (Nat.le_of_ble_eq_true rfl) (by rw [hR]; exact ⟨Nat.le_of_ble_eq_true rfl, Nat.le_of_ble_eq_true rfl⟩) dX2_isNeeded_27 (fun H locs hG => ?_)
          refine lv_if_eq (tgt := 51) hx hb dX2_isNeeded_30 (by decide) (fun cb9 => ?_) (fun cb9 => ?_)
          · have h := ite_t cb9 h
            refine lv_iconst (v := 0) hx hb dX2_isNeeded_51 (by decide) ?_
            cases h
            rw [hQ]
            exact g_zret X hT hG hr hlk (Or.inl rfl) dX2_isNeeded_52
          · have h := ite_f cb9 h
            refine lv_aload_n hx hb dX2_isNeeded_33 rfl (lv_at hl 0 rfl) ?_
            refine lv_iload_n hx hb dX2_isNeeded_34 rfl (lv_at hl 1 rfl) ?_
            refine lv_iload_n hx hb dX2_isNeeded_35 rfl (lv_at hl 2 rfl) ?_
            obtain ⟨r_10, ec11, h⟩ := bnd1_some h
            refine g_callVr [.int p1, .int p2] [] 25 X hT hG ml_X2_99 (c_X2_hasArc hq ec11) rfl rfl rfl rfl rfl hl.1 (Nat.le_of_ble_eq_true rfl) (by rw [hR]; exact ⟨Nat.le_of_ble_eq_true rfl, Nat.le_of_ble_eq_true rfl⟩) dX2_isNeeded_36 (fun H locs hG => ?_)
            refine lv_if_eq (tgt := 51) hx hb dX2_isNeeded_39 (by decide) (fun cb12 => ?_) (fun cb12 => ?_)
            · have h := ite_t cb12 h
              refine lv_iconst (v := 0) hx hb dX2_isNeeded_51 (by decide) ?_
              cases h
              rw [hQ]
              exact g_zret X hT hG hr hlk (Or.inl rfl) dX2_isNeeded_52
            · have h := ite_f cb12 h
              refine lv_aload_n hx hb dX2_isNeeded_42 rfl (lv_at hl 0 rfl) ?_
              refine lv_iload_n hx hb dX2_isNeeded_43 rfl (lv_at hl 2 rfl) ?_
              refine lv_iload_n hx hb dX2_isNeeded_44 rfl (lv_at hl 3 rfl) ?_
              obtain ⟨r_13, ec14, h⟩ := bnd1_some h
              refine g_callVr [.int p2, .int p3] [] 25 X hT hG ml_X2_99 (c_X2_hasArc hq ec14) rfl rfl rfl rfl rfl hl.1 (Nat.le_of_ble_eq_true rfl) (by rw [hR]; exact ⟨Nat.le_of_ble_eq_true rfl, Nat.le_of_ble_eq_true rfl⟩) dX2_isNeeded_45 (fun H locs hG => ?_)
              refine lv_if_ne (tgt := 53) hx hb dX2_isNeeded_48 (by decide) (fun cb15 => ?_) (fun cb15 => ?_)
              · have h := ite_f cb15 h
                refine lv_aload_n hx hb dX2_isNeeded_53 rfl (lv_at hl 0 rfl) ?_
                refine g_get (v := .ref (q 1)) X hT hG fl_X2_12 25 rfl rfl rfl dX2_isNeeded_54 ?_
                refine lv_iload_n hx hb dX2_isNeeded_57 rfl (lv_at hl 1 rfl) ?_
                refine lv_iload_n hx hb dX2_isNeeded_58 rfl (lv_at hl 2 rfl) ?_
                obtain ⟨r_16, ec17, h⟩ := bnd1_some h
                refine g_callVr [.int p1, .int p2] [] 1 X hT hG ml_X2_84 (c_X1_get_1 hq ec17) rfl rfl rfl rfl rfl hl.1 (Nat.le_of_ble_eq_true rfl) (by rw [hR]; exact ⟨Nat.le_of_ble_eq_true rfl, Nat.le_of_ble_eq_true rfl⟩) dX2_isNeeded_59 (fun H locs hG => ?_)
                refine lv_aload_n hx hb dX2_isNeeded_62 rfl (lv_at hl 0 rfl) ?_
                refine g_get (v := .ref (q 1)) X hT hG fl_X2_12 25 rfl rfl rfl dX2_isNeeded_63 ?_
                refine lv_iload_n hx hb dX2_isNeeded_66 rfl (lv_at hl 2 rfl) ?_
                refine lv_iload_n hx hb dX2_isNeeded_67 rfl (lv_at hl 3 rfl) ?_
                obtain ⟨r_18, ec19, h⟩ := bnd1_some h
                refine g_callVr [.int p2, .int p3] [.int r_16] 1 X hT hG ml_X2_84 (c_X1_get_1 hq ec19) rfl rfl rfl rfl rfl hl.1 (Nat.le_of_ble_eq_true rfl) (by rw [hR]; exact ⟨Nat.le_of_ble_eq_true rfl, Nat.le_of_ble_eq_true rfl⟩) dX2_isNeeded_68 (fun H locs hG => ?_)
                refine lv_iadd hx hb dX2_isNeeded_71 ?_
                refine lv_topi (fun x4_20 ex4_20 => ?_)
                have h := bd_e ex4_20 h
                refine lv_istore (lv' := [(4, .int x4_20), (0, .ref (q 25)), (1, .int p1), (2, .int p2), (3, .int p3)]) hx hb dX2_isNeeded_72 hl (by decide) rfl (fun ls hl => ?_)
                refine lv_aload_n hx hb dX2_isNeeded_74 rfl (lv_at hl 1 rfl) ?_
                refine g_get (v := .ref (q 3)) X hT hG fl_X2_34 25 rfl rfl rfl dX2_isNeeded_75 ?_
                refine lv_iload_n hx hb dX2_isNeeded_78 rfl (lv_at hl 2 rfl) ?_
                refine lv_iload_n hx hb dX2_isNeeded_79 rfl (lv_at hl 3 rfl) ?_
                obtain ⟨r_21, ec22, h⟩ := bnd1_some h
                refine g_callVr [.int p1, .int p2] [] 3 X hT hG ml_X2_84 (c_X1_get_3 hq ec22) rfl rfl rfl rfl rfl hl.1 (Nat.le_of_ble_eq_true rfl) (by rw [hR]; exact ⟨Nat.le_of_ble_eq_true rfl, Nat.le_of_ble_eq_true rfl⟩) dX2_isNeeded_80 (fun H locs hG => ?_)
                refine lv_aload_n hx hb dX2_isNeeded_83 rfl (lv_at hl 1 rfl) ?_
                refine g_get (v := .ref (q 3)) X hT hG fl_X2_34 25 rfl rfl rfl dX2_isNeeded_84 ?_
                refine lv_iload_n hx hb dX2_isNeeded_87 rfl (lv_at hl 3 rfl) ?_
                refine lv_iload_n hx hb dX2_isNeeded_88 rfl (lv_at hl 4 rfl) ?_
                obtain ⟨r_23, ec24, h⟩ := bnd1_some h
                refine g_callVr [.int p2, .int p3] [.int r_21] 3 X hT hG ml_X2_84 (c_X1_get_3 hq ec24) rfl rfl rfl rfl rfl hl.1 (Nat.le_of_ble_eq_true rfl) (by rw [hR]; exact ⟨Nat.le_of_ble_eq_true rfl, Nat.le_of_ble_eq_true rfl⟩) dX2_isNeeded_89 (fun H locs hG => ?_)
                refine lv_iadd hx hb dX2_isNeeded_92 ?_
                refine lv_iload hx hb dX2_isNeeded_93 (lv_at hl 0 rfl) ?_
                obtain ⟨y_25, er26, h⟩ := bnd1_some h
                have J26 : ∀ (H : Heap) (locs : List Loc) (ls : Array Slot), GH D cI cZ layB q s ([iReadings, iAlterations, iRankings, iLetters, iCurrent, iDue, iSize, iLsize], [], [gCosts, gWorths, gMiddles, gApart, gApartWithout, gNeeded, gUps, gDowns, gKeys, gNexts, gShutKeys, aCodes, aPbegins, aPends, aPlengths, aBegins, aEnds, aLengths, aRanks, aRoadsByRank, aRow, aRanksBefore, aBusy, aOpen, aShut]) H locs → lv_has ls 5 [] → W p l e R s m args below meth c H locs 0 0 Q (F0 m 117 ls [.int y_25]) := by
                  intro H locs ls hG hl
                  obtain ⟨hz, h⟩ := ckb_some h
                  cases h
                  rw [hQ]
                  exact g_zret X hT hG hr hlk hz dX2_isNeeded_117
                refine lv_icmp_lt (tgt := 116) hx hb dX2_isNeeded_95 (by decide) (fun cb27 => ?_) (fun cb27 => ?_)
                · have er26 := ite_t cb27 er26
                  refine lv_iconst (v := 0) hx hb dX2_isNeeded_116 (by decide) ?_
                  cases er26
                  exact J26 H locs ls hG (lv_sub hl [] rfl)
                · have er26 := ite_f cb27 er26
                  refine lv_aload_n hx hb dX2_isNeeded_98 rfl (lv_at hl 1 rfl) ?_
                  refine g_get (v := .ref (q 4)) X hT hG fl_X2_37 25 rfl rfl rfl dX2_isNeeded_99 ?_
                  refine lv_iload_n hx hb dX2_isNeeded_102 rfl (lv_at hl 2 rfl) ?_
                  refine lv_iload_n hx hb dX2_isNeeded_103 rfl (lv_at hl 4 rfl) ?_
                  obtain ⟨r_28, ec29, er26⟩ := bnd1_some er26
                  refine g_callVr [.int p1, .int p3] [] 4 X hT hG ml_X2_84 (c_X1_get_4 hq ec29) rfl rfl rfl rfl rfl hl.1 (Nat.le_of_ble_eq_true rfl) (by rw [hR]; exact ⟨Nat.le_of_ble_eq_true rfl, Nat.le_of_ble_eq_true rfl⟩) dX2_isNeeded_104 (fun H locs hG => ?_)
                  refine lv_iload hx hb dX2_isNeeded_107 (lv_at hl 0 rfl) ?_
                  refine lv_icmp_le (tgt := 116) hx hb dX2_isNeeded_109 (by decide) (fun cb30 => ?_) (fun cb30 => ?_)
                  · have er26 := ite_t cb30 er26
                    refine lv_iconst (v := 0) hx hb dX2_isNeeded_116 (by decide) ?_
                    cases er26
                    exact J26 H locs ls hG (lv_sub hl [] rfl)
                  · have er26 := ite_f cb30 er26
                    refine lv_iconst (v := 1) hx hb dX2_isNeeded_112 (by decide) ?_
                    refine lv_goto (tgt := 117) hx hb dX2_isNeeded_113 (by decide) ?_
                    cases er26
                    exact J26 H locs ls hG (lv_sub hl [] rfl)
              · have h := ite_t cb15 h
                refine lv_iconst (v := 0) hx hb dX2_isNeeded_51 (by decide) ?_
                cases h
                rw [hQ]
                exact g_zret X hT hG hr hlk (Or.inl rfl) dX2_isNeeded_52
      · have h := ite_t cb3 h
        refine lv_iconst (v := 0) hx hb dX2_isNeeded_15 (by decide) ?_
        cases h
        rw [hQ]
        exact g_zret X hT hG hr hlk (Or.inl rfl) dX2_isNeeded_16
set_option maxHeartbeats 4000000 in
set_option maxRecDepth 100000 in
theorem c_X1_set_5 (hq : gJ layB q) {p1 : Int32} {p2 : Int32} {p3 : Int32} {o_gNeeded : (Nat → Int32)} (h : f1_set p1 p2 gNeeded p3 = some o_gNeeded) :
    GM l yX1_set cX1_set 4 none 0 0 D cI cZ layB q [.ref (q 5), .int p1, .int p2, .int p3] ([iReadings, iAlterations, iRankings, iLetters, iCurrent, iDue, iSize, iLsize], [], [gCosts, gWorths, gMiddles, gApart, gApartWithout, gNeeded, gUps, gDowns, gKeys, gNexts, gShutKeys, aCodes, aPbegins, aPends, aPlengths, aBegins, aEnds, aLengths, aRanks, aRoadsByRank, aRow, aRanksBefore, aBusy, aOpen, aShut]) none ([iReadings, iAlterations, iRankings, iLetters, iCurrent, iDue, iSize, iLsize], [], [gCosts, gWorths, gMiddles, gApart, gApartWithout, o_gNeeded, gUps, gDowns, gKeys, gNexts, gShutKeys, aCodes, aPbegins, aPends, aPlengths, aBegins, aEnds, aLengths, aRanks, aRoadsByRank, aRow, aRanksBefore, aBusy, aOpen, aShut]) := by
  refine GM.go RX1 (by decide) rfl (Nat.le_of_ble_eq_true rfl) ?_
  intro p e s m args below meth c ls R Q H locs X hr hlk hT hG hl hR hQ
  have hx := X.1
  have hb := X.2.1
  have hl : lv_has ls 4 [(0, .ref (q 5)), (1, .int p1), (2, .int p2), (3, .int p3)] := hl
  unfold f1_set at h
  refine lv_aload_n hx hb dX1_set_0 rfl (lv_at hl 0 rfl) ?_
  refine g_get (v := .ref (q 16)) X hT hG fl_X1_9 5 rfl rfl rfl dX1_set_1 ?_
  refine lv_iload_n hx hb dX1_set_4 rfl (lv_at hl 1 rfl) ?_
  refine lv_bipush (v := 12) hx hb dX1_set_5 (by decide) ?_
  refine lv_imul hx hb dX1_set_7 ?_
  refine lv_iload_n hx hb dX1_set_8 rfl (lv_at hl 2 rfl) ?_
  refine lv_iadd hx hb dX1_set_9 ?_
  refine lv_iload_n hx hb dX1_set_10 rfl (lv_at hl 3 rfl) ?_
  obtain ⟨hi1, h⟩ := ckin_some h
  obtain ⟨gNeeded_2, egNeeded_2⟩ : ∃ z : Nat → Int32, z = upd gNeeded ((p1 * 12) + p2).toNatClampNeg p3 := ⟨_, rfl⟩
  have h := bd_e egNeeded_2 h
  refine g_ast (w' := ([iReadings, iAlterations, iRankings, iLetters, iCurrent, iDue, iSize, iLsize], [], [gCosts, gWorths, gMiddles, gApart, gApartWithout, gNeeded_2, gUps, gDowns, gKeys, gNexts, gShutKeys, aCodes, aPbegins, aPends, aPlengths, aBegins, aEnds, aLengths, aRanks, aRoadsByRank, aRow, aRanksBefore, aBusy, aOpen, aShut])) X hT hq hG 16 rfl ga_B_gNeeded (Nat.le_of_ble_eq_true rfl) hi1 (by subst egNeeded_2; rfl) dX1_set_11 (fun H locs hG => ?_)
  cases h
  rw [hQ]
  exact g_vret X hT hG hr hlk dX1_set_12
def f2_markNeeded_b2 (iLsize : Int32) (x3_4 : Int32) (p1 : Int32) (aRanks : (Nat → Int32)) (gWorths : (Nat → Int32)) (gApart : (Nat → Int32)) (gApartWithout_1 : (Nat → Int32)) (x2_10 : Int32) (x4_11 : Int32) (gNeeded_12 : (Nat → Int32)) : Option ((Int32 × Int32 × (Nat → Int32)) ⊕ (Int32 × (Nat → Int32))) :=
  if iLsize ≤ x4_11 then (some (.inr (x2_10, gNeeded_12))) else bnd1 (f2_isNeeded x3_4 p1 x4_11 aRanks gWorths gApart gApartWithout_1) fun (r_17 : Int32) => bnd1 (if r_17 = 0 then (some 0) else some 1) fun (y_19 : Int32) => bnd1 (f1_set x3_4 x4_11 gNeeded_12 y_19) fun (gNeeded_22 : (Nat → Int32)) => bd ((x2_10 + y_19)) fun x2_24 => bd (x4_11 + 1) fun x4_25 => some (.inl (x2_24, x4_25, gNeeded_22))
def f2_markNeeded_b1 (fu : Nat) (iLsize : Int32) (p1 : Int32) (aRanks : (Nat → Int32)) (gWorths : (Nat → Int32)) (gApart : (Nat → Int32)) (gApartWithout_1 : (Nat → Int32)) (x2_3 : Int32) (x3_4 : Int32) (gNeeded_5 : (Nat → Int32)) : Option ((Int32 × Int32 × (Nat → Int32)) ⊕ (Int32 × (Nat → Int32))) :=
  if iLsize ≤ x3_4 then (some (.inr (x2_3, gNeeded_5))) else bnd2 (lpG (fun z => f2_markNeeded_b2 iLsize x3_4 p1 aRanks gWorths gApart gApartWithout_1 z.1 z.2.1 z.2.2) fu (x2_3, (0 : Int32), gNeeded_5)) fun (x2_13 : Int32) (gNeeded_14 : (Nat → Int32)) => bd (x3_4 + 1) fun x3_26 => some (.inl (x2_13, x3_26, gNeeded_14))
def f2_markNeeded (fu : Nat) (iLsize : Int32) (aRanks : (Nat → Int32)) (p1 : Int32) (gWorths : (Nat → Int32)) (gApartWithout : (Nat → Int32)) (gApart : (Nat → Int32)) (gNeeded : (Nat → Int32)) : Option (Int32 × (Nat → Int32) × (Nat → Int32)) :=
  bnd1 (f2_measureFree fu iLsize aRanks p1 gWorths gApartWithout) fun (gApartWithout_1 : (Nat → Int32)) => bnd2 (lpG (fun z => f2_markNeeded_b1 fu iLsize p1 aRanks gWorths gApart gApartWithout_1 z.1 z.2.1 z.2.2) fu ((0 : Int32), (0 : Int32), gNeeded)) fun (x2_6 : Int32) (gNeeded_7 : (Nat → Int32)) => some (x2_6, gApartWithout_1, gNeeded_7)
set_option maxHeartbeats 4000000 in
set_option maxRecDepth 100000 in
theorem c_X2_markNeeded (hq : gJ layB q) {fu : Nat} {p1 : Int32} {o_r : Int32} {o_gApartWithout : (Nat → Int32)} {o_gNeeded : (Nat → Int32)} (h : f2_markNeeded fu iLsize aRanks p1 gWorths gApartWithout gApart gNeeded = some (o_r, o_gApartWithout, o_gNeeded)) :
    GM l yX2_markNeeded cX2_markNeeded 6 (some .int) 3 77 D cI cZ layB q [.ref (q 25), .int p1] ([iReadings, iAlterations, iRankings, iLetters, iCurrent, iDue, iSize, iLsize], [], [gCosts, gWorths, gMiddles, gApart, gApartWithout, gNeeded, gUps, gDowns, gKeys, gNexts, gShutKeys, aCodes, aPbegins, aPends, aPlengths, aBegins, aEnds, aLengths, aRanks, aRoadsByRank, aRow, aRanksBefore, aBusy, aOpen, aShut]) (some (.int o_r)) ([iReadings, iAlterations, iRankings, iLetters, iCurrent, iDue, iSize, iLsize], [], [gCosts, gWorths, gMiddles, gApart, o_gApartWithout, o_gNeeded, gUps, gDowns, gKeys, gNexts, gShutKeys, aCodes, aPbegins, aPends, aPlengths, aBegins, aEnds, aLengths, aRanks, aRoadsByRank, aRow, aRanksBefore, aBusy, aOpen, aShut]) := by
  refine GM.go RX2 (by decide) rfl (Nat.le_of_ble_eq_true rfl) ?_
  intro p e s m args below meth c ls R Q H locs X hr hlk hT hG hl hR hQ
  have hx := X.1
  have hb := X.2.1
  have hl : lv_has ls 6 [(0, .ref (q 25)), (1, .int p1)] := hl
  unfold f2_markNeeded at h
  refine lv_aload_n hx hb dX2_markNeeded_0 rfl (lv_at hl 0 rfl) ?_
  refine lv_aload_n hx hb dX2_markNeeded_1 rfl (lv_at hl 0 rfl) ?_
  refine g_get (v := .ref (q 4)) X hT hG fl_X2_37 25 rfl rfl rfl dX2_markNeeded_2 ?_
  refine lv_iload_n hx hb dX2_markNeeded_5 rfl (lv_at hl 1 rfl) ?_
  obtain ⟨gApartWithout_1, ec2, h⟩ := bnd1_some h
  refine g_callVv [.ref (q 4), .int p1] [] 25 X hT hG ml_X2_51 (c_X2_measureFree_25_4 hq ec2) rfl rfl rfl rfl rfl hl.1 (Nat.le_of_ble_eq_true rfl) (by rw [hR]; exact ⟨Nat.le_of_ble_eq_true rfl, Nat.le_of_ble_eq_true rfl⟩) dX2_markNeeded_6 (fun H locs hG => ?_)
  have hG : GH D cI cZ layB q s ([iReadings, iAlterations, iRankings, iLetters, iCurrent, iDue, iSize, iLsize], [], [gCosts, gWorths, gMiddles, gApart, gApartWithout_1, gNeeded, gUps, gDowns, gKeys, gNexts, gShutKeys, aCodes, aPbegins, aPends, aPlengths, aBegins, aEnds, aLengths, aRanks, aRoadsByRank, aRow, aRanksBefore, aBusy, aOpen, aShut]) H locs := hG
  refine lv_iconst (v := 0) hx hb dX2_markNeeded_9 (by decide) ?_
  refine lv_istore_n (lv' := [(2, .int 0), (0, .ref (q 25)), (1, .int p1)]) hx hb dX2_markNeeded_10 rfl hl (by decide) rfl (fun ls hl => ?_)
  refine lv_iconst (v := 0) hx hb dX2_markNeeded_11 (by decide) ?_
  refine lv_istore_n (lv' := [(3, .int 0), (2, .int 0), (0, .ref (q 25)), (1, .int p1)]) hx hb dX2_markNeeded_12 rfl hl (by decide) rfl (fun ls hl => ?_)
  obtain ⟨x2_6, gNeeded_7, eL8, h⟩ := bnd2_some h
  have JX8 : ∀ (H : Heap) (locs : List Loc) (ls : Array Slot), GH D cI cZ layB q s ([iReadings, iAlterations, iRankings, iLetters, iCurrent, iDue, iSize, iLsize], [], [gCosts, gWorths, gMiddles, gApart, gApartWithout_1, gNeeded_7, gUps, gDowns, gKeys, gNexts, gShutKeys, aCodes, aPbegins, aPends, aPlengths, aBegins, aEnds, aLengths, aRanks, aRoadsByRank, aRow, aRanksBefore, aBusy, aOpen, aShut]) H locs → lv_has ls 6 [(2, .int x2_6)] → W p l e R s m args below meth c H locs 0 0 Q (F0 m 80 ls []) := by
    intro H locs ls hG hl
    refine lv_iload_n hx hb dX2_markNeeded_80 rfl (lv_at hl 0 rfl) ?_
    cases h
    rw [hQ]
    exact g_iret X hT hG hr hlk dX2_markNeeded_81
  refine lpG_W (Wh := fun z => ∀ (H : Heap) (locs : List Loc) (ls : Array Slot), GH D cI cZ layB q s ([iReadings, iAlterations, iRankings, iLetters, iCurrent, iDue, iSize, iLsize], [], [gCosts, gWorths, gMiddles, gApart, gApartWithout_1, z.2.2, gUps, gDowns, gKeys, gNexts, gShutKeys, aCodes, aPbegins, aPends, aPlengths, aBegins, aEnds, aLengths, aRanks, aRoadsByRank, aRow, aRanksBefore, aBusy, aOpen, aShut]) H locs → lv_has ls 6 [(0, .ref (q 25)), (1, .int p1), (2, .int (z.1)), (3, .int (z.2.1))] → W p l e R s m args below meth c H locs 0 0 Q (F0 m 13 ls [])) ?_ fu _ eL8 H locs ls hG (lv_sub hl [2, 3, 1, 0] rfl)
  intro z rr8 hb8 hin8 hout8
  obtain ⟨x2_3, x3_4, gNeeded_5⟩ := z
  intro H locs ls hG hl
  have hb8 : f2_markNeeded_b1 fu iLsize p1 aRanks gWorths gApart gApartWithout_1 x2_3 x3_4 gNeeded_5 = some rr8 := hb8
  have hG : GH D cI cZ layB q s ([iReadings, iAlterations, iRankings, iLetters, iCurrent, iDue, iSize, iLsize], [], [gCosts, gWorths, gMiddles, gApart, gApartWithout_1, gNeeded_5, gUps, gDowns, gKeys, gNexts, gShutKeys, aCodes, aPbegins, aPends, aPlengths, aBegins, aEnds, aLengths, aRanks, aRoadsByRank, aRow, aRanksBefore, aBusy, aOpen, aShut]) H locs := hG
  have hl : lv_has ls 6 [(0, .ref (q 25)), (1, .int p1), (2, .int x2_3), (3, .int x3_4)] := hl
  unfold f2_markNeeded_b1 at hb8
  refine lv_iload_n hx hb dX2_markNeeded_13 rfl (lv_at hl 3 rfl) ?_
  refine lv_aload_n hx hb dX2_markNeeded_14 rfl (lv_at hl 0 rfl) ?_
  refine g_get (v := .int iLsize) X hT hG fl_X2_47 25 rfl rfl rfl dX2_markNeeded_15 ?_
  refine lv_icmp_ge (tgt := 80) hx hb dX2_markNeeded_18 (by decide) (fun cb9 => ?_) (fun cb9 => ?_)
  · have hb8 := ite_t cb9 hb8
    have eo := hout8 _ (Option.some.inj hb8).symm
    cases eo
    exact JX8 H locs ls hG (lv_sub hl [2] rfl)
  · have hb8 := ite_f cb9 hb8
    refine lv_iconst (v := 0) hx hb dX2_markNeeded_21 (by decide) ?_
    refine lv_istore (lv' := [(4, .int 0), (0, .ref (q 25)), (1, .int p1), (2, .int x2_3), (3, .int x3_4)]) hx hb dX2_markNeeded_22 hl (by decide) rfl (fun ls hl => ?_)
    obtain ⟨x2_13, gNeeded_14, eL15, hb8⟩ := bnd2_some hb8
    have JX15 : ∀ (H : Heap) (locs : List Loc) (ls : Array Slot), GH D cI cZ layB q s ([iReadings, iAlterations, iRankings, iLetters, iCurrent, iDue, iSize, iLsize], [], [gCosts, gWorths, gMiddles, gApart, gApartWithout_1, gNeeded_14, gUps, gDowns, gKeys, gNexts, gShutKeys, aCodes, aPbegins, aPends, aPlengths, aBegins, aEnds, aLengths, aRanks, aRoadsByRank, aRow, aRanksBefore, aBusy, aOpen, aShut]) H locs → lv_has ls 6 [(0, .ref (q 25)), (1, .int p1), (2, .int x2_13), (3, .int x3_4)] → W p l e R s m args below meth c H locs 0 0 Q (F0 m 74 ls []) := by
      intro H locs ls hG hl
      obtain ⟨x3_26, ex3_26⟩ : ∃ z : Int32, z = x3_4 + 1 := ⟨_, rfl⟩
      have hb8 := bd_e ex3_26 hb8
      refine lv_iinc (v := x3_26) (lv' := [(3, .int x3_26), (0, .ref (q 25)), (1, .int p1), (2, .int x2_13)]) hx hb dX2_markNeeded_74 hl (k := 3) rfl (by rw [ex3_26]; rfl) (by decide) rfl (fun ls hl => ?_)
      refine lv_goto (tgt := 13) hx hb dX2_markNeeded_77 (by decide) ?_
      exact hin8 _ (Option.some.inj hb8).symm H locs ls hG (lv_sub hl [1, 2, 3, 0] rfl)
    refine lpG_W (Wh := fun z => ∀ (H : Heap) (locs : List Loc) (ls : Array Slot), GH D cI cZ layB q s ([iReadings, iAlterations, iRankings, iLetters, iCurrent, iDue, iSize, iLsize], [], [gCosts, gWorths, gMiddles, gApart, gApartWithout_1, z.2.2, gUps, gDowns, gKeys, gNexts, gShutKeys, aCodes, aPbegins, aPends, aPlengths, aBegins, aEnds, aLengths, aRanks, aRoadsByRank, aRow, aRanksBefore, aBusy, aOpen, aShut]) H locs → lv_has ls 6 [(0, .ref (q 25)), (1, .int p1), (2, .int (z.1)), (3, .int x3_4), (4, .int (z.2.1))] → W p l e R s m args below meth c H locs 0 0 Q (F0 m 24 ls [])) ?_ fu _ eL15 H locs ls hG (lv_sub hl [1, 2, 3, 4, 0] rfl)
    intro z rr15 hb15 hin15 hout15
    obtain ⟨x2_10, x4_11, gNeeded_12⟩ := z
    intro H locs ls hG hl
    have hb15 : f2_markNeeded_b2 iLsize x3_4 p1 aRanks gWorths gApart gApartWithout_1 x2_10 x4_11 gNeeded_12 = some rr15 := hb15
    have hG : GH D cI cZ layB q s ([iReadings, iAlterations, iRankings, iLetters, iCurrent, iDue, iSize, iLsize], [], [gCosts, gWorths, gMiddles, gApart, gApartWithout_1, gNeeded_12, gUps, gDowns, gKeys, gNexts, gShutKeys, aCodes, aPbegins, aPends, aPlengths, aBegins, aEnds, aLengths, aRanks, aRoadsByRank, aRow, aRanksBefore, aBusy, aOpen, aShut]) H locs := hG
    have hl : lv_has ls 6 [(0, .ref (q 25)), (1, .int p1), (2, .int x2_10), (3, .int x3_4), (4, .int x4_11)] := hl
    unfold f2_markNeeded_b2 at hb15
    refine lv_iload hx hb dX2_markNeeded_24 (lv_at hl 4 rfl) ?_
    refine lv_aload_n hx hb dX2_markNeeded_26 rfl (lv_at hl 0 rfl) ?_
    refine g_get (v := .int iLsize) X hT hG fl_X2_47 25 rfl rfl rfl dX2_markNeeded_27 ?_
    refine lv_icmp_ge (tgt := 74) hx hb dX2_markNeeded_30 (by decide) (fun cb16 => ?_) (fun cb16 => ?_)
    · have hb15 := ite_t cb16 hb15
      have eo := hout15 _ (Option.some.inj hb15).symm
      cases eo
      exact JX15 H locs ls hG (lv_sub hl [0, 1, 2, 3] rfl)
    · have hb15 := ite_f cb16 hb15
      refine lv_aload_n hx hb dX2_markNeeded_33 rfl (lv_at hl 0 rfl) ?_
      refine lv_iload_n hx hb dX2_markNeeded_34 rfl (lv_at hl 3 rfl) ?_
      refine lv_iload_n hx hb dX2_markNeeded_35 rfl (lv_at hl 1 rfl) ?_
      refine lv_iload hx hb dX2_markNeeded_36 (lv_at hl 4 rfl) ?_
      obtain ⟨r_17, ec18, hb15⟩ := bnd1_some hb15
      refine g_callVr [.int x3_4, .int p1, .int x4_11] [] 25 X hT hG ml_X2_103 (c_X2_isNeeded hq ec18) rfl rfl rfl rfl rfl hl.1 (Nat.le_of_ble_eq_true rfl) (by rw [hR]; exact ⟨Nat.le_of_ble_eq_true rfl, Nat.le_of_ble_eq_true rfl⟩) dX2_markNeeded_38 (fun H locs hG => ?_)
      obtain ⟨y_19, er20, hb15⟩ := bnd1_some hb15
      have J20 : ∀ (H : Heap) (locs : List Loc) (ls : Array Slot), GH D cI cZ layB q s ([iReadings, iAlterations, iRankings, iLetters, iCurrent, iDue, iSize, iLsize], [], [gCosts, gWorths, gMiddles, gApart, gApartWithout_1, gNeeded_12, gUps, gDowns, gKeys, gNexts, gShutKeys, aCodes, aPbegins, aPends, aPlengths, aBegins, aEnds, aLengths, aRanks, aRoadsByRank, aRow, aRanksBefore, aBusy, aOpen, aShut]) H locs → lv_has ls 6 [(0, .ref (q 25)), (1, .int p1), (2, .int x2_10), (3, .int x3_4), (4, .int x4_11)] → W p l e R s m args below meth c H locs 0 0 Q (F0 m 49 ls [.int y_19]) := by
        intro H locs ls hG hl
        refine lv_istore (lv' := [(5, .int y_19), (0, .ref (q 25)), (1, .int p1), (2, .int x2_10), (3, .int x3_4), (4, .int x4_11)]) hx hb dX2_markNeeded_49 hl (by decide) rfl (fun ls hl => ?_)
        refine lv_aload_n hx hb dX2_markNeeded_51 rfl (lv_at hl 1 rfl) ?_
        refine g_get (v := .ref (q 5)) X hT hG fl_X2_40 25 rfl rfl rfl dX2_markNeeded_52 ?_
        refine lv_iload_n hx hb dX2_markNeeded_55 rfl (lv_at hl 4 rfl) ?_
        refine lv_iload hx hb dX2_markNeeded_56 (lv_at hl 5 rfl) ?_
        refine lv_iload hx hb dX2_markNeeded_58 (lv_at hl 0 rfl) ?_
        obtain ⟨gNeeded_22, ec23, hb15⟩ := bnd1_some hb15
        refine g_callVv [.int x3_4, .int x4_11, .int y_19] [] 5 X hT hG ml_X2_76 (c_X1_set_5 hq ec23) rfl rfl rfl rfl rfl hl.1 (Nat.le_of_ble_eq_true rfl) (by rw [hR]; exact ⟨Nat.le_of_ble_eq_true rfl, Nat.le_of_ble_eq_true rfl⟩) dX2_markNeeded_60 (fun H locs hG => ?_)
        have hG : GH D cI cZ layB q s ([iReadings, iAlterations, iRankings, iLetters, iCurrent, iDue, iSize, iLsize], [], [gCosts, gWorths, gMiddles, gApart, gApartWithout_1, gNeeded_22, gUps, gDowns, gKeys, gNexts, gShutKeys, aCodes, aPbegins, aPends, aPlengths, aBegins, aEnds, aLengths, aRanks, aRoadsByRank, aRow, aRanksBefore, aBusy, aOpen, aShut]) H locs := hG
        refine lv_iload_n hx hb dX2_markNeeded_63 rfl (lv_at hl 3 rfl) ?_
        refine lv_iload hx hb dX2_markNeeded_64 (lv_at hl 0 rfl) ?_
        refine lv_iadd hx hb dX2_markNeeded_66 ?_
        refine lv_topi (fun x2_24 ex2_24 => ?_)
        have hb15 := bd_e ex2_24 hb15
        refine lv_istore_n (lv' := [(2, .int x2_24), (5, .int y_19), (0, .ref (q 25)), (1, .int p1), (3, .int x3_4), (4, .int x4_11)]) hx hb dX2_markNeeded_67 rfl hl (by decide) rfl (fun ls hl => ?_)
        obtain ⟨x4_25, ex4_25⟩ : ∃ z : Int32, z = x4_11 + 1 := ⟨_, rfl⟩
        have hb15 := bd_e ex4_25 hb15
        refine lv_iinc (v := x4_25) (lv' := [(4, .int x4_25), (2, .int x2_24), (5, .int y_19), (0, .ref (q 25)), (1, .int p1), (3, .int x3_4)]) hx hb dX2_markNeeded_68 hl (k := 5) rfl (by rw [ex4_25]; rfl) (by decide) rfl (fun ls hl => ?_)
        refine lv_goto (tgt := 24) hx hb dX2_markNeeded_71 (by decide) ?_
        exact hin15 _ (Option.some.inj hb15).symm H locs ls hG (lv_sub hl [3, 4, 1, 5, 0] rfl)
      refine lv_if_eq (tgt := 48) hx hb dX2_markNeeded_41 (by decide) (fun cb21 => ?_) (fun cb21 => ?_)
      · have er20 := ite_t cb21 er20
        refine lv_iconst (v := 0) hx hb dX2_markNeeded_48 (by decide) ?_
        cases er20
        exact J20 H locs ls hG (lv_sub hl [0, 1, 2, 3, 4] rfl)
      · have er20 := ite_f cb21 er20
        refine lv_iconst (v := 1) hx hb dX2_markNeeded_44 (by decide) ?_
        refine lv_goto (tgt := 49) hx hb dX2_markNeeded_45 (by decide) ?_
        cases er20
        exact J20 H locs ls hG (lv_sub hl [0, 1, 2, 3, 4] rfl)
def f2_countFreeArcs_b1 (iLsize : Int32) (aRanks : (Nat → Int32)) (p1 : Int32) (gWorths : (Nat → Int32)) (x2_1 : Int32) (x3_2 : Int32) : Option ((Int32 × Int32) ⊕ (Int32)) :=
  if iLsize ≤ x3_2 then (some (.inr x2_1)) else bnd1 (f2_isFree x3_2 aRanks) fun (r_6 : Int32) => bnd1 (if r_6 = 0 then (some x2_1) else bnd1 (f2_hasArc p1 x3_2 gWorths) fun (r_11 : Int32) => bnd1 (if r_11 = 0 then (some 0) else some 1) fun (y_13 : Int32) => bd ((x2_1 + y_13)) fun x2_16 => bnd1 (f2_hasArc x3_2 p1 gWorths) fun (r_17 : Int32) => bnd1 (if r_17 = 0 then (some 0) else some 1) fun (y_19 : Int32) => bd ((x2_16 + y_19)) fun x2_22 => some x2_22) fun (x2_8 : Int32) => bd (x3_2 + 1) fun x3_23 => some (.inl (x2_8, x3_23))
def f2_countFreeArcs (fu : Nat) (iLsize : Int32) (aRanks : (Nat → Int32)) (p1 : Int32) (gWorths : (Nat → Int32)) : Option (Int32) :=
  bnd1 (lpG (fun z => f2_countFreeArcs_b1 iLsize aRanks p1 gWorths z.1 z.2) fu ((0 : Int32), (0 : Int32))) fun (x2_3 : Int32) => some x2_3
set_option maxHeartbeats 4000000 in
set_option maxRecDepth 100000 in
theorem c_X2_countFreeArcs (hq : gJ layB q) {fu : Nat} {p1 : Int32} {o_r : Int32} (h : f2_countFreeArcs fu iLsize aRanks p1 gWorths = some o_r) :
    GM l yX2_countFreeArcs cX2_countFreeArcs 4 (some .int) 2 44 D cI cZ layB q [.ref (q 25), .int p1] ([iReadings, iAlterations, iRankings, iLetters, iCurrent, iDue, iSize, iLsize], [], [gCosts, gWorths, gMiddles, gApart, gApartWithout, gNeeded, gUps, gDowns, gKeys, gNexts, gShutKeys, aCodes, aPbegins, aPends, aPlengths, aBegins, aEnds, aLengths, aRanks, aRoadsByRank, aRow, aRanksBefore, aBusy, aOpen, aShut]) (some (.int o_r)) ([iReadings, iAlterations, iRankings, iLetters, iCurrent, iDue, iSize, iLsize], [], [gCosts, gWorths, gMiddles, gApart, gApartWithout, gNeeded, gUps, gDowns, gKeys, gNexts, gShutKeys, aCodes, aPbegins, aPends, aPlengths, aBegins, aEnds, aLengths, aRanks, aRoadsByRank, aRow, aRanksBefore, aBusy, aOpen, aShut]) := by
  refine GM.go RX2 (by decide) rfl (Nat.le_of_ble_eq_true rfl) ?_
  intro p e s m args below meth c ls R Q H locs X hr hlk hT hG hl hR hQ
  have hx := X.1
  have hb := X.2.1
  have hl : lv_has ls 4 [(0, .ref (q 25)), (1, .int p1)] := hl
  unfold f2_countFreeArcs at h
  refine lv_iconst (v := 0) hx hb dX2_countFreeArcs_0 (by decide) ?_
  refine lv_istore_n (lv' := [(2, .int 0), (0, .ref (q 25)), (1, .int p1)]) hx hb dX2_countFreeArcs_1 rfl hl (by decide) rfl (fun ls hl => ?_)
  refine lv_iconst (v := 0) hx hb dX2_countFreeArcs_2 (by decide) ?_
  refine lv_istore_n (lv' := [(3, .int 0), (2, .int 0), (0, .ref (q 25)), (1, .int p1)]) hx hb dX2_countFreeArcs_3 rfl hl (by decide) rfl (fun ls hl => ?_)
  obtain ⟨x2_3, eL4, h⟩ := bnd1_some h
  have JX4 : ∀ (H : Heap) (locs : List Loc) (ls : Array Slot), GH D cI cZ layB q s ([iReadings, iAlterations, iRankings, iLetters, iCurrent, iDue, iSize, iLsize], [], [gCosts, gWorths, gMiddles, gApart, gApartWithout, gNeeded, gUps, gDowns, gKeys, gNexts, gShutKeys, aCodes, aPbegins, aPends, aPlengths, aBegins, aEnds, aLengths, aRanks, aRoadsByRank, aRow, aRanksBefore, aBusy, aOpen, aShut]) H locs → lv_has ls 4 [(2, .int x2_3)] → W p l e R s m args below meth c H locs 0 0 Q (F0 m 60 ls []) := by
    intro H locs ls hG hl
    refine lv_iload_n hx hb dX2_countFreeArcs_60 rfl (lv_at hl 0 rfl) ?_
    cases h
    rw [hQ]
    exact g_iret X hT hG hr hlk dX2_countFreeArcs_61
  refine lpG_W (Wh := fun z => ∀ (H : Heap) (locs : List Loc) (ls : Array Slot), GH D cI cZ layB q s ([iReadings, iAlterations, iRankings, iLetters, iCurrent, iDue, iSize, iLsize], [], [gCosts, gWorths, gMiddles, gApart, gApartWithout, gNeeded, gUps, gDowns, gKeys, gNexts, gShutKeys, aCodes, aPbegins, aPends, aPlengths, aBegins, aEnds, aLengths, aRanks, aRoadsByRank, aRow, aRanksBefore, aBusy, aOpen, aShut]) H locs → lv_has ls 4 [(0, .ref (q 25)), (1, .int p1), (2, .int (z.1)), (3, .int (z.2))] → W p l e R s m args below meth c H locs 0 0 Q (F0 m 4 ls [])) ?_ fu _ eL4 H locs ls hG (lv_sub hl [2, 3, 1, 0] rfl)
  intro z rr4 hb4 hin4 hout4
  obtain ⟨x2_1, x3_2⟩ := z
  intro H locs ls hG hl
  have hb4 : f2_countFreeArcs_b1 iLsize aRanks p1 gWorths x2_1 x3_2 = some rr4 := hb4
  have hG : GH D cI cZ layB q s ([iReadings, iAlterations, iRankings, iLetters, iCurrent, iDue, iSize, iLsize], [], [gCosts, gWorths, gMiddles, gApart, gApartWithout, gNeeded, gUps, gDowns, gKeys, gNexts, gShutKeys, aCodes, aPbegins, aPends, aPlengths, aBegins, aEnds, aLengths, aRanks, aRoadsByRank, aRow, aRanksBefore, aBusy, aOpen, aShut]) H locs := hG
  have hl : lv_has ls 4 [(0, .ref (q 25)), (1, .int p1), (2, .int x2_1), (3, .int x3_2)] := hl
  unfold f2_countFreeArcs_b1 at hb4
  refine lv_iload_n hx hb dX2_countFreeArcs_4 rfl (lv_at hl 3 rfl) ?_
  refine lv_aload_n hx hb dX2_countFreeArcs_5 rfl (lv_at hl 0 rfl) ?_
  refine g_get (v := .int iLsize) X hT hG fl_X2_47 25 rfl rfl rfl dX2_countFreeArcs_6 ?_
  refine lv_icmp_ge (tgt := 60) hx hb dX2_countFreeArcs_9 (by decide) (fun cb5 => ?_) (fun cb5 => ?_)
  · have hb4 := ite_t cb5 hb4
    have eo := hout4 _ (Option.some.inj hb4).symm
    cases eo
    exact JX4 H locs ls hG (lv_sub hl [2] rfl)
  · have hb4 := ite_f cb5 hb4
    refine lv_aload_n hx hb dX2_countFreeArcs_12 rfl (lv_at hl 0 rfl) ?_
    refine lv_iload_n hx hb dX2_countFreeArcs_13 rfl (lv_at hl 3 rfl) ?_
    obtain ⟨r_6, ec7, hb4⟩ := bnd1_some hb4
    refine g_callVr [.int x3_2] [] 25 X hT hG ml_X2_80 (c_X2_isFree hq ec7) rfl rfl rfl rfl rfl hl.1 (Nat.le_of_ble_eq_true rfl) (by rw [hR]; exact ⟨Nat.le_of_ble_eq_true rfl, Nat.le_of_ble_eq_true rfl⟩) dX2_countFreeArcs_14 (fun H locs hG => ?_)
    obtain ⟨x2_8, er9, hb4⟩ := bnd1_some hb4
    have J9 : ∀ (H : Heap) (locs : List Loc) (ls : Array Slot), GH D cI cZ layB q s ([iReadings, iAlterations, iRankings, iLetters, iCurrent, iDue, iSize, iLsize], [], [gCosts, gWorths, gMiddles, gApart, gApartWithout, gNeeded, gUps, gDowns, gKeys, gNexts, gShutKeys, aCodes, aPbegins, aPends, aPlengths, aBegins, aEnds, aLengths, aRanks, aRoadsByRank, aRow, aRanksBefore, aBusy, aOpen, aShut]) H locs → lv_has ls 4 [(0, .ref (q 25)), (1, .int p1), (2, .int x2_8), (3, .int x3_2)] → W p l e R s m args below meth c H locs 0 0 Q (F0 m 54 ls []) := by
      intro H locs ls hG hl
      obtain ⟨x3_23, ex3_23⟩ : ∃ z : Int32, z = x3_2 + 1 := ⟨_, rfl⟩
      have hb4 := bd_e ex3_23 hb4
      refine lv_iinc (v := x3_23) (lv' := [(3, .int x3_23), (0, .ref (q 25)), (1, .int p1), (2, .int x2_8)]) hx hb dX2_countFreeArcs_54 hl (k := 3) rfl (by rw [ex3_23]; rfl) (by decide) rfl (fun ls hl => ?_)
      refine lv_goto (tgt := 4) hx hb dX2_countFreeArcs_57 (by decide) ?_
      exact hin4 _ (Option.some.inj hb4).symm H locs ls hG (lv_sub hl [1, 2, 3, 0] rfl)
    refine lv_if_eq (tgt := 54) hx hb dX2_countFreeArcs_17 (by decide) (fun cb10 => ?_) (fun cb10 => ?_)
    · have er9 := ite_t cb10 er9
      cases er9
      exact J9 H locs ls hG (lv_sub hl [0, 1, 2, 3] rfl)
    · have er9 := ite_f cb10 er9
      refine lv_iload_n hx hb dX2_countFreeArcs_20 rfl (lv_at hl 2 rfl) ?_
      refine lv_aload_n hx hb dX2_countFreeArcs_21 rfl (lv_at hl 0 rfl) ?_
      refine lv_iload_n hx hb dX2_countFreeArcs_22 rfl (lv_at hl 1 rfl) ?_
      refine lv_iload_n hx hb dX2_countFreeArcs_23 rfl (lv_at hl 3 rfl) ?_
      obtain ⟨r_11, ec12, er9⟩ := bnd1_some er9
      refine g_callVr [.int p1, .int x3_2] [.int x2_1] 25 X hT hG ml_X2_99 (c_X2_hasArc hq ec12) rfl rfl rfl rfl rfl hl.1 (Nat.le_of_ble_eq_true rfl) (by rw [hR]; exact ⟨Nat.le_of_ble_eq_true rfl, Nat.le_of_ble_eq_true rfl⟩) dX2_countFreeArcs_24 (fun H locs hG => ?_)
      obtain ⟨y_13, er14, er9⟩ := bnd1_some er9
      have J14 : ∀ (H : Heap) (locs : List Loc) (ls : Array Slot), GH D cI cZ layB q s ([iReadings, iAlterations, iRankings, iLetters, iCurrent, iDue, iSize, iLsize], [], [gCosts, gWorths, gMiddles, gApart, gApartWithout, gNeeded, gUps, gDowns, gKeys, gNexts, gShutKeys, aCodes, aPbegins, aPends, aPlengths, aBegins, aEnds, aLengths, aRanks, aRoadsByRank, aRow, aRanksBefore, aBusy, aOpen, aShut]) H locs → lv_has ls 4 [(0, .ref (q 25)), (1, .int p1), (3, .int x3_2)] → W p l e R s m args below meth c H locs 0 0 Q (F0 m 35 ls [.int y_13, .int x2_1]) := by
        intro H locs ls hG hl
        refine lv_iadd hx hb dX2_countFreeArcs_35 ?_
        refine lv_topi (fun x2_16 ex2_16 => ?_)
        have er9 := bd_e ex2_16 er9
        refine lv_istore_n (lv' := [(2, .int x2_16), (0, .ref (q 25)), (1, .int p1), (3, .int x3_2)]) hx hb dX2_countFreeArcs_36 rfl hl (by decide) rfl (fun ls hl => ?_)
        refine lv_iload_n hx hb dX2_countFreeArcs_37 rfl (lv_at hl 0 rfl) ?_
        refine lv_aload_n hx hb dX2_countFreeArcs_38 rfl (lv_at hl 1 rfl) ?_
        refine lv_iload_n hx hb dX2_countFreeArcs_39 rfl (lv_at hl 3 rfl) ?_
        refine lv_iload_n hx hb dX2_countFreeArcs_40 rfl (lv_at hl 2 rfl) ?_
        obtain ⟨r_17, ec18, er9⟩ := bnd1_some er9
        refine g_callVr [.int x3_2, .int p1] [.int x2_16] 25 X hT hG ml_X2_99 (c_X2_hasArc hq ec18) rfl rfl rfl rfl rfl hl.1 (Nat.le_of_ble_eq_true rfl) (by rw [hR]; exact ⟨Nat.le_of_ble_eq_true rfl, Nat.le_of_ble_eq_true rfl⟩) dX2_countFreeArcs_41 (fun H locs hG => ?_)
        obtain ⟨y_19, er20, er9⟩ := bnd1_some er9
        have J20 : ∀ (H : Heap) (locs : List Loc) (ls : Array Slot), GH D cI cZ layB q s ([iReadings, iAlterations, iRankings, iLetters, iCurrent, iDue, iSize, iLsize], [], [gCosts, gWorths, gMiddles, gApart, gApartWithout, gNeeded, gUps, gDowns, gKeys, gNexts, gShutKeys, aCodes, aPbegins, aPends, aPlengths, aBegins, aEnds, aLengths, aRanks, aRoadsByRank, aRow, aRanksBefore, aBusy, aOpen, aShut]) H locs → lv_has ls 4 [(0, .ref (q 25)), (1, .int p1), (3, .int x3_2)] → W p l e R s m args below meth c H locs 0 0 Q (F0 m 52 ls [.int y_19, .int x2_16]) := by
          intro H locs ls hG hl
          refine lv_iadd hx hb dX2_countFreeArcs_52 ?_
          refine lv_topi (fun x2_22 ex2_22 => ?_)
          have er9 := bd_e ex2_22 er9
          refine lv_istore_n (lv' := [(2, .int x2_22), (0, .ref (q 25)), (1, .int p1), (3, .int x3_2)]) hx hb dX2_countFreeArcs_53 rfl hl (by decide) rfl (fun ls hl => ?_)
          cases er9
          exact J9 H locs ls hG (lv_sub hl [1, 2, 0, 3] rfl)
        refine lv_if_eq (tgt := 51) hx hb dX2_countFreeArcs_44 (by decide) (fun cb21 => ?_) (fun cb21 => ?_)
        · have er20 := ite_t cb21 er20
          refine lv_iconst (v := 0) hx hb dX2_countFreeArcs_51 (by decide) ?_
          cases er20
          exact J20 H locs ls hG (lv_sub hl [1, 2, 3] rfl)
        · have er20 := ite_f cb21 er20
          refine lv_iconst (v := 1) hx hb dX2_countFreeArcs_47 (by decide) ?_
          refine lv_goto (tgt := 52) hx hb dX2_countFreeArcs_48 (by decide) ?_
          cases er20
          exact J20 H locs ls hG (lv_sub hl [1, 2, 3] rfl)
      refine lv_if_eq (tgt := 34) hx hb dX2_countFreeArcs_27 (by decide) (fun cb15 => ?_) (fun cb15 => ?_)
      · have er14 := ite_t cb15 er14
        refine lv_iconst (v := 0) hx hb dX2_countFreeArcs_34 (by decide) ?_
        cases er14
        exact J14 H locs ls hG (lv_sub hl [0, 1, 3] rfl)
      · have er14 := ite_f cb15 er14
        refine lv_iconst (v := 1) hx hb dX2_countFreeArcs_30 (by decide) ?_
        refine lv_goto (tgt := 35) hx hb dX2_countFreeArcs_31 (by decide) ?_
        cases er14
        exact J14 H locs ls hG (lv_sub hl [0, 1, 3] rfl)
def f2_pickNext_b1 (fu : Nat) (iLsize : Int32) (aRanks : (Nat → Int32)) (gWorths : (Nat → Int32)) (gApart : (Nat → Int32)) (x1_1 : Int32) (x2_2 : Int32) (x3_3 : Int32) (gApartWithout_4 : (Nat → Int32)) (gNeeded_5 : (Nat → Int32)) : Option ((Int32 × Int32 × Int32 × (Nat → Int32) × (Nat → Int32)) ⊕ (Int32 × (Nat → Int32) × (Nat → Int32))) :=
  if iLsize ≤ x3_3 then (some (.inr (x1_1, gApartWithout_4, gNeeded_5))) else bnd1 (f2_isFree x3_3 aRanks) fun (r_11 : Int32) => bnd4 (if r_11 = 0 then (some (x1_1, x2_2, gApartWithout_4, gNeeded_5)) else bnd3 (f2_markNeeded fu iLsize aRanks x3_3 gWorths gApartWithout_4 gApart gNeeded_5) fun (r_19 : Int32) (gApartWithout_20 : (Nat → Int32)) (gNeeded_21 : (Nat → Int32)) => bnd1 (f2_countFreeArcs fu iLsize aRanks x3_3 gWorths) fun (r_23 : Int32) => bd ((r_19 - r_23)) fun x4_25 => if x2_2 ≤ x4_25 then (some (x1_1, x2_2, gApartWithout_20, gNeeded_21)) else some (x3_3, x4_25, gApartWithout_20, gNeeded_21)) fun (x1_13 : Int32) (x2_14 : Int32) (gApartWithout_15 : (Nat → Int32)) (gNeeded_16 : (Nat → Int32)) => bd (x3_3 + 1) fun x3_27 => some (.inl (x1_13, x2_14, x3_27, gApartWithout_15, gNeeded_16))
def f2_pickNext (fu : Nat) (iLsize : Int32) (aRanks : (Nat → Int32)) (gWorths : (Nat → Int32)) (gApart : (Nat → Int32)) (gApartWithout : (Nat → Int32)) (gNeeded : (Nat → Int32)) : Option (Int32 × (Nat → Int32) × (Nat → Int32)) :=
  bnd3 (lpG (fun z => f2_pickNext_b1 fu iLsize aRanks gWorths gApart z.1 z.2.1 z.2.2.1 z.2.2.2.1 z.2.2.2.2) fu ((0 : Int32), (268435456 : Int32), (0 : Int32), gApartWithout, gNeeded)) fun (x1_6 : Int32) (gApartWithout_7 : (Nat → Int32)) (gNeeded_8 : (Nat → Int32)) => some (x1_6, gApartWithout_7, gNeeded_8)
set_option maxHeartbeats 4000000 in
set_option maxRecDepth 100000 in
theorem c_X2_pickNext (hq : gJ layB q) {fu : Nat} {o_r : Int32} {o_gApartWithout : (Nat → Int32)} {o_gNeeded : (Nat → Int32)} (h : f2_pickNext fu iLsize aRanks gWorths gApart gApartWithout gNeeded = some (o_r, o_gApartWithout, o_gNeeded)) :
    GM l yX2_pickNext cX2_pickNext 5 (some .int) 4 102 D cI cZ layB q [.ref (q 25)] ([iReadings, iAlterations, iRankings, iLetters, iCurrent, iDue, iSize, iLsize], [], [gCosts, gWorths, gMiddles, gApart, gApartWithout, gNeeded, gUps, gDowns, gKeys, gNexts, gShutKeys, aCodes, aPbegins, aPends, aPlengths, aBegins, aEnds, aLengths, aRanks, aRoadsByRank, aRow, aRanksBefore, aBusy, aOpen, aShut]) (some (.int o_r)) ([iReadings, iAlterations, iRankings, iLetters, iCurrent, iDue, iSize, iLsize], [], [gCosts, gWorths, gMiddles, gApart, o_gApartWithout, o_gNeeded, gUps, gDowns, gKeys, gNexts, gShutKeys, aCodes, aPbegins, aPends, aPlengths, aBegins, aEnds, aLengths, aRanks, aRoadsByRank, aRow, aRanksBefore, aBusy, aOpen, aShut]) := by
  refine GM.go RX2 (by decide) rfl (Nat.le_of_ble_eq_true rfl) ?_
  intro p e s m args below meth c ls R Q H locs X hr hlk hT hG hl hR hQ
  have hx := X.1
  have hb := X.2.1
  have hl : lv_has ls 5 [(0, .ref (q 25))] := hl
  unfold f2_pickNext at h
  refine lv_iconst (v := 0) hx hb dX2_pickNext_0 (by decide) ?_
  refine lv_istore_n (lv' := [(1, .int 0), (0, .ref (q 25))]) hx hb dX2_pickNext_1 rfl hl (by decide) rfl (fun ls hl => ?_)
  refine lv_ldc (v := 268435456) hx hb X.2.2.2.1 (X.2.2.2.2 _ cn_X2_87) dX2_pickNext_2 ?_
  refine lv_istore_n (lv' := [(2, .int 268435456), (1, .int 0), (0, .ref (q 25))]) hx hb dX2_pickNext_4 rfl hl (by decide) rfl (fun ls hl => ?_)
  refine lv_iconst (v := 0) hx hb dX2_pickNext_5 (by decide) ?_
  refine lv_istore_n (lv' := [(3, .int 0), (2, .int 268435456), (1, .int 0), (0, .ref (q 25))]) hx hb dX2_pickNext_6 rfl hl (by decide) rfl (fun ls hl => ?_)
  obtain ⟨x1_6, gApartWithout_7, gNeeded_8, eL9, h⟩ := bnd3_some h
  have JX9 : ∀ (H : Heap) (locs : List Loc) (ls : Array Slot), GH D cI cZ layB q s ([iReadings, iAlterations, iRankings, iLetters, iCurrent, iDue, iSize, iLsize], [], [gCosts, gWorths, gMiddles, gApart, gApartWithout_7, gNeeded_8, gUps, gDowns, gKeys, gNexts, gShutKeys, aCodes, aPbegins, aPends, aPlengths, aBegins, aEnds, aLengths, aRanks, aRoadsByRank, aRow, aRanksBefore, aBusy, aOpen, aShut]) H locs → lv_has ls 5 [(1, .int x1_6)] → W p l e R s m args below meth c H locs 0 0 Q (F0 m 53 ls []) := by
    intro H locs ls hG hl
    refine lv_iload_n hx hb dX2_pickNext_53 rfl (lv_at hl 0 rfl) ?_
    cases h
    rw [hQ]
    exact g_iret X hT hG hr hlk dX2_pickNext_54
  refine lpG_W (Wh := fun z => ∀ (H : Heap) (locs : List Loc) (ls : Array Slot), GH D cI cZ layB q s ([iReadings, iAlterations, iRankings, iLetters, iCurrent, iDue, iSize, iLsize], [], [gCosts, gWorths, gMiddles, gApart, z.2.2.2.1, z.2.2.2.2, gUps, gDowns, gKeys, gNexts, gShutKeys, aCodes, aPbegins, aPends, aPlengths, aBegins, aEnds, aLengths, aRanks, aRoadsByRank, aRow, aRanksBefore, aBusy, aOpen, aShut]) H locs → lv_has ls 5 [(0, .ref (q 25)), (1, .int (z.1)), (2, .int (z.2.1)), (3, .int (z.2.2.1))] → W p l e R s m args below meth c H locs 0 0 Q (F0 m 7 ls [])) ?_ fu _ eL9 H locs ls hG (lv_sub hl [3, 2, 1, 0] rfl)
  intro z rr9 hb9 hin9 hout9
  obtain ⟨x1_1, x2_2, x3_3, gApartWithout_4, gNeeded_5⟩ := z
  intro H locs ls hG hl
  have hb9 : f2_pickNext_b1 fu iLsize aRanks gWorths gApart x1_1 x2_2 x3_3 gApartWithout_4 gNeeded_5 = some rr9 := hb9
  have hG : GH D cI cZ layB q s ([iReadings, iAlterations, iRankings, iLetters, iCurrent, iDue, iSize, iLsize], [], [gCosts, gWorths, gMiddles, gApart, gApartWithout_4, gNeeded_5, gUps, gDowns, gKeys, gNexts, gShutKeys, aCodes, aPbegins, aPends, aPlengths, aBegins, aEnds, aLengths, aRanks, aRoadsByRank, aRow, aRanksBefore, aBusy, aOpen, aShut]) H locs := hG
  have hl : lv_has ls 5 [(0, .ref (q 25)), (1, .int x1_1), (2, .int x2_2), (3, .int x3_3)] := hl
  unfold f2_pickNext_b1 at hb9
  refine lv_iload_n hx hb dX2_pickNext_7 rfl (lv_at hl 3 rfl) ?_
  refine lv_aload_n hx hb dX2_pickNext_8 rfl (lv_at hl 0 rfl) ?_
  refine g_get (v := .int iLsize) X hT hG fl_X2_47 25 rfl rfl rfl dX2_pickNext_9 ?_
  refine lv_icmp_ge (tgt := 53) hx hb dX2_pickNext_12 (by decide) (fun cb10 => ?_) (fun cb10 => ?_)
  · have hb9 := ite_t cb10 hb9
    have eo := hout9 _ (Option.some.inj hb9).symm
    cases eo
    exact JX9 H locs ls hG (lv_sub hl [1] rfl)
  · have hb9 := ite_f cb10 hb9
    refine lv_aload_n hx hb dX2_pickNext_15 rfl (lv_at hl 0 rfl) ?_
    refine lv_iload_n hx hb dX2_pickNext_16 rfl (lv_at hl 3 rfl) ?_
    obtain ⟨r_11, ec12, hb9⟩ := bnd1_some hb9
    refine g_callVr [.int x3_3] [] 25 X hT hG ml_X2_80 (c_X2_isFree hq ec12) rfl rfl rfl rfl rfl hl.1 (Nat.le_of_ble_eq_true rfl) (by rw [hR]; exact ⟨Nat.le_of_ble_eq_true rfl, Nat.le_of_ble_eq_true rfl⟩) dX2_pickNext_17 (fun H locs hG => ?_)
    obtain ⟨x1_13, x2_14, gApartWithout_15, gNeeded_16, er17, hb9⟩ := bnd4_some hb9
    have J17 : ∀ (H : Heap) (locs : List Loc) (ls : Array Slot), GH D cI cZ layB q s ([iReadings, iAlterations, iRankings, iLetters, iCurrent, iDue, iSize, iLsize], [], [gCosts, gWorths, gMiddles, gApart, gApartWithout_15, gNeeded_16, gUps, gDowns, gKeys, gNexts, gShutKeys, aCodes, aPbegins, aPends, aPlengths, aBegins, aEnds, aLengths, aRanks, aRoadsByRank, aRow, aRanksBefore, aBusy, aOpen, aShut]) H locs → lv_has ls 5 [(0, .ref (q 25)), (1, .int x1_13), (2, .int x2_14), (3, .int x3_3)] → W p l e R s m args below meth c H locs 0 0 Q (F0 m 47 ls []) := by
      intro H locs ls hG hl
      obtain ⟨x3_27, ex3_27⟩ : ∃ z : Int32, z = x3_3 + 1 := ⟨_, rfl⟩
      have hb9 := bd_e ex3_27 hb9
      refine lv_iinc (v := x3_27) (lv' := [(3, .int x3_27), (0, .ref (q 25)), (1, .int x1_13), (2, .int x2_14)]) hx hb dX2_pickNext_47 hl (k := 3) rfl (by rw [ex3_27]; rfl) (by decide) rfl (fun ls hl => ?_)
      refine lv_goto (tgt := 7) hx hb dX2_pickNext_50 (by decide) ?_
      exact hin9 _ (Option.some.inj hb9).symm H locs ls hG (lv_sub hl [1, 2, 3, 0] rfl)
    refine lv_if_eq (tgt := 47) hx hb dX2_pickNext_20 (by decide) (fun cb18 => ?_) (fun cb18 => ?_)
    · have er17 := ite_t cb18 er17
      cases er17
      exact J17 H locs ls hG (lv_sub hl [0, 1, 2, 3] rfl)
    · have er17 := ite_f cb18 er17
      refine lv_aload_n hx hb dX2_pickNext_23 rfl (lv_at hl 0 rfl) ?_
      refine lv_iload_n hx hb dX2_pickNext_24 rfl (lv_at hl 3 rfl) ?_
      obtain ⟨r_19, gApartWithout_20, gNeeded_21, ec22, er17⟩ := bnd3_some er17
      refine g_callVr [.int x3_3] [] 25 X hT hG ml_X2_92 (c_X2_markNeeded hq ec22) rfl rfl rfl rfl rfl hl.1 (Nat.le_of_ble_eq_true rfl) (by rw [hR]; exact ⟨Nat.le_of_ble_eq_true rfl, Nat.le_of_ble_eq_true rfl⟩) dX2_pickNext_25 (fun H locs hG => ?_)
      have hG : GH D cI cZ layB q s ([iReadings, iAlterations, iRankings, iLetters, iCurrent, iDue, iSize, iLsize], [], [gCosts, gWorths, gMiddles, gApart, gApartWithout_20, gNeeded_21, gUps, gDowns, gKeys, gNexts, gShutKeys, aCodes, aPbegins, aPends, aPlengths, aBegins, aEnds, aLengths, aRanks, aRoadsByRank, aRow, aRanksBefore, aBusy, aOpen, aShut]) H locs := hG
      refine lv_aload_n hx hb dX2_pickNext_28 rfl (lv_at hl 0 rfl) ?_
      refine lv_iload_n hx hb dX2_pickNext_29 rfl (lv_at hl 3 rfl) ?_
      obtain ⟨r_23, ec24, er17⟩ := bnd1_some er17
      refine g_callVr [.int x3_3] [.int r_19] 25 X hT hG ml_X2_96 (c_X2_countFreeArcs hq ec24) rfl rfl rfl rfl rfl hl.1 (Nat.le_of_ble_eq_true rfl) (by rw [hR]; exact ⟨Nat.le_of_ble_eq_true rfl, Nat.le_of_ble_eq_true rfl⟩) dX2_pickNext_30 (fun H locs hG => ?_)
      refine lv_isub hx hb dX2_pickNext_33 ?_
      refine lv_topi (fun x4_25 ex4_25 => ?_)
      have er17 := bd_e ex4_25 er17
      refine lv_istore (lv' := [(4, .int x4_25), (0, .ref (q 25)), (1, .int x1_1), (2, .int x2_2), (3, .int x3_3)]) hx hb dX2_pickNext_34 hl (by decide) rfl (fun ls hl => ?_)
      refine lv_iload hx hb dX2_pickNext_36 (lv_at hl 0 rfl) ?_
      refine lv_iload_n hx hb dX2_pickNext_38 rfl (lv_at hl 3 rfl) ?_
      refine lv_icmp_ge (tgt := 47) hx hb dX2_pickNext_39 (by decide) (fun cb26 => ?_) (fun cb26 => ?_)
      · have er17 := ite_t cb26 er17
        cases er17
        exact J17 H locs ls hG (lv_sub hl [1, 2, 3, 4] rfl)
      · have er17 := ite_f cb26 er17
        refine lv_iload_n hx hb dX2_pickNext_42 rfl (lv_at hl 4 rfl) ?_
        refine lv_istore_n (lv' := [(1, .int x3_3), (4, .int x4_25), (0, .ref (q 25)), (2, .int x2_2), (3, .int x3_3)]) hx hb dX2_pickNext_43 rfl hl (by decide) rfl (fun ls hl => ?_)
        refine lv_iload hx hb dX2_pickNext_44 (lv_at hl 1 rfl) ?_
        refine lv_istore_n (lv' := [(2, .int x4_25), (1, .int x3_3), (4, .int x4_25), (0, .ref (q 25)), (3, .int x3_3)]) hx hb dX2_pickNext_46 rfl hl (by decide) rfl (fun ls hl => ?_)
        cases er17
        exact J17 H locs ls hG (lv_sub hl [3, 1, 0, 4] rfl)
set_option maxHeartbeats 4000000 in
set_option maxRecDepth 100000 in
theorem c_X1_get_5 (hq : gJ layB q) {p1 : Int32} {p2 : Int32} {o_r : Int32} (h : f1_get p1 p2 gNeeded = some o_r) :
    GM l yX1_get cX1_get 3 (some .int) 0 0 D cI cZ layB q [.ref (q 5), .int p1, .int p2] ([iReadings, iAlterations, iRankings, iLetters, iCurrent, iDue, iSize, iLsize], [], [gCosts, gWorths, gMiddles, gApart, gApartWithout, gNeeded, gUps, gDowns, gKeys, gNexts, gShutKeys, aCodes, aPbegins, aPends, aPlengths, aBegins, aEnds, aLengths, aRanks, aRoadsByRank, aRow, aRanksBefore, aBusy, aOpen, aShut]) (some (.int o_r)) ([iReadings, iAlterations, iRankings, iLetters, iCurrent, iDue, iSize, iLsize], [], [gCosts, gWorths, gMiddles, gApart, gApartWithout, gNeeded, gUps, gDowns, gKeys, gNexts, gShutKeys, aCodes, aPbegins, aPends, aPlengths, aBegins, aEnds, aLengths, aRanks, aRoadsByRank, aRow, aRanksBefore, aBusy, aOpen, aShut]) := by
  refine GM.go RX1 (by decide) rfl (Nat.le_of_ble_eq_true rfl) ?_
  intro p e s m args below meth c ls R Q H locs X hr hlk hT hG hl hR hQ
  have hx := X.1
  have hb := X.2.1
  have hl : lv_has ls 3 [(0, .ref (q 5)), (1, .int p1), (2, .int p2)] := hl
  unfold f1_get at h
  refine lv_aload_n hx hb dX1_get_0 rfl (lv_at hl 0 rfl) ?_
  refine g_get (v := .ref (q 16)) X hT hG fl_X1_9 5 rfl rfl rfl dX1_get_1 ?_
  refine lv_iload_n hx hb dX1_get_4 rfl (lv_at hl 1 rfl) ?_
  refine lv_bipush (v := 12) hx hb dX1_get_5 (by decide) ?_
  refine lv_imul hx hb dX1_get_7 ?_
  refine lv_iload_n hx hb dX1_get_8 rfl (lv_at hl 2 rfl) ?_
  refine lv_iadd hx hb dX1_get_9 ?_
  obtain ⟨hi1, h⟩ := ckin_some h
  refine g_ald (f := gNeeded) X hT hG 16 rfl rfl hi1 dX1_get_10 ?_
  cases h
  rw [hQ]
  exact g_iret X hT hG hr hlk dX1_get_11
def f2_giveRank_b2 (iLsize : Int32) (x3_5 : Int32) (gNeeded_3 : (Nat → Int32)) (p1 : Int32) (x4_12 : Int32) (gWorths_13 : (Nat → Int32)) (gMiddles_14 : (Nat → Int32)) : Option ((Int32 × (Nat → Int32) × (Nat → Int32)) ⊕ ((Nat → Int32) × (Nat → Int32))) :=
  if iLsize ≤ x4_12 then (some (.inr (gWorths_13, gMiddles_14))) else bnd1 (f1_get x3_5 x4_12 gNeeded_3) fun (r_19 : Int32) => bnd2 (if r_19 = 1 then (bnd1 (f1_get x3_5 p1 gWorths_13) fun (r_25 : Int32) => bnd1 (f1_get p1 x4_12 gWorths_13) fun (r_27 : Int32) => bnd1 (f1_set x3_5 x4_12 gWorths_13 (r_25 + r_27)) fun (gWorths_29 : (Nat → Int32)) => bnd1 (f1_set x3_5 x4_12 gMiddles_14 p1) fun (gMiddles_31 : (Nat → Int32)) => some (gWorths_29, gMiddles_31)) else some (gWorths_13, gMiddles_14)) fun (gWorths_21 : (Nat → Int32)) (gMiddles_22 : (Nat → Int32)) => bd (x4_12 + 1) fun x4_33 => some (.inl (x4_33, gWorths_21, gMiddles_22))
def f2_giveRank_b1 (fu : Nat) (iLsize : Int32) (gNeeded_3 : (Nat → Int32)) (p1 : Int32) (x3_5 : Int32) (gWorths_6 : (Nat → Int32)) (gMiddles_7 : (Nat → Int32)) : Option ((Int32 × (Nat → Int32) × (Nat → Int32)) ⊕ ((Nat → Int32) × (Nat → Int32))) :=
  if iLsize ≤ x3_5 then (some (.inr (gWorths_6, gMiddles_7))) else bnd2 (lpG (fun z => f2_giveRank_b2 iLsize x3_5 gNeeded_3 p1 z.1 z.2.1 z.2.2) fu ((0 : Int32), gWorths_6, gMiddles_7)) fun (gWorths_15 : (Nat → Int32)) (gMiddles_16 : (Nat → Int32)) => bd (x3_5 + 1) fun x3_34 => some (.inl (x3_34, gWorths_15, gMiddles_16))
def f2_giveRank (fu : Nat) (iLsize : Int32) (aRanks : (Nat → Int32)) (p1 : Int32) (gWorths : (Nat → Int32)) (gApartWithout : (Nat → Int32)) (gApart : (Nat → Int32)) (gNeeded : (Nat → Int32)) (gMiddles : (Nat → Int32)) (p2 : Int32) (aRoadsByRank : (Nat → Int32)) : Option ((Nat → Int32) × (Nat → Int32) × (Nat → Int32) × (Nat → Int32) × (Nat → Int32) × (Nat → Int32)) :=
  bnd3 (f2_markNeeded fu iLsize aRanks p1 gWorths gApartWithout gApart gNeeded) fun (r_1 : Int32) (gApartWithout_2 : (Nat → Int32)) (gNeeded_3 : (Nat → Int32)) => bnd2 (lpG (fun z => f2_giveRank_b1 fu iLsize gNeeded_3 p1 z.1 z.2.1 z.2.2) fu ((0 : Int32), gWorths, gMiddles)) fun (gWorths_8 : (Nat → Int32)) (gMiddles_9 : (Nat → Int32)) => ckin p1 12 (bd (upd aRanks p1.toNatClampNeg p2) fun aRanks_36 => ckin p2 12 (bd (upd aRoadsByRank p2.toNatClampNeg p1) fun aRoadsByRank_38 => some (gWorths_8, gMiddles_9, gApartWithout_2, gNeeded_3, aRanks_36, aRoadsByRank_38)))
set_option maxHeartbeats 4000000 in
set_option maxRecDepth 100000 in
theorem c_X2_giveRank (hq : gJ layB q) {fu : Nat} {p1 : Int32} {p2 : Int32} {o_gWorths : (Nat → Int32)} {o_gMiddles : (Nat → Int32)} {o_gApartWithout : (Nat → Int32)} {o_gNeeded : (Nat → Int32)} {o_aRanks : (Nat → Int32)} {o_aRoadsByRank : (Nat → Int32)} (h : f2_giveRank fu iLsize aRanks p1 gWorths gApartWithout gApart gNeeded gMiddles p2 aRoadsByRank = some (o_gWorths, o_gMiddles, o_gApartWithout, o_gNeeded, o_aRanks, o_aRoadsByRank)) :
    GM l yX2_giveRank cX2_giveRank 5 none 4 102 D cI cZ layB q [.ref (q 25), .int p1, .int p2] ([iReadings, iAlterations, iRankings, iLetters, iCurrent, iDue, iSize, iLsize], [], [gCosts, gWorths, gMiddles, gApart, gApartWithout, gNeeded, gUps, gDowns, gKeys, gNexts, gShutKeys, aCodes, aPbegins, aPends, aPlengths, aBegins, aEnds, aLengths, aRanks, aRoadsByRank, aRow, aRanksBefore, aBusy, aOpen, aShut]) none ([iReadings, iAlterations, iRankings, iLetters, iCurrent, iDue, iSize, iLsize], [], [gCosts, o_gWorths, o_gMiddles, gApart, o_gApartWithout, o_gNeeded, gUps, gDowns, gKeys, gNexts, gShutKeys, aCodes, aPbegins, aPends, aPlengths, aBegins, aEnds, aLengths, o_aRanks, o_aRoadsByRank, aRow, aRanksBefore, aBusy, aOpen, aShut]) := by
  refine GM.go RX2 (by decide) rfl (Nat.le_of_ble_eq_true rfl) ?_
  intro p e s m args below meth c ls R Q H locs X hr hlk hT hG hl hR hQ
  have hx := X.1
  have hb := X.2.1
  have hl : lv_has ls 5 [(0, .ref (q 25)), (1, .int p1), (2, .int p2)] := hl
  unfold f2_giveRank at h
  refine lv_aload_n hx hb dX2_giveRank_0 rfl (lv_at hl 0 rfl) ?_
  refine lv_iload_n hx hb dX2_giveRank_1 rfl (lv_at hl 1 rfl) ?_
  obtain ⟨r_1, gApartWithout_2, gNeeded_3, ec4, h⟩ := bnd3_some h
  refine g_callVr [.int p1] [] 25 X hT hG ml_X2_92 (c_X2_markNeeded hq ec4) rfl rfl rfl rfl rfl hl.1 (Nat.le_of_ble_eq_true rfl) (by rw [hR]; exact ⟨Nat.le_of_ble_eq_true rfl, Nat.le_of_ble_eq_true rfl⟩) dX2_giveRank_2 (fun H locs hG => ?_)
  have hG : GH D cI cZ layB q s ([iReadings, iAlterations, iRankings, iLetters, iCurrent, iDue, iSize, iLsize], [], [gCosts, gWorths, gMiddles, gApart, gApartWithout_2, gNeeded_3, gUps, gDowns, gKeys, gNexts, gShutKeys, aCodes, aPbegins, aPends, aPlengths, aBegins, aEnds, aLengths, aRanks, aRoadsByRank, aRow, aRanksBefore, aBusy, aOpen, aShut]) H locs := hG
  refine lv_pop hx hb dX2_giveRank_5 rfl ?_
  refine lv_iconst (v := 0) hx hb dX2_giveRank_6 (by decide) ?_
  refine lv_istore_n (lv' := [(3, .int 0), (0, .ref (q 25)), (1, .int p1), (2, .int p2)]) hx hb dX2_giveRank_7 rfl hl (by decide) rfl (fun ls hl => ?_)
  obtain ⟨gWorths_8, gMiddles_9, eL10, h⟩ := bnd2_some h
  have JX10 : ∀ (H : Heap) (locs : List Loc) (ls : Array Slot), GH D cI cZ layB q s ([iReadings, iAlterations, iRankings, iLetters, iCurrent, iDue, iSize, iLsize], [], [gCosts, gWorths_8, gMiddles_9, gApart, gApartWithout_2, gNeeded_3, gUps, gDowns, gKeys, gNexts, gShutKeys, aCodes, aPbegins, aPends, aPlengths, aBegins, aEnds, aLengths, aRanks, aRoadsByRank, aRow, aRanksBefore, aBusy, aOpen, aShut]) H locs → lv_has ls 5 [(0, .ref (q 25)), (1, .int p1), (2, .int p2)] → W p l e R s m args below meth c H locs 0 0 Q (F0 m 95 ls []) := by
    intro H locs ls hG hl
    refine lv_aload_n hx hb dX2_giveRank_95 rfl (lv_at hl 0 rfl) ?_
    refine g_get (v := .ref (q 36)) X hT hG fl_X2_21 25 rfl rfl rfl dX2_giveRank_96 ?_
    refine lv_iload_n hx hb dX2_giveRank_99 rfl (lv_at hl 1 rfl) ?_
    refine lv_iload_n hx hb dX2_giveRank_100 rfl (lv_at hl 2 rfl) ?_
    obtain ⟨hi35, h⟩ := ckin_some h
    obtain ⟨aRanks_36, eaRanks_36⟩ : ∃ z : Nat → Int32, z = upd aRanks p1.toNatClampNeg p2 := ⟨_, rfl⟩
    have h := bd_e eaRanks_36 h
    refine g_ast (w' := ([iReadings, iAlterations, iRankings, iLetters, iCurrent, iDue, iSize, iLsize], [], [gCosts, gWorths_8, gMiddles_9, gApart, gApartWithout_2, gNeeded_3, gUps, gDowns, gKeys, gNexts, gShutKeys, aCodes, aPbegins, aPends, aPlengths, aBegins, aEnds, aLengths, aRanks_36, aRoadsByRank, aRow, aRanksBefore, aBusy, aOpen, aShut])) X hT hq hG 36 rfl ga_B_aRanks (Nat.le_of_ble_eq_true rfl) hi35 (by subst eaRanks_36; rfl) dX2_giveRank_101 (fun H locs hG => ?_)
    refine lv_aload_n hx hb dX2_giveRank_102 rfl (lv_at hl 0 rfl) ?_
    refine g_get (v := .ref (q 37)) X hT hG fl_X2_25 25 rfl rfl rfl dX2_giveRank_103 ?_
    refine lv_iload_n hx hb dX2_giveRank_106 rfl (lv_at hl 2 rfl) ?_
    refine lv_iload_n hx hb dX2_giveRank_107 rfl (lv_at hl 1 rfl) ?_
    obtain ⟨hi37, h⟩ := ckin_some h
    obtain ⟨aRoadsByRank_38, eaRoadsByRank_38⟩ : ∃ z : Nat → Int32, z = upd aRoadsByRank p2.toNatClampNeg p1 := ⟨_, rfl⟩
    have h := bd_e eaRoadsByRank_38 h
    refine g_ast (w' := ([iReadings, iAlterations, iRankings, iLetters, iCurrent, iDue, iSize, iLsize], [], [gCosts, gWorths_8, gMiddles_9, gApart, gApartWithout_2, gNeeded_3, gUps, gDowns, gKeys, gNexts, gShutKeys, aCodes, aPbegins, aPends, aPlengths, aBegins, aEnds, aLengths, aRanks_36, aRoadsByRank_38, aRow, aRanksBefore, aBusy, aOpen, aShut])) X hT hq hG 37 rfl ga_B_aRoadsByRank (Nat.le_of_ble_eq_true rfl) hi37 (by subst eaRoadsByRank_38; rfl) dX2_giveRank_108 (fun H locs hG => ?_)
    cases h
    rw [hQ]
    exact g_vret X hT hG hr hlk dX2_giveRank_109
  refine lpG_W (Wh := fun z => ∀ (H : Heap) (locs : List Loc) (ls : Array Slot), GH D cI cZ layB q s ([iReadings, iAlterations, iRankings, iLetters, iCurrent, iDue, iSize, iLsize], [], [gCosts, z.2.1, z.2.2, gApart, gApartWithout_2, gNeeded_3, gUps, gDowns, gKeys, gNexts, gShutKeys, aCodes, aPbegins, aPends, aPlengths, aBegins, aEnds, aLengths, aRanks, aRoadsByRank, aRow, aRanksBefore, aBusy, aOpen, aShut]) H locs → lv_has ls 5 [(0, .ref (q 25)), (1, .int p1), (2, .int p2), (3, .int (z.1))] → W p l e R s m args below meth c H locs 0 0 Q (F0 m 8 ls [])) ?_ fu _ eL10 H locs ls hG (lv_sub hl [1, 2, 3, 0] rfl)
  intro z rr10 hb10 hin10 hout10
  obtain ⟨x3_5, gWorths_6, gMiddles_7⟩ := z
  intro H locs ls hG hl
  have hb10 : f2_giveRank_b1 fu iLsize gNeeded_3 p1 x3_5 gWorths_6 gMiddles_7 = some rr10 := hb10
  have hG : GH D cI cZ layB q s ([iReadings, iAlterations, iRankings, iLetters, iCurrent, iDue, iSize, iLsize], [], [gCosts, gWorths_6, gMiddles_7, gApart, gApartWithout_2, gNeeded_3, gUps, gDowns, gKeys, gNexts, gShutKeys, aCodes, aPbegins, aPends, aPlengths, aBegins, aEnds, aLengths, aRanks, aRoadsByRank, aRow, aRanksBefore, aBusy, aOpen, aShut]) H locs := hG
  have hl : lv_has ls 5 [(0, .ref (q 25)), (1, .int p1), (2, .int p2), (3, .int x3_5)] := hl
  unfold f2_giveRank_b1 at hb10
  refine lv_iload_n hx hb dX2_giveRank_8 rfl (lv_at hl 3 rfl) ?_
  refine lv_aload_n hx hb dX2_giveRank_9 rfl (lv_at hl 0 rfl) ?_
  refine g_get (v := .int iLsize) X hT hG fl_X2_47 25 rfl rfl rfl dX2_giveRank_10 ?_
  refine lv_icmp_ge (tgt := 95) hx hb dX2_giveRank_13 (by decide) (fun cb11 => ?_) (fun cb11 => ?_)
  · have hb10 := ite_t cb11 hb10
    have eo := hout10 _ (Option.some.inj hb10).symm
    cases eo
    exact JX10 H locs ls hG (lv_sub hl [0, 1, 2] rfl)
  · have hb10 := ite_f cb11 hb10
    refine lv_iconst (v := 0) hx hb dX2_giveRank_16 (by decide) ?_
    refine lv_istore (lv' := [(4, .int 0), (0, .ref (q 25)), (1, .int p1), (2, .int p2), (3, .int x3_5)]) hx hb dX2_giveRank_17 hl (by decide) rfl (fun ls hl => ?_)
    obtain ⟨gWorths_15, gMiddles_16, eL17, hb10⟩ := bnd2_some hb10
    have JX17 : ∀ (H : Heap) (locs : List Loc) (ls : Array Slot), GH D cI cZ layB q s ([iReadings, iAlterations, iRankings, iLetters, iCurrent, iDue, iSize, iLsize], [], [gCosts, gWorths_15, gMiddles_16, gApart, gApartWithout_2, gNeeded_3, gUps, gDowns, gKeys, gNexts, gShutKeys, aCodes, aPbegins, aPends, aPlengths, aBegins, aEnds, aLengths, aRanks, aRoadsByRank, aRow, aRanksBefore, aBusy, aOpen, aShut]) H locs → lv_has ls 5 [(0, .ref (q 25)), (1, .int p1), (2, .int p2), (3, .int x3_5)] → W p l e R s m args below meth c H locs 0 0 Q (F0 m 89 ls []) := by
      intro H locs ls hG hl
      obtain ⟨x3_34, ex3_34⟩ : ∃ z : Int32, z = x3_5 + 1 := ⟨_, rfl⟩
      have hb10 := bd_e ex3_34 hb10
      refine lv_iinc (v := x3_34) (lv' := [(3, .int x3_34), (0, .ref (q 25)), (1, .int p1), (2, .int p2)]) hx hb dX2_giveRank_89 hl (k := 3) rfl (by rw [ex3_34]; rfl) (by decide) rfl (fun ls hl => ?_)
      refine lv_goto (tgt := 8) hx hb dX2_giveRank_92 (by decide) ?_
      exact hin10 _ (Option.some.inj hb10).symm H locs ls hG (lv_sub hl [1, 2, 3, 0] rfl)
    refine lpG_W (Wh := fun z => ∀ (H : Heap) (locs : List Loc) (ls : Array Slot), GH D cI cZ layB q s ([iReadings, iAlterations, iRankings, iLetters, iCurrent, iDue, iSize, iLsize], [], [gCosts, z.2.1, z.2.2, gApart, gApartWithout_2, gNeeded_3, gUps, gDowns, gKeys, gNexts, gShutKeys, aCodes, aPbegins, aPends, aPlengths, aBegins, aEnds, aLengths, aRanks, aRoadsByRank, aRow, aRanksBefore, aBusy, aOpen, aShut]) H locs → lv_has ls 5 [(0, .ref (q 25)), (1, .int p1), (2, .int p2), (3, .int x3_5), (4, .int (z.1))] → W p l e R s m args below meth c H locs 0 0 Q (F0 m 19 ls [])) ?_ fu _ eL17 H locs ls hG (lv_sub hl [1, 2, 3, 4, 0] rfl)
    intro z rr17 hb17 hin17 hout17
    obtain ⟨x4_12, gWorths_13, gMiddles_14⟩ := z
    intro H locs ls hG hl
    have hb17 : f2_giveRank_b2 iLsize x3_5 gNeeded_3 p1 x4_12 gWorths_13 gMiddles_14 = some rr17 := hb17
    have hG : GH D cI cZ layB q s ([iReadings, iAlterations, iRankings, iLetters, iCurrent, iDue, iSize, iLsize], [], [gCosts, gWorths_13, gMiddles_14, gApart, gApartWithout_2, gNeeded_3, gUps, gDowns, gKeys, gNexts, gShutKeys, aCodes, aPbegins, aPends, aPlengths, aBegins, aEnds, aLengths, aRanks, aRoadsByRank, aRow, aRanksBefore, aBusy, aOpen, aShut]) H locs := hG
    have hl : lv_has ls 5 [(0, .ref (q 25)), (1, .int p1), (2, .int p2), (3, .int x3_5), (4, .int x4_12)] := hl
    unfold f2_giveRank_b2 at hb17
    refine lv_iload hx hb dX2_giveRank_19 (lv_at hl 4 rfl) ?_
    refine lv_aload_n hx hb dX2_giveRank_21 rfl (lv_at hl 0 rfl) ?_
    refine g_get (v := .int iLsize) X hT hG fl_X2_47 25 rfl rfl rfl dX2_giveRank_22 ?_
    refine lv_icmp_ge (tgt := 89) hx hb dX2_giveRank_25 (by decide) (fun cb18 => ?_) (fun cb18 => ?_)
    · have hb17 := ite_t cb18 hb17
      have eo := hout17 _ (Option.some.inj hb17).symm
      cases eo
      exact JX17 H locs ls hG (lv_sub hl [0, 1, 2, 3] rfl)
    · have hb17 := ite_f cb18 hb17
      refine lv_aload_n hx hb dX2_giveRank_28 rfl (lv_at hl 0 rfl) ?_
      refine g_get (v := .ref (q 5)) X hT hG fl_X2_40 25 rfl rfl rfl dX2_giveRank_29 ?_
      refine lv_iload_n hx hb dX2_giveRank_32 rfl (lv_at hl 3 rfl) ?_
      refine lv_iload hx hb dX2_giveRank_33 (lv_at hl 4 rfl) ?_
      obtain ⟨r_19, ec20, hb17⟩ := bnd1_some hb17
      refine g_callVr [.int x3_5, .int x4_12] [] 5 X hT hG ml_X2_84 (c_X1_get_5 hq ec20) rfl rfl rfl rfl rfl hl.1 (Nat.le_of_ble_eq_true rfl) (by rw [hR]; exact ⟨Nat.le_of_ble_eq_true rfl, Nat.le_of_ble_eq_true rfl⟩) dX2_giveRank_35 (fun H locs hG => ?_)
      refine lv_iconst (v := 1) hx hb dX2_giveRank_38 (by decide) ?_
      obtain ⟨gWorths_21, gMiddles_22, er23, hb17⟩ := bnd2_some hb17
      have J23 : ∀ (H : Heap) (locs : List Loc) (ls : Array Slot), GH D cI cZ layB q s ([iReadings, iAlterations, iRankings, iLetters, iCurrent, iDue, iSize, iLsize], [], [gCosts, gWorths_21, gMiddles_22, gApart, gApartWithout_2, gNeeded_3, gUps, gDowns, gKeys, gNexts, gShutKeys, aCodes, aPbegins, aPends, aPlengths, aBegins, aEnds, aLengths, aRanks, aRoadsByRank, aRow, aRanksBefore, aBusy, aOpen, aShut]) H locs → lv_has ls 5 [(0, .ref (q 25)), (1, .int p1), (2, .int p2), (3, .int x3_5), (4, .int x4_12)] → W p l e R s m args below meth c H locs 0 0 Q (F0 m 83 ls []) := by
        intro H locs ls hG hl
        obtain ⟨x4_33, ex4_33⟩ : ∃ z : Int32, z = x4_12 + 1 := ⟨_, rfl⟩
        have hb17 := bd_e ex4_33 hb17
        refine lv_iinc (v := x4_33) (lv' := [(4, .int x4_33), (0, .ref (q 25)), (1, .int p1), (2, .int p2), (3, .int x3_5)]) hx hb dX2_giveRank_83 hl (k := 4) rfl (by rw [ex4_33]; rfl) (by decide) rfl (fun ls hl => ?_)
        refine lv_goto (tgt := 19) hx hb dX2_giveRank_86 (by decide) ?_
        exact hin17 _ (Option.some.inj hb17).symm H locs ls hG (lv_sub hl [1, 2, 3, 4, 0] rfl)
      refine lv_icmp_ne (tgt := 83) hx hb dX2_giveRank_39 (by decide) (fun cb24 => ?_) (fun cb24 => ?_)
      · have er23 := ite_f cb24 er23
        cases er23
        exact J23 H locs ls hG (lv_sub hl [0, 1, 2, 3, 4] rfl)
      · have er23 := ite_t cb24 er23
        refine lv_aload_n hx hb dX2_giveRank_42 rfl (lv_at hl 0 rfl) ?_
        refine g_get (v := .ref (q 1)) X hT hG fl_X2_12 25 rfl rfl rfl dX2_giveRank_43 ?_
        refine lv_iload_n hx hb dX2_giveRank_46 rfl (lv_at hl 3 rfl) ?_
        refine lv_iload hx hb dX2_giveRank_47 (lv_at hl 4 rfl) ?_
        refine lv_aload_n hx hb dX2_giveRank_49 rfl (lv_at hl 0 rfl) ?_
        refine g_get (v := .ref (q 1)) X hT hG fl_X2_12 25 rfl rfl rfl dX2_giveRank_50 ?_
        refine lv_iload_n hx hb dX2_giveRank_53 rfl (lv_at hl 3 rfl) ?_
        refine lv_iload_n hx hb dX2_giveRank_54 rfl (lv_at hl 1 rfl) ?_
        obtain ⟨r_25, ec26, er23⟩ := bnd1_some er23
        refine g_callVr [.int x3_5, .int p1] [.int x4_12, .int x3_5, .ref (q 1)] 1 X hT hG ml_X2_84 (c_X1_get_1 hq ec26) rfl rfl rfl rfl rfl hl.1 (Nat.le_of_ble_eq_true rfl) (by rw [hR]; exact ⟨Nat.le_of_ble_eq_true rfl, Nat.le_of_ble_eq_true rfl⟩) dX2_giveRank_55 (fun H locs hG => ?_)
        refine lv_aload_n hx hb dX2_giveRank_58 rfl (lv_at hl 0 rfl) ?_
        refine g_get (v := .ref (q 1)) X hT hG fl_X2_12 25 rfl rfl rfl dX2_giveRank_59 ?_
        refine lv_iload_n hx hb dX2_giveRank_62 rfl (lv_at hl 1 rfl) ?_
        refine lv_iload hx hb dX2_giveRank_63 (lv_at hl 4 rfl) ?_
        obtain ⟨r_27, ec28, er23⟩ := bnd1_some er23
        refine g_callVr [.int p1, .int x4_12] [.int r_25, .int x4_12, .int x3_5, .ref (q 1)] 1 X hT hG ml_X2_84 (c_X1_get_1 hq ec28) rfl rfl rfl rfl rfl hl.1 (Nat.le_of_ble_eq_true rfl) (by rw [hR]; exact ⟨Nat.le_of_ble_eq_true rfl, Nat.le_of_ble_eq_true rfl⟩) dX2_giveRank_65 (fun H locs hG => ?_)
        refine lv_iadd hx hb dX2_giveRank_68 ?_
        obtain ⟨gWorths_29, ec30, er23⟩ := bnd1_some er23
        refine g_callVv [.int x3_5, .int x4_12, .int (r_25 + r_27)] [] 1 X hT hG ml_X2_76 (c_X1_set_1 hq ec30) rfl rfl rfl rfl rfl hl.1 (Nat.le_of_ble_eq_true rfl) (by rw [hR]; exact ⟨Nat.le_of_ble_eq_true rfl, Nat.le_of_ble_eq_true rfl⟩) dX2_giveRank_69 (fun H locs hG => ?_)
        have hG : GH D cI cZ layB q s ([iReadings, iAlterations, iRankings, iLetters, iCurrent, iDue, iSize, iLsize], [], [gCosts, gWorths_29, gMiddles_14, gApart, gApartWithout_2, gNeeded_3, gUps, gDowns, gKeys, gNexts, gShutKeys, aCodes, aPbegins, aPends, aPlengths, aBegins, aEnds, aLengths, aRanks, aRoadsByRank, aRow, aRanksBefore, aBusy, aOpen, aShut]) H locs := hG
        refine lv_aload_n hx hb dX2_giveRank_72 rfl (lv_at hl 0 rfl) ?_
        refine g_get (v := .ref (q 2)) X hT hG fl_X2_18 25 rfl rfl rfl dX2_giveRank_73 ?_
        refine lv_iload_n hx hb dX2_giveRank_76 rfl (lv_at hl 3 rfl) ?_
        refine lv_iload hx hb dX2_giveRank_77 (lv_at hl 4 rfl) ?_
        refine lv_iload_n hx hb dX2_giveRank_79 rfl (lv_at hl 1 rfl) ?_
        obtain ⟨gMiddles_31, ec32, er23⟩ := bnd1_some er23
        refine g_callVv [.int x3_5, .int x4_12, .int p1] [] 2 X hT hG ml_X2_76 (c_X1_set_2 hq ec32) rfl rfl rfl rfl rfl hl.1 (Nat.le_of_ble_eq_true rfl) (by rw [hR]; exact ⟨Nat.le_of_ble_eq_true rfl, Nat.le_of_ble_eq_true rfl⟩) dX2_giveRank_80 (fun H locs hG => ?_)
        have hG : GH D cI cZ layB q s ([iReadings, iAlterations, iRankings, iLetters, iCurrent, iDue, iSize, iLsize], [], [gCosts, gWorths_29, gMiddles_31, gApart, gApartWithout_2, gNeeded_3, gUps, gDowns, gKeys, gNexts, gShutKeys, aCodes, aPbegins, aPends, aPlengths, aBegins, aEnds, aLengths, aRanks, aRoadsByRank, aRow, aRanksBefore, aBusy, aOpen, aShut]) H locs := hG
        cases er23
        exact J23 H locs ls hG (lv_sub hl [0, 1, 2, 3, 4] rfl)
def f2_findOrder_b1 (fu : Nat) (iLsize_1 : Int32) (x2_6 : Int32) (gWorths_7 : (Nat → Int32)) (gMiddles_8 : (Nat → Int32)) (gApart_9 : (Nat → Int32)) (gApartWithout_10 : (Nat → Int32)) (gNeeded_11 : (Nat → Int32)) (aRanks_12 : (Nat → Int32)) (aRoadsByRank_13 : (Nat → Int32)) : Option ((Int32 × (Nat → Int32) × (Nat → Int32) × (Nat → Int32) × (Nat → Int32) × (Nat → Int32) × (Nat → Int32) × (Nat → Int32)) ⊕ ((Nat → Int32) × (Nat → Int32) × (Nat → Int32) × (Nat → Int32) × (Nat → Int32) × (Nat → Int32) × (Nat → Int32))) :=
  if iLsize_1 ≤ x2_6 then (some (.inr (gWorths_7, gMiddles_8, gApart_9, gApartWithout_10, gNeeded_11, aRanks_12, aRoadsByRank_13))) else bnd1 (f2_measureFree fu iLsize_1 aRanks_12 (-1) gWorths_7 gApart_9) fun (gApart_23 : (Nat → Int32)) => bnd3 (f2_pickNext fu iLsize_1 aRanks_12 gWorths_7 gApart_23 gApartWithout_10 gNeeded_11) fun (r_25 : Int32) (gApartWithout_26 : (Nat → Int32)) (gNeeded_27 : (Nat → Int32)) => bnd6 (f2_giveRank fu iLsize_1 aRanks_12 r_25 gWorths_7 gApartWithout_26 gApart_23 gNeeded_27 gMiddles_8 x2_6 aRoadsByRank_13) fun (gWorths_29 : (Nat → Int32)) (gMiddles_30 : (Nat → Int32)) (gApartWithout_31 : (Nat → Int32)) (gNeeded_32 : (Nat → Int32)) (aRanks_33 : (Nat → Int32)) (aRoadsByRank_34 : (Nat → Int32)) => bd (x2_6 + 1) fun x2_36 => some (.inl (x2_36, gWorths_29, gMiddles_30, gApart_23, gApartWithout_31, gNeeded_32, aRanks_33, aRoadsByRank_34))
def f2_findOrder (fu : Nat) (iSize : Int32) (gCosts : (Nat → Int32)) (aLengths : (Nat → Int32)) (gWorths : (Nat → Int32)) (gMiddles : (Nat → Int32)) (aRanks : (Nat → Int32)) (gApart : (Nat → Int32)) (gApartWithout : (Nat → Int32)) (gNeeded : (Nat → Int32)) (aRoadsByRank : (Nat → Int32)) : Option (Int32 × (Nat → Int32) × (Nat → Int32) × (Nat → Int32) × (Nat → Int32) × (Nat → Int32) × (Nat → Int32) × (Nat → Int32)) :=
  bnd4 (f2_startAnew fu iSize gCosts aLengths gWorths gMiddles aRanks) fun (iLsize_1 : Int32) (gWorths_2 : (Nat → Int32)) (gMiddles_3 : (Nat → Int32)) (aRanks_4 : (Nat → Int32)) => bnd7 (lpG (fun z => f2_findOrder_b1 fu iLsize_1 z.1 z.2.1 z.2.2.1 z.2.2.2.1 z.2.2.2.2.1 z.2.2.2.2.2.1 z.2.2.2.2.2.2.1 z.2.2.2.2.2.2.2) fu ((0 : Int32), gWorths_2, gMiddles_3, gApart, gApartWithout, gNeeded, aRanks_4, aRoadsByRank)) fun (gWorths_14 : (Nat → Int32)) (gMiddles_15 : (Nat → Int32)) (gApart_16 : (Nat → Int32)) (gApartWithout_17 : (Nat → Int32)) (gNeeded_18 : (Nat → Int32)) (aRanks_19 : (Nat → Int32)) (aRoadsByRank_20 : (Nat → Int32)) => some (iLsize_1, gWorths_14, gMiddles_15, gApart_16, gApartWithout_17, gNeeded_18, aRanks_19, aRoadsByRank_20)
set_option maxHeartbeats 4000000 in
set_option maxRecDepth 100000 in
theorem c_X2_findOrder_25_24 (hq : gJ layB q) {fu : Nat} {o_iLsize : Int32} {o_gWorths : (Nat → Int32)} {o_gMiddles : (Nat → Int32)} {o_gApart : (Nat → Int32)} {o_gApartWithout : (Nat → Int32)} {o_gNeeded : (Nat → Int32)} {o_aRanks : (Nat → Int32)} {o_aRoadsByRank : (Nat → Int32)} (h : f2_findOrder fu iSize gCosts aLengths gWorths gMiddles aRanks gApart gApartWithout gNeeded aRoadsByRank = some (o_iLsize, o_gWorths, o_gMiddles, o_gApart, o_gApartWithout, o_gNeeded, o_aRanks, o_aRoadsByRank)) :
    GM l yX2_findOrder cX2_findOrder 3 none 5 126 D cI cZ layB q [.ref (q 25), .ref (q 24)] ([iReadings, iAlterations, iRankings, iLetters, iCurrent, iDue, iSize, iLsize], [], [gCosts, gWorths, gMiddles, gApart, gApartWithout, gNeeded, gUps, gDowns, gKeys, gNexts, gShutKeys, aCodes, aPbegins, aPends, aPlengths, aBegins, aEnds, aLengths, aRanks, aRoadsByRank, aRow, aRanksBefore, aBusy, aOpen, aShut]) none ([iReadings, iAlterations, iRankings, iLetters, iCurrent, iDue, iSize, o_iLsize], [], [gCosts, o_gWorths, o_gMiddles, o_gApart, o_gApartWithout, o_gNeeded, gUps, gDowns, gKeys, gNexts, gShutKeys, aCodes, aPbegins, aPends, aPlengths, aBegins, aEnds, aLengths, o_aRanks, o_aRoadsByRank, aRow, aRanksBefore, aBusy, aOpen, aShut]) := by
  refine GM.go RX2 (by decide) rfl (Nat.le_of_ble_eq_true rfl) ?_
  intro p e s m args below meth c ls R Q H locs X hr hlk hT hG hl hR hQ
  have hx := X.1
  have hb := X.2.1
  have hl : lv_has ls 3 [(0, .ref (q 25)), (1, .ref (q 24))] := hl
  unfold f2_findOrder at h
  refine lv_aload_n hx hb dX2_findOrder_0 rfl (lv_at hl 0 rfl) ?_
  refine lv_aload_n hx hb dX2_findOrder_1 rfl (lv_at hl 1 rfl) ?_
  obtain ⟨iLsize_1, gWorths_2, gMiddles_3, aRanks_4, ec5, h⟩ := bnd4_some h
  refine g_callVv [.ref (q 24)] [] 25 X hT hG ml_X2_43 (c_X2_startAnew_25_24 hq ec5) rfl rfl rfl rfl rfl hl.1 (Nat.le_of_ble_eq_true rfl) (by rw [hR]; exact ⟨Nat.le_of_ble_eq_true rfl, Nat.le_of_ble_eq_true rfl⟩) dX2_findOrder_2 (fun H locs hG => ?_)
  have hG : GH D cI cZ layB q s ([iReadings, iAlterations, iRankings, iLetters, iCurrent, iDue, iSize, iLsize_1], [], [gCosts, gWorths_2, gMiddles_3, gApart, gApartWithout, gNeeded, gUps, gDowns, gKeys, gNexts, gShutKeys, aCodes, aPbegins, aPends, aPlengths, aBegins, aEnds, aLengths, aRanks_4, aRoadsByRank, aRow, aRanksBefore, aBusy, aOpen, aShut]) H locs := hG
  refine lv_iconst (v := 0) hx hb dX2_findOrder_5 (by decide) ?_
  refine lv_istore_n (lv' := [(2, .int 0), (0, .ref (q 25)), (1, .ref (q 24))]) hx hb dX2_findOrder_6 rfl hl (by decide) rfl (fun ls hl => ?_)
  obtain ⟨gWorths_14, gMiddles_15, gApart_16, gApartWithout_17, gNeeded_18, aRanks_19, aRoadsByRank_20, eL21, h⟩ := bnd7_some h
  have JX21 : ∀ (H : Heap) (locs : List Loc) (ls : Array Slot), GH D cI cZ layB q s ([iReadings, iAlterations, iRankings, iLetters, iCurrent, iDue, iSize, iLsize_1], [], [gCosts, gWorths_14, gMiddles_15, gApart_16, gApartWithout_17, gNeeded_18, gUps, gDowns, gKeys, gNexts, gShutKeys, aCodes, aPbegins, aPends, aPlengths, aBegins, aEnds, aLengths, aRanks_19, aRoadsByRank_20, aRow, aRanksBefore, aBusy, aOpen, aShut]) H locs → lv_has ls 3 [] → W p l e R s m args below meth c H locs 0 0 Q (F0 m 39 ls []) := by
    intro H locs ls hG hl
    cases h
    rw [hQ]
    exact g_vret X hT hG hr hlk dX2_findOrder_39
  refine lpG_W (Wh := fun z => ∀ (H : Heap) (locs : List Loc) (ls : Array Slot), GH D cI cZ layB q s ([iReadings, iAlterations, iRankings, iLetters, iCurrent, iDue, iSize, iLsize_1], [], [gCosts, z.2.1, z.2.2.1, z.2.2.2.1, z.2.2.2.2.1, z.2.2.2.2.2.1, gUps, gDowns, gKeys, gNexts, gShutKeys, aCodes, aPbegins, aPends, aPlengths, aBegins, aEnds, aLengths, z.2.2.2.2.2.2.1, z.2.2.2.2.2.2.2, aRow, aRanksBefore, aBusy, aOpen, aShut]) H locs → lv_has ls 3 [(0, .ref (q 25)), (2, .int (z.1))] → W p l e R s m args below meth c H locs 0 0 Q (F0 m 7 ls [])) ?_ fu _ eL21 H locs ls hG (lv_sub hl [1, 0] rfl)
  intro z rr21 hb21 hin21 hout21
  obtain ⟨x2_6, gWorths_7, gMiddles_8, gApart_9, gApartWithout_10, gNeeded_11, aRanks_12, aRoadsByRank_13⟩ := z
  intro H locs ls hG hl
  have hb21 : f2_findOrder_b1 fu iLsize_1 x2_6 gWorths_7 gMiddles_8 gApart_9 gApartWithout_10 gNeeded_11 aRanks_12 aRoadsByRank_13 = some rr21 := hb21
  have hG : GH D cI cZ layB q s ([iReadings, iAlterations, iRankings, iLetters, iCurrent, iDue, iSize, iLsize_1], [], [gCosts, gWorths_7, gMiddles_8, gApart_9, gApartWithout_10, gNeeded_11, gUps, gDowns, gKeys, gNexts, gShutKeys, aCodes, aPbegins, aPends, aPlengths, aBegins, aEnds, aLengths, aRanks_12, aRoadsByRank_13, aRow, aRanksBefore, aBusy, aOpen, aShut]) H locs := hG
  have hl : lv_has ls 3 [(0, .ref (q 25)), (2, .int x2_6)] := hl
  unfold f2_findOrder_b1 at hb21
  refine lv_iload_n hx hb dX2_findOrder_7 rfl (lv_at hl 1 rfl) ?_
  refine lv_aload_n hx hb dX2_findOrder_8 rfl (lv_at hl 0 rfl) ?_
  refine g_get (v := .int iLsize_1) X hT hG fl_X2_47 25 rfl rfl rfl dX2_findOrder_9 ?_
  refine lv_icmp_ge (tgt := 39) hx hb dX2_findOrder_12 (by decide) (fun cb22 => ?_) (fun cb22 => ?_)
  · have hb21 := ite_t cb22 hb21
    have eo := hout21 _ (Option.some.inj hb21).symm
    cases eo
    exact JX21 H locs ls hG (lv_sub hl [] rfl)
  · have hb21 := ite_f cb22 hb21
    refine lv_aload_n hx hb dX2_findOrder_15 rfl (lv_at hl 0 rfl) ?_
    refine lv_aload_n hx hb dX2_findOrder_16 rfl (lv_at hl 0 rfl) ?_
    refine g_get (v := .ref (q 3)) X hT hG fl_X2_34 25 rfl rfl rfl dX2_findOrder_17 ?_
    refine lv_iconst (v := (-1)) hx hb dX2_findOrder_20 (by decide) ?_
    obtain ⟨gApart_23, ec24, hb21⟩ := bnd1_some hb21
    refine g_callVv [.ref (q 3), .int (-1)] [] 25 X hT hG ml_X2_51 (c_X2_measureFree_25_3 hq ec24) rfl rfl rfl rfl rfl hl.1 (Nat.le_of_ble_eq_true rfl) (by rw [hR]; exact ⟨Nat.le_of_ble_eq_true rfl, Nat.le_of_ble_eq_true rfl⟩) dX2_findOrder_21 (fun H locs hG => ?_)
    have hG : GH D cI cZ layB q s ([iReadings, iAlterations, iRankings, iLetters, iCurrent, iDue, iSize, iLsize_1], [], [gCosts, gWorths_7, gMiddles_8, gApart_23, gApartWithout_10, gNeeded_11, gUps, gDowns, gKeys, gNexts, gShutKeys, aCodes, aPbegins, aPends, aPlengths, aBegins, aEnds, aLengths, aRanks_12, aRoadsByRank_13, aRow, aRanksBefore, aBusy, aOpen, aShut]) H locs := hG
    refine lv_aload_n hx hb dX2_findOrder_24 rfl (lv_at hl 0 rfl) ?_
    refine lv_aload_n hx hb dX2_findOrder_25 rfl (lv_at hl 0 rfl) ?_
    obtain ⟨r_25, gApartWithout_26, gNeeded_27, ec28, hb21⟩ := bnd3_some hb21
    refine g_callVr [] [.ref (q 25)] 25 X hT hG ml_X2_55 (c_X2_pickNext hq ec28) rfl rfl rfl rfl rfl hl.1 (Nat.le_of_ble_eq_true rfl) (by rw [hR]; exact ⟨Nat.le_of_ble_eq_true rfl, Nat.le_of_ble_eq_true rfl⟩) dX2_findOrder_26 (fun H locs hG => ?_)
    have hG : GH D cI cZ layB q s ([iReadings, iAlterations, iRankings, iLetters, iCurrent, iDue, iSize, iLsize_1], [], [gCosts, gWorths_7, gMiddles_8, gApart_23, gApartWithout_26, gNeeded_27, gUps, gDowns, gKeys, gNexts, gShutKeys, aCodes, aPbegins, aPends, aPlengths, aBegins, aEnds, aLengths, aRanks_12, aRoadsByRank_13, aRow, aRanksBefore, aBusy, aOpen, aShut]) H locs := hG
    refine lv_iload_n hx hb dX2_findOrder_29 rfl (lv_at hl 1 rfl) ?_
    obtain ⟨gWorths_29, gMiddles_30, gApartWithout_31, gNeeded_32, aRanks_33, aRoadsByRank_34, ec35, hb21⟩ := bnd6_some hb21
    refine g_callVv [.int r_25, .int x2_6] [] 25 X hT hG ml_X2_59 (c_X2_giveRank hq ec35) rfl rfl rfl rfl rfl hl.1 (Nat.le_of_ble_eq_true rfl) (by rw [hR]; exact ⟨Nat.le_of_ble_eq_true rfl, Nat.le_of_ble_eq_true rfl⟩) dX2_findOrder_30 (fun H locs hG => ?_)
    have hG : GH D cI cZ layB q s ([iReadings, iAlterations, iRankings, iLetters, iCurrent, iDue, iSize, iLsize_1], [], [gCosts, gWorths_29, gMiddles_30, gApart_23, gApartWithout_31, gNeeded_32, gUps, gDowns, gKeys, gNexts, gShutKeys, aCodes, aPbegins, aPends, aPlengths, aBegins, aEnds, aLengths, aRanks_33, aRoadsByRank_34, aRow, aRanksBefore, aBusy, aOpen, aShut]) H locs := hG
    obtain ⟨x2_36, ex2_36⟩ : ∃ z : Int32, z = x2_6 + 1 := ⟨_, rfl⟩
    have hb21 := bd_e ex2_36 hb21
    refine lv_iinc (v := x2_36) (lv' := [(2, .int x2_36), (0, .ref (q 25))]) hx hb dX2_findOrder_33 hl (k := 1) rfl (by rw [ex2_36]; rfl) (by decide) rfl (fun ls hl => ?_)
    refine lv_goto (tgt := 7) hx hb dX2_findOrder_36 (by decide) ?_
    exact hin21 _ (Option.some.inj hb21).symm H locs ls hG (lv_sub hl [1, 0] rfl)
def f2_leadsUp (p2 : Int32) (p1 : Int32) (aRanks : (Nat → Int32)) : Option (Int32) :=
  ckin p2 12 (ckin p1 12 (bnd1 (if (aRanks p2.toNatClampNeg) ≤ (aRanks p1.toNatClampNeg) then (some 0) else some 1) fun (y_3 : Int32) => ckb y_3 (some y_3)))
set_option maxHeartbeats 4000000 in
set_option maxRecDepth 100000 in
theorem c_X2_leadsUp (hq : gJ layB q) {p1 : Int32} {p2 : Int32} {o_r : Int32} (h : f2_leadsUp p2 p1 aRanks = some o_r) :
    GM l yX2_leadsUp cX2_leadsUp 3 (some .boolean) 0 0 D cI cZ layB q [.ref (q 25), .int p1, .int p2] ([iReadings, iAlterations, iRankings, iLetters, iCurrent, iDue, iSize, iLsize], [], [gCosts, gWorths, gMiddles, gApart, gApartWithout, gNeeded, gUps, gDowns, gKeys, gNexts, gShutKeys, aCodes, aPbegins, aPends, aPlengths, aBegins, aEnds, aLengths, aRanks, aRoadsByRank, aRow, aRanksBefore, aBusy, aOpen, aShut]) (some (.int o_r)) ([iReadings, iAlterations, iRankings, iLetters, iCurrent, iDue, iSize, iLsize], [], [gCosts, gWorths, gMiddles, gApart, gApartWithout, gNeeded, gUps, gDowns, gKeys, gNexts, gShutKeys, aCodes, aPbegins, aPends, aPlengths, aBegins, aEnds, aLengths, aRanks, aRoadsByRank, aRow, aRanksBefore, aBusy, aOpen, aShut]) := by
  refine GM.go RX2 (by decide) rfl (Nat.le_of_ble_eq_true rfl) ?_
  intro p e s m args below meth c ls R Q H locs X hr hlk hT hG hl hR hQ
  have hx := X.1
  have hb := X.2.1
  have hl : lv_has ls 3 [(0, .ref (q 25)), (1, .int p1), (2, .int p2)] := hl
  unfold f2_leadsUp at h
  refine lv_aload_n hx hb dX2_leadsUp_0 rfl (lv_at hl 0 rfl) ?_
  refine g_get (v := .ref (q 36)) X hT hG fl_X2_21 25 rfl rfl rfl dX2_leadsUp_1 ?_
  refine lv_iload_n hx hb dX2_leadsUp_4 rfl (lv_at hl 2 rfl) ?_
  obtain ⟨hi1, h⟩ := ckin_some h
  refine g_ald (f := aRanks) X hT hG 36 rfl rfl hi1 dX2_leadsUp_5 ?_
  refine lv_aload_n hx hb dX2_leadsUp_6 rfl (lv_at hl 0 rfl) ?_
  refine g_get (v := .ref (q 36)) X hT hG fl_X2_21 25 rfl rfl rfl dX2_leadsUp_7 ?_
  refine lv_iload_n hx hb dX2_leadsUp_10 rfl (lv_at hl 1 rfl) ?_
  obtain ⟨hi2, h⟩ := ckin_some h
  refine g_ald (f := aRanks) X hT hG 36 rfl rfl hi2 dX2_leadsUp_11 ?_
  obtain ⟨y_3, er4, h⟩ := bnd1_some h
  have J4 : ∀ (H : Heap) (locs : List Loc) (ls : Array Slot), GH D cI cZ layB q s ([iReadings, iAlterations, iRankings, iLetters, iCurrent, iDue, iSize, iLsize], [], [gCosts, gWorths, gMiddles, gApart, gApartWithout, gNeeded, gUps, gDowns, gKeys, gNexts, gShutKeys, aCodes, aPbegins, aPends, aPlengths, aBegins, aEnds, aLengths, aRanks, aRoadsByRank, aRow, aRanksBefore, aBusy, aOpen, aShut]) H locs → lv_has ls 3 [] → W p l e R s m args below meth c H locs 0 0 Q (F0 m 20 ls [.int y_3]) := by
    intro H locs ls hG hl
    obtain ⟨hz, h⟩ := ckb_some h
    cases h
    rw [hQ]
    exact g_zret X hT hG hr hlk hz dX2_leadsUp_20
  refine lv_icmp_le (tgt := 19) hx hb dX2_leadsUp_12 (by decide) (fun cb5 => ?_) (fun cb5 => ?_)
  · have er4 := ite_t cb5 er4
    refine lv_iconst (v := 0) hx hb dX2_leadsUp_19 (by decide) ?_
    cases er4
    exact J4 H locs ls hG (lv_sub hl [] rfl)
  · have er4 := ite_f cb5 er4
    refine lv_iconst (v := 1) hx hb dX2_leadsUp_15 (by decide) ?_
    refine lv_goto (tgt := 20) hx hb dX2_leadsUp_16 (by decide) ?_
    cases er4
    exact J4 H locs ls hG (lv_sub hl [] rfl)
set_option maxHeartbeats 4000000 in
set_option maxRecDepth 100000 in
theorem c_X1_set_6 (hq : gJ layB q) {p1 : Int32} {p2 : Int32} {p3 : Int32} {o_gUps : (Nat → Int32)} (h : f1_set p1 p2 gUps p3 = some o_gUps) :
    GM l yX1_set cX1_set 4 none 0 0 D cI cZ layB q [.ref (q 6), .int p1, .int p2, .int p3] ([iReadings, iAlterations, iRankings, iLetters, iCurrent, iDue, iSize, iLsize], [], [gCosts, gWorths, gMiddles, gApart, gApartWithout, gNeeded, gUps, gDowns, gKeys, gNexts, gShutKeys, aCodes, aPbegins, aPends, aPlengths, aBegins, aEnds, aLengths, aRanks, aRoadsByRank, aRow, aRanksBefore, aBusy, aOpen, aShut]) none ([iReadings, iAlterations, iRankings, iLetters, iCurrent, iDue, iSize, iLsize], [], [gCosts, gWorths, gMiddles, gApart, gApartWithout, gNeeded, o_gUps, gDowns, gKeys, gNexts, gShutKeys, aCodes, aPbegins, aPends, aPlengths, aBegins, aEnds, aLengths, aRanks, aRoadsByRank, aRow, aRanksBefore, aBusy, aOpen, aShut]) := by
  refine GM.go RX1 (by decide) rfl (Nat.le_of_ble_eq_true rfl) ?_
  intro p e s m args below meth c ls R Q H locs X hr hlk hT hG hl hR hQ
  have hx := X.1
  have hb := X.2.1
  have hl : lv_has ls 4 [(0, .ref (q 6)), (1, .int p1), (2, .int p2), (3, .int p3)] := hl
  unfold f1_set at h
  refine lv_aload_n hx hb dX1_set_0 rfl (lv_at hl 0 rfl) ?_
  refine g_get (v := .ref (q 17)) X hT hG fl_X1_9 6 rfl rfl rfl dX1_set_1 ?_
  refine lv_iload_n hx hb dX1_set_4 rfl (lv_at hl 1 rfl) ?_
  refine lv_bipush (v := 12) hx hb dX1_set_5 (by decide) ?_
  refine lv_imul hx hb dX1_set_7 ?_
  refine lv_iload_n hx hb dX1_set_8 rfl (lv_at hl 2 rfl) ?_
  refine lv_iadd hx hb dX1_set_9 ?_
  refine lv_iload_n hx hb dX1_set_10 rfl (lv_at hl 3 rfl) ?_
  obtain ⟨hi1, h⟩ := ckin_some h
  obtain ⟨gUps_2, egUps_2⟩ : ∃ z : Nat → Int32, z = upd gUps ((p1 * 12) + p2).toNatClampNeg p3 := ⟨_, rfl⟩
  have h := bd_e egUps_2 h
  refine g_ast (w' := ([iReadings, iAlterations, iRankings, iLetters, iCurrent, iDue, iSize, iLsize], [], [gCosts, gWorths, gMiddles, gApart, gApartWithout, gNeeded, gUps_2, gDowns, gKeys, gNexts, gShutKeys, aCodes, aPbegins, aPends, aPlengths, aBegins, aEnds, aLengths, aRanks, aRoadsByRank, aRow, aRanksBefore, aBusy, aOpen, aShut])) X hT hq hG 17 rfl ga_B_gUps (Nat.le_of_ble_eq_true rfl) hi1 (by subst egUps_2; rfl) dX1_set_11 (fun H locs hG => ?_)
  cases h
  rw [hQ]
  exact g_vret X hT hG hr hlk dX1_set_12
end
