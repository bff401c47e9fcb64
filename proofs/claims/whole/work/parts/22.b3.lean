section
variable {l : Launch} {D : va_G} {cI cZ : ClassId} {q : Nat → Nat} {iReadings iAlterations iRankings iLetters iCurrent iDue iSize iLsize : Int32} {gCosts gWorths gMiddles gApart gApartWithout gNeeded gUps gDowns gKeys gNexts gShutKeys aCodes aPbegins aPends aPlengths aBegins aEnds aLengths aRanks aRoadsByRank aRow aRanksBefore aBusy aOpen aShut : Nat → Int32}
def f7_stretch (fu : Nat) (p1 : Int32) (iSize : Int32) (iAlterations : Int32) (iLsize : Int32) (gWorths : (Nat → Int32)) (gMiddles : (Nat → Int32)) (gApart : (Nat → Int32)) (gApartWithout : (Nat → Int32)) (gNeeded : (Nat → Int32)) (gUps : (Nat → Int32)) (gDowns : (Nat → Int32)) (gKeys : (Nat → Int32)) (gNexts : (Nat → Int32)) (aLengths : (Nat → Int32)) (aRanks : (Nat → Int32)) (aRoadsByRank : (Nat → Int32)) (aBusy : (Nat → Int32)) (aOpen : (Nat → Int32)) (p2 : Int32) (gCosts : (Nat → Int32)) (aBegins : (Nat → Int32)) (aEnds : (Nat → Int32)) : Option (Int32 × Int32 × Int32 × (Nat → Int32) × (Nat → Int32) × (Nat → Int32) × (Nat → Int32) × (Nat → Int32) × (Nat → Int32) × (Nat → Int32) × (Nat → Int32) × (Nat → Int32) × (Nat → Int32) × (Nat → Int32) × (Nat → Int32) × (Nat → Int32) × (Nat → Int32)) :=
  bnd1 (f3_has p1 iSize) fun (r_1 : Int32) => if r_1 = 0 then (some ((-101), iAlterations, iLsize, gWorths, gMiddles, gApart, gApartWithout, gNeeded, gUps, gDowns, gKeys, gNexts, aLengths, aRanks, aRoadsByRank, aBusy, aOpen)) else if p2 < 1 then (some ((-102), iAlterations, iLsize, gWorths, gMiddles, gApart, gApartWithout, gNeeded, gUps, gDowns, gKeys, gNexts, aLengths, aRanks, aRoadsByRank, aBusy, aOpen)) else if p2 ≤ 99 then (ckin p1 12 (bd ((aLengths p1.toNatClampNeg)) fun x3_7 => ckin p1 12 (bd (upd aLengths p1.toNatClampNeg p2) fun aLengths_9 => bnd15 (f7_makeAnew fu iAlterations iSize gCosts aLengths_9 gWorths gMiddles aRanks gApart gApartWithout gNeeded aRoadsByRank gUps gDowns gKeys gNexts aBusy aOpen aBegins aEnds) fun (iAlterations_10 : Int32) (iLsize_11 : Int32) (gWorths_12 : (Nat → Int32)) (gMiddles_13 : (Nat → Int32)) (gApart_14 : (Nat → Int32)) (gApartWithout_15 : (Nat → Int32)) (gNeeded_16 : (Nat → Int32)) (gUps_17 : (Nat → Int32)) (gDowns_18 : (Nat → Int32)) (gKeys_19 : (Nat → Int32)) (gNexts_20 : (Nat → Int32)) (aRanks_21 : (Nat → Int32)) (aRoadsByRank_22 : (Nat → Int32)) (aBusy_23 : (Nat → Int32)) (aOpen_24 : (Nat → Int32)) => some (x3_7, iAlterations_10, iLsize_11, gWorths_12, gMiddles_13, gApart_14, gApartWithout_15, gNeeded_16, gUps_17, gDowns_18, gKeys_19, gNexts_20, aLengths_9, aRanks_21, aRoadsByRank_22, aBusy_23, aOpen_24)))) else some ((-102), iAlterations, iLsize, gWorths, gMiddles, gApart, gApartWithout, gNeeded, gUps, gDowns, gKeys, gNexts, aLengths, aRanks, aRoadsByRank, aBusy, aOpen)
set_option maxHeartbeats 4000000 in
set_option maxRecDepth 100000 in
theorem c_X7_stretch (hq : gJ layB q) {fu : Nat} {p1 : Int32} {p2 : Int32} {o_r : Int32} {o_iAlterations : Int32} {o_iLsize : Int32} {o_gWorths : (Nat → Int32)} {o_gMiddles : (Nat → Int32)} {o_gApart : (Nat → Int32)} {o_gApartWithout : (Nat → Int32)} {o_gNeeded : (Nat → Int32)} {o_gUps : (Nat → Int32)} {o_gDowns : (Nat → Int32)} {o_gKeys : (Nat → Int32)} {o_gNexts : (Nat → Int32)} {o_aLengths : (Nat → Int32)} {o_aRanks : (Nat → Int32)} {o_aRoadsByRank : (Nat → Int32)} {o_aBusy : (Nat → Int32)} {o_aOpen : (Nat → Int32)} (h : f7_stretch fu p1 iSize iAlterations iLsize gWorths gMiddles gApart gApartWithout gNeeded gUps gDowns gKeys gNexts aLengths aRanks aRoadsByRank aBusy aOpen p2 gCosts aBegins aEnds = some (o_r, o_iAlterations, o_iLsize, o_gWorths, o_gMiddles, o_gApart, o_gApartWithout, o_gNeeded, o_gUps, o_gDowns, o_gKeys, o_gNexts, o_aLengths, o_aRanks, o_aRoadsByRank, o_aBusy, o_aOpen)) :
    GM l yX7_stretch cX7_stretch 4 (some .int) 7 168 D cI cZ layB q [.ref (q 22), .int p1, .int p2] ([iReadings, iAlterations, iRankings, iLetters, iCurrent, iDue, iSize, iLsize], [], [gCosts, gWorths, gMiddles, gApart, gApartWithout, gNeeded, gUps, gDowns, gKeys, gNexts, gShutKeys, aCodes, aPbegins, aPends, aPlengths, aBegins, aEnds, aLengths, aRanks, aRoadsByRank, aRow, aRanksBefore, aBusy, aOpen, aShut]) (some (.int o_r)) ([iReadings, o_iAlterations, iRankings, iLetters, iCurrent, iDue, iSize, o_iLsize], [], [gCosts, o_gWorths, o_gMiddles, o_gApart, o_gApartWithout, o_gNeeded, o_gUps, o_gDowns, o_gKeys, o_gNexts, gShutKeys, aCodes, aPbegins, aPends, aPlengths, aBegins, aEnds, o_aLengths, o_aRanks, o_aRoadsByRank, aRow, aRanksBefore, o_aBusy, o_aOpen, aShut]) := by
  refine GM.go RX7 (by decide) rfl (Nat.le_of_ble_eq_true rfl) ?_
  intro p e s m args below meth c ls R Q H locs X hr hlk hT hG hl hR hQ
  have hx := X.1
  have hb := X.2.1
  have hl : lv_has ls 4 [(0, .ref (q 22)), (1, .int p1), (2, .int p2)] := hl
  unfold f7_stretch at h
  refine lv_aload_n hx hb dX7_stretch_0 rfl (lv_at hl 0 rfl) ?_
  refine g_get (v := .ref (q 24)) X hT hG fl_X7_19 22 rfl rfl rfl dX7_stretch_1 ?_
  refine lv_iload_n hx hb dX7_stretch_4 rfl (lv_at hl 1 rfl) ?_
  obtain ⟨r_1, ec2, h⟩ := bnd1_some h
  refine g_callVr [.int p1] [] 24 X hT hG ml_X7_84 (c_X3_has hq ec2) rfl rfl rfl rfl rfl hl.1 (Nat.le_of_ble_eq_true rfl) (by rw [hR]; exact ⟨Nat.le_of_ble_eq_true rfl, Nat.le_of_ble_eq_true rfl⟩) dX7_stretch_5 (fun H locs hG => ?_)
  refine lv_if_ne (tgt := 14) hx hb dX7_stretch_8 (by decide) (fun cb3 => ?_) (fun cb3 => ?_)
  · have h := ite_f cb3 h
    refine lv_iload_n hx hb dX7_stretch_14 rfl (lv_at hl 2 rfl) ?_
    refine lv_iconst (v := 1) hx hb dX7_stretch_15 (by decide) ?_
    refine lv_icmp_lt (tgt := 25) hx hb dX7_stretch_16 (by decide) (fun cb4 => ?_) (fun cb4 => ?_)
    · have h := ite_t cb4 h
      refine lv_bipush (v := (-102)) hx hb dX7_stretch_25 (by decide) ?_
      cases h
      rw [hQ]
      exact g_iret X hT hG hr hlk dX7_stretch_27
    · have h := ite_f cb4 h
      refine lv_iload_n hx hb dX7_stretch_19 rfl (lv_at hl 2 rfl) ?_
      refine lv_bipush (v := 99) hx hb dX7_stretch_20 (by decide) ?_
      refine lv_icmp_le (tgt := 28) hx hb dX7_stretch_22 (by decide) (fun cb5 => ?_) (fun cb5 => ?_)
      · have h := ite_t cb5 h
        refine lv_aload_n hx hb dX7_stretch_28 rfl (lv_at hl 0 rfl) ?_
        refine g_get (v := .ref (q 24)) X hT hG fl_X7_19 22 rfl rfl rfl dX7_stretch_29 ?_
        refine g_get (v := .ref (q 35)) X hT hG fl_X7_88 24 rfl rfl rfl dX7_stretch_32 ?_
        refine lv_iload_n hx hb dX7_stretch_35 rfl (lv_at hl 1 rfl) ?_
        obtain ⟨hi6, h⟩ := ckin_some h
        refine g_ald (f := aLengths) X hT hG 35 rfl rfl hi6 dX7_stretch_36 ?_
        refine lv_topi (fun x3_7 ex3_7 => ?_)
        have h := bd_e ex3_7 h
        refine lv_istore_n (lv' := [(3, .int x3_7), (0, .ref (q 22)), (1, .int p1), (2, .int p2)]) hx hb dX7_stretch_37 rfl hl (by decide) rfl (fun ls hl => ?_)
        refine lv_aload_n hx hb dX7_stretch_38 rfl (lv_at hl 1 rfl) ?_
        refine g_get (v := .ref (q 24)) X hT hG fl_X7_19 22 rfl rfl rfl dX7_stretch_39 ?_
        refine g_get (v := .ref (q 35)) X hT hG fl_X7_88 24 rfl rfl rfl dX7_stretch_42 ?_
        refine lv_iload_n hx hb dX7_stretch_45 rfl (lv_at hl 2 rfl) ?_
        refine lv_iload_n hx hb dX7_stretch_46 rfl (lv_at hl 3 rfl) ?_
        obtain ⟨hi8, h⟩ := ckin_some h
        obtain ⟨aLengths_9, eaLengths_9⟩ : ∃ z : Nat → Int32, z = upd aLengths p1.toNatClampNeg p2 := ⟨_, rfl⟩
        have h := bd_e eaLengths_9 h
        refine g_ast (w' := ([iReadings, iAlterations, iRankings, iLetters, iCurrent, iDue, iSize, iLsize], [], [gCosts, gWorths, gMiddles, gApart, gApartWithout, gNeeded, gUps, gDowns, gKeys, gNexts, gShutKeys, aCodes, aPbegins, aPends, aPlengths, aBegins, aEnds, aLengths_9, aRanks, aRoadsByRank, aRow, aRanksBefore, aBusy, aOpen, aShut])) X hT hq hG 35 rfl ga_B_aLengths (Nat.le_of_ble_eq_true rfl) hi8 (by subst eaLengths_9; rfl) dX7_stretch_47 (fun H locs hG => ?_)
        refine lv_aload_n hx hb dX7_stretch_48 rfl (lv_at hl 1 rfl) ?_
        obtain ⟨iAlterations_10, iLsize_11, gWorths_12, gMiddles_13, gApart_14, gApartWithout_15, gNeeded_16, gUps_17, gDowns_18, gKeys_19, gNexts_20, aRanks_21, aRoadsByRank_22, aBusy_23, aOpen_24, ec25, h⟩ := bnd15_some h
        refine g_callVv [] [] 22 X hT hG ml_X7_92 (c_X7_makeAnew hq ec25) rfl rfl rfl rfl rfl hl.1 (Nat.le_of_ble_eq_true rfl) (by rw [hR]; exact ⟨Nat.le_of_ble_eq_true rfl, Nat.le_of_ble_eq_true rfl⟩) dX7_stretch_49 (fun H locs hG => ?_)
        have hG : GH D cI cZ layB q s ([iReadings, iAlterations_10, iRankings, iLetters, iCurrent, iDue, iSize, iLsize_11], [], [gCosts, gWorths_12, gMiddles_13, gApart_14, gApartWithout_15, gNeeded_16, gUps_17, gDowns_18, gKeys_19, gNexts_20, gShutKeys, aCodes, aPbegins, aPends, aPlengths, aBegins, aEnds, aLengths_9, aRanks_21, aRoadsByRank_22, aRow, aRanksBefore, aBusy_23, aOpen_24, aShut]) H locs := hG
        refine lv_iload_n hx hb dX7_stretch_52 rfl (lv_at hl 0 rfl) ?_
        cases h
        rw [hQ]
        exact g_iret X hT hG hr hlk dX7_stretch_53
      · have h := ite_f cb5 h
        refine lv_bipush (v := (-102)) hx hb dX7_stretch_25 (by decide) ?_
        cases h
        rw [hQ]
        exact g_iret X hT hG hr hlk dX7_stretch_27
  · have h := ite_t cb3 h
    refine lv_bipush (v := (-101)) hx hb dX7_stretch_11 (by decide) ?_
    cases h
    rw [hQ]
    exact g_iret X hT hG hr hlk dX7_stretch_13
def f3_hasBoth (p1 : Int32) (iSize : Int32) (p2 : Int32) : Option (Int32) :=
  bnd1 (f3_has p1 iSize) fun (r_1 : Int32) => bnd1 (if r_1 = 0 then (some 0) else bnd1 (f3_has p2 iSize) fun (r_6 : Int32) => if r_6 = 0 then (some 0) else some 1) fun (y_3 : Int32) => ckb y_3 (some y_3)
set_option maxHeartbeats 4000000 in
set_option maxRecDepth 100000 in
theorem c_X3_hasBoth (hq : gJ layB q) {p1 : Int32} {p2 : Int32} {o_r : Int32} (h : f3_hasBoth p1 iSize p2 = some o_r) :
    GM l yX3_hasBoth cX3_hasBoth 3 (some .boolean) 1 21 D cI cZ layB q [.ref (q 24), .int p1, .int p2] ([iReadings, iAlterations, iRankings, iLetters, iCurrent, iDue, iSize, iLsize], [], [gCosts, gWorths, gMiddles, gApart, gApartWithout, gNeeded, gUps, gDowns, gKeys, gNexts, gShutKeys, aCodes, aPbegins, aPends, aPlengths, aBegins, aEnds, aLengths, aRanks, aRoadsByRank, aRow, aRanksBefore, aBusy, aOpen, aShut]) (some (.int o_r)) ([iReadings, iAlterations, iRankings, iLetters, iCurrent, iDue, iSize, iLsize], [], [gCosts, gWorths, gMiddles, gApart, gApartWithout, gNeeded, gUps, gDowns, gKeys, gNexts, gShutKeys, aCodes, aPbegins, aPends, aPlengths, aBegins, aEnds, aLengths, aRanks, aRoadsByRank, aRow, aRanksBefore, aBusy, aOpen, aShut]) := by
  refine GM.go RX3 (by decide) rfl (Nat.le_of_ble_eq_true rfl) ?_
  intro p e s m args below meth c ls R Q H locs X hr hlk hT hG hl hR hQ
  have hx := X.1
  have hb := X.2.1
  have hl : lv_has ls 3 [(0, .ref (q 24)), (1, .int p1), (2, .int p2)] := hl
  unfold f3_hasBoth at h
  refine lv_aload_n hx hb dX3_hasBoth_0 rfl (lv_at hl 0 rfl) ?_
  refine lv_iload_n hx hb dX3_hasBoth_1 rfl (lv_at hl 1 rfl) ?_
  obtain ⟨r_1, ec2, h⟩ := bnd1_some h
  refine g_callVr [.int p1] [] 24 X hT hG ml_X3_55 (c_X3_has hq ec2) rfl rfl rfl rfl rfl hl.1 (Nat.le_of_ble_eq_true rfl) (by rw [hR]; exact ⟨Nat.le_of_ble_eq_true rfl, Nat.le_of_ble_eq_true rfl⟩) dX3_hasBoth_2 (fun H locs hG => ?_)
  obtain ⟨y_3, er4, h⟩ := bnd1_some h
  have J4 : ∀ (H : Heap) (locs : List Loc) (ls : Array Slot), GH D cI cZ layB q s ([iReadings, iAlterations, iRankings, iLetters, iCurrent, iDue, iSize, iLsize], [], [gCosts, gWorths, gMiddles, gApart, gApartWithout, gNeeded, gUps, gDowns, gKeys, gNexts, gShutKeys, aCodes, aPbegins, aPends, aPlengths, aBegins, aEnds, aLengths, aRanks, aRoadsByRank, aRow, aRanksBefore, aBusy, aOpen, aShut]) H locs → lv_has ls 3 [] → W p l e R s m args below meth c H locs 0 0 Q (F0 m 21 ls [.int y_3]) := by
    intro H locs ls hG hl
    obtain ⟨hz, h⟩ := ckb_some h
    cases h
    rw [hQ]
    exact g_zret X hT hG hr hlk hz dX3_hasBoth_21
  refine lv_if_eq (tgt := 20) hx hb dX3_hasBoth_5 (by decide) (fun cb5 => ?_) (fun cb5 => ?_)
  · have er4 := ite_t cb5 er4
    refine lv_iconst (v := 0) hx hb dX3_hasBoth_20 (by decide) ?_
    cases er4
    exact J4 H locs ls hG (lv_sub hl [] rfl)
  · have er4 := ite_f cb5 er4
    refine lv_aload_n hx hb dX3_hasBoth_8 rfl (lv_at hl 0 rfl) ?_
    refine lv_iload_n hx hb dX3_hasBoth_9 rfl (lv_at hl 2 rfl) ?_
    obtain ⟨r_6, ec7, er4⟩ := bnd1_some er4
    refine g_callVr [.int p2] [] 24 X hT hG ml_X3_55 (c_X3_has hq ec7) rfl rfl rfl rfl rfl hl.1 (Nat.le_of_ble_eq_true rfl) (by rw [hR]; exact ⟨Nat.le_of_ble_eq_true rfl, Nat.le_of_ble_eq_true rfl⟩) dX3_hasBoth_10 (fun H locs hG => ?_)
    refine lv_if_eq (tgt := 20) hx hb dX3_hasBoth_13 (by decide) (fun cb8 => ?_) (fun cb8 => ?_)
    · have er4 := ite_t cb8 er4
      refine lv_iconst (v := 0) hx hb dX3_hasBoth_20 (by decide) ?_
      cases er4
      exact J4 H locs ls hG (lv_sub hl [] rfl)
    · have er4 := ite_f cb8 er4
      refine lv_iconst (v := 1) hx hb dX3_hasBoth_16 (by decide) ?_
      refine lv_goto (tgt := 21) hx hb dX3_hasBoth_17 (by decide) ?_
      cases er4
      exact J4 H locs ls hG (lv_sub hl [] rfl)
def f3_hasTurn (p1 : Int32) (p2 : Int32) (gCosts : (Nat → Int32)) : Option (Int32) :=
  bnd1 (f1_get p1 p2 gCosts) fun (r_1 : Int32) => bnd1 (if r_1 = (-6) then (some 0) else some 1) fun (y_3 : Int32) => ckb y_3 (some y_3)
set_option maxHeartbeats 4000000 in
set_option maxRecDepth 100000 in
theorem c_X3_hasTurn (hq : gJ layB q) {p1 : Int32} {p2 : Int32} {o_r : Int32} (h : f3_hasTurn p1 p2 gCosts = some o_r) :
    GM l yX3_hasTurn cX3_hasTurn 3 (some .boolean) 1 22 D cI cZ layB q [.ref (q 24), .int p1, .int p2] ([iReadings, iAlterations, iRankings, iLetters, iCurrent, iDue, iSize, iLsize], [], [gCosts, gWorths, gMiddles, gApart, gApartWithout, gNeeded, gUps, gDowns, gKeys, gNexts, gShutKeys, aCodes, aPbegins, aPends, aPlengths, aBegins, aEnds, aLengths, aRanks, aRoadsByRank, aRow, aRanksBefore, aBusy, aOpen, aShut]) (some (.int o_r)) ([iReadings, iAlterations, iRankings, iLetters, iCurrent, iDue, iSize, iLsize], [], [gCosts, gWorths, gMiddles, gApart, gApartWithout, gNeeded, gUps, gDowns, gKeys, gNexts, gShutKeys, aCodes, aPbegins, aPends, aPlengths, aBegins, aEnds, aLengths, aRanks, aRoadsByRank, aRow, aRanksBefore, aBusy, aOpen, aShut]) := by
  refine GM.go RX3 (by decide) rfl (Nat.le_of_ble_eq_true rfl) ?_
  intro p e s m args below meth c ls R Q H locs X hr hlk hT hG hl hR hQ
  have hx := X.1
  have hb := X.2.1
  have hl : lv_has ls 3 [(0, .ref (q 24)), (1, .int p1), (2, .int p2)] := hl
  unfold f3_hasTurn at h
  refine lv_aload_n hx hb dX3_hasTurn_0 rfl (lv_at hl 0 rfl) ?_
  refine g_get (v := .ref (q 0)) X hT hG fl_X3_24 24 rfl rfl rfl dX3_hasTurn_1 ?_
  refine lv_iload_n hx hb dX3_hasTurn_4 rfl (lv_at hl 1 rfl) ?_
  refine lv_iload_n hx hb dX3_hasTurn_5 rfl (lv_at hl 2 rfl) ?_
  obtain ⟨r_1, ec2, h⟩ := bnd1_some h
  refine g_callVr [.int p1, .int p2] [] 0 X hT hG ml_X3_59 (c_X1_get_0 hq ec2) rfl rfl rfl rfl rfl hl.1 (Nat.le_of_ble_eq_true rfl) (by rw [hR]; exact ⟨Nat.le_of_ble_eq_true rfl, Nat.le_of_ble_eq_true rfl⟩) dX3_hasTurn_6 (fun H locs hG => ?_)
  refine lv_bipush (v := (-6)) hx hb dX3_hasTurn_9 (by decide) ?_
  obtain ⟨y_3, er4, h⟩ := bnd1_some h
  have J4 : ∀ (H : Heap) (locs : List Loc) (ls : Array Slot), GH D cI cZ layB q s ([iReadings, iAlterations, iRankings, iLetters, iCurrent, iDue, iSize, iLsize], [], [gCosts, gWorths, gMiddles, gApart, gApartWithout, gNeeded, gUps, gDowns, gKeys, gNexts, gShutKeys, aCodes, aPbegins, aPends, aPlengths, aBegins, aEnds, aLengths, aRanks, aRoadsByRank, aRow, aRanksBefore, aBusy, aOpen, aShut]) H locs → lv_has ls 3 [] → W p l e R s m args below meth c H locs 0 0 Q (F0 m 19 ls [.int y_3]) := by
    intro H locs ls hG hl
    obtain ⟨hz, h⟩ := ckb_some h
    cases h
    rw [hQ]
    exact g_zret X hT hG hr hlk hz dX3_hasTurn_19
  refine lv_icmp_eq (tgt := 18) hx hb dX3_hasTurn_11 (by decide) (fun cb5 => ?_) (fun cb5 => ?_)
  · have er4 := ite_t cb5 er4
    refine lv_iconst (v := 0) hx hb dX3_hasTurn_18 (by decide) ?_
    cases er4
    exact J4 H locs ls hG (lv_sub hl [] rfl)
  · have er4 := ite_f cb5 er4
    refine lv_iconst (v := 1) hx hb dX3_hasTurn_14 (by decide) ?_
    refine lv_goto (tgt := 19) hx hb dX3_hasTurn_15 (by decide) ?_
    cases er4
    exact J4 H locs ls hG (lv_sub hl [] rfl)
def f7_turn_k1 (fu : Nat) (p1 : Int32) (p2 : Int32) (gCosts : (Nat → Int32)) (p3 : Int32) (iAlterations : Int32) (iSize : Int32) (aLengths : (Nat → Int32)) (gWorths : (Nat → Int32)) (gMiddles : (Nat → Int32)) (aRanks : (Nat → Int32)) (gApart : (Nat → Int32)) (gApartWithout : (Nat → Int32)) (gNeeded : (Nat → Int32)) (aRoadsByRank : (Nat → Int32)) (gUps : (Nat → Int32)) (gDowns : (Nat → Int32)) (gKeys : (Nat → Int32)) (gNexts : (Nat → Int32)) (aBusy : (Nat → Int32)) (aOpen : (Nat → Int32)) (aBegins : (Nat → Int32)) (aEnds : (Nat → Int32)) : Option (Int32 × Int32 × Int32 × (Nat → Int32) × (Nat → Int32) × (Nat → Int32) × (Nat → Int32) × (Nat → Int32) × (Nat → Int32) × (Nat → Int32) × (Nat → Int32) × (Nat → Int32) × (Nat → Int32) × (Nat → Int32) × (Nat → Int32) × (Nat → Int32) × (Nat → Int32)) :=
  bnd1 (f1_get p1 p2 gCosts) fun (r_8 : Int32) => bnd1 (f1_set p1 p2 gCosts p3) fun (gCosts_10 : (Nat → Int32)) => bnd15 (f7_makeAnew fu iAlterations iSize gCosts_10 aLengths gWorths gMiddles aRanks gApart gApartWithout gNeeded aRoadsByRank gUps gDowns gKeys gNexts aBusy aOpen aBegins aEnds) fun (iAlterations_12 : Int32) (iLsize_13 : Int32) (gWorths_14 : (Nat → Int32)) (gMiddles_15 : (Nat → Int32)) (gApart_16 : (Nat → Int32)) (gApartWithout_17 : (Nat → Int32)) (gNeeded_18 : (Nat → Int32)) (gUps_19 : (Nat → Int32)) (gDowns_20 : (Nat → Int32)) (gKeys_21 : (Nat → Int32)) (gNexts_22 : (Nat → Int32)) (aRanks_23 : (Nat → Int32)) (aRoadsByRank_24 : (Nat → Int32)) (aBusy_25 : (Nat → Int32)) (aOpen_26 : (Nat → Int32)) => some (r_8, iAlterations_12, iLsize_13, gCosts_10, gWorths_14, gMiddles_15, gApart_16, gApartWithout_17, gNeeded_18, gUps_19, gDowns_20, gKeys_21, gNexts_22, aRanks_23, aRoadsByRank_24, aBusy_25, aOpen_26)
def f7_turn (fu : Nat) (p1 : Int32) (iSize : Int32) (p2 : Int32) (iAlterations : Int32) (iLsize : Int32) (gCosts : (Nat → Int32)) (gWorths : (Nat → Int32)) (gMiddles : (Nat → Int32)) (gApart : (Nat → Int32)) (gApartWithout : (Nat → Int32)) (gNeeded : (Nat → Int32)) (gUps : (Nat → Int32)) (gDowns : (Nat → Int32)) (gKeys : (Nat → Int32)) (gNexts : (Nat → Int32)) (aRanks : (Nat → Int32)) (aRoadsByRank : (Nat → Int32)) (aBusy : (Nat → Int32)) (aOpen : (Nat → Int32)) (p3 : Int32) (aLengths : (Nat → Int32)) (aBegins : (Nat → Int32)) (aEnds : (Nat → Int32)) : Option (Int32 × Int32 × Int32 × (Nat → Int32) × (Nat → Int32) × (Nat → Int32) × (Nat → Int32) × (Nat → Int32) × (Nat → Int32) × (Nat → Int32) × (Nat → Int32) × (Nat → Int32) × (Nat → Int32) × (Nat → Int32) × (Nat → Int32) × (Nat → Int32) × (Nat → Int32)) :=
  bnd1 (f3_hasBoth p1 iSize p2) fun (r_1 : Int32) => if r_1 = 0 then (some ((-101), iAlterations, iLsize, gCosts, gWorths, gMiddles, gApart, gApartWithout, gNeeded, gUps, gDowns, gKeys, gNexts, aRanks, aRoadsByRank, aBusy, aOpen)) else bnd1 (f3_hasTurn p1 p2 gCosts) fun (r_4 : Int32) => if r_4 = 0 then (some ((-103), iAlterations, iLsize, gCosts, gWorths, gMiddles, gApart, gApartWithout, gNeeded, gUps, gDowns, gKeys, gNexts, aRanks, aRoadsByRank, aBusy, aOpen)) else if p3 = (-5) then (f7_turn_k1 fu p1 p2 gCosts p3 iAlterations iSize aLengths gWorths gMiddles aRanks gApart gApartWithout gNeeded aRoadsByRank gUps gDowns gKeys gNexts aBusy aOpen aBegins aEnds) else if p3 < 0 then (some ((-102), iAlterations, iLsize, gCosts, gWorths, gMiddles, gApart, gApartWithout, gNeeded, gUps, gDowns, gKeys, gNexts, aRanks, aRoadsByRank, aBusy, aOpen)) else if p3 ≤ 50 then (f7_turn_k1 fu p1 p2 gCosts p3 iAlterations iSize aLengths gWorths gMiddles aRanks gApart gApartWithout gNeeded aRoadsByRank gUps gDowns gKeys gNexts aBusy aOpen aBegins aEnds) else some ((-102), iAlterations, iLsize, gCosts, gWorths, gMiddles, gApart, gApartWithout, gNeeded, gUps, gDowns, gKeys, gNexts, aRanks, aRoadsByRank, aBusy, aOpen)
set_option maxHeartbeats 4000000 in
set_option maxRecDepth 100000 in
theorem c_X7_turn (hq : gJ layB q) {fu : Nat} {p1 : Int32} {p2 : Int32} {p3 : Int32} {o_r : Int32} {o_iAlterations : Int32} {o_iLsize : Int32} {o_gCosts : (Nat → Int32)} {o_gWorths : (Nat → Int32)} {o_gMiddles : (Nat → Int32)} {o_gApart : (Nat → Int32)} {o_gApartWithout : (Nat → Int32)} {o_gNeeded : (Nat → Int32)} {o_gUps : (Nat → Int32)} {o_gDowns : (Nat → Int32)} {o_gKeys : (Nat → Int32)} {o_gNexts : (Nat → Int32)} {o_aRanks : (Nat → Int32)} {o_aRoadsByRank : (Nat → Int32)} {o_aBusy : (Nat → Int32)} {o_aOpen : (Nat → Int32)} (h : f7_turn fu p1 iSize p2 iAlterations iLsize gCosts gWorths gMiddles gApart gApartWithout gNeeded gUps gDowns gKeys gNexts aRanks aRoadsByRank aBusy aOpen p3 aLengths aBegins aEnds = some (o_r, o_iAlterations, o_iLsize, o_gCosts, o_gWorths, o_gMiddles, o_gApart, o_gApartWithout, o_gNeeded, o_gUps, o_gDowns, o_gKeys, o_gNexts, o_aRanks, o_aRoadsByRank, o_aBusy, o_aOpen)) :
    GM l yX7_turn cX7_turn 5 (some .int) 7 168 D cI cZ layB q [.ref (q 22), .int p1, .int p2, .int p3] ([iReadings, iAlterations, iRankings, iLetters, iCurrent, iDue, iSize, iLsize], [], [gCosts, gWorths, gMiddles, gApart, gApartWithout, gNeeded, gUps, gDowns, gKeys, gNexts, gShutKeys, aCodes, aPbegins, aPends, aPlengths, aBegins, aEnds, aLengths, aRanks, aRoadsByRank, aRow, aRanksBefore, aBusy, aOpen, aShut]) (some (.int o_r)) ([iReadings, o_iAlterations, iRankings, iLetters, iCurrent, iDue, iSize, o_iLsize], [], [o_gCosts, o_gWorths, o_gMiddles, o_gApart, o_gApartWithout, o_gNeeded, o_gUps, o_gDowns, o_gKeys, o_gNexts, gShutKeys, aCodes, aPbegins, aPends, aPlengths, aBegins, aEnds, aLengths, o_aRanks, o_aRoadsByRank, aRow, aRanksBefore, o_aBusy, o_aOpen, aShut]) := by
  refine GM.go RX7 (by decide) rfl (Nat.le_of_ble_eq_true rfl) ?_
  intro p e s m args below meth c ls R Q H locs X hr hlk hT hG hl hR hQ
  have hx := X.1
  have hb := X.2.1
  have hl : lv_has ls 5 [(0, .ref (q 22)), (1, .int p1), (2, .int p2), (3, .int p3)] := hl
  unfold f7_turn at h
  refine lv_aload_n hx hb dX7_turn_0 rfl (lv_at hl 0 rfl) ?_
  refine g_get (v := .ref (q 24)) X hT hG fl_X7_19 22 rfl rfl rfl dX7_turn_1 ?_
  refine lv_iload_n hx hb dX7_turn_4 rfl (lv_at hl 1 rfl) ?_
  refine lv_iload_n hx hb dX7_turn_5 rfl (lv_at hl 2 rfl) ?_
  obtain ⟨r_1, ec2, h⟩ := bnd1_some h
  refine g_callVr [.int p1, .int p2] [] 24 X hT hG ml_X7_95 (c_X3_hasBoth hq ec2) rfl rfl rfl rfl rfl hl.1 (Nat.le_of_ble_eq_true rfl) (by rw [hR]; exact ⟨Nat.le_of_ble_eq_true rfl, Nat.le_of_ble_eq_true rfl⟩) dX7_turn_6 (fun H locs hG => ?_)
  refine lv_if_ne (tgt := 15) hx hb dX7_turn_9 (by decide) (fun cb3 => ?_) (fun cb3 => ?_)
  · have h := ite_f cb3 h
    refine lv_aload_n hx hb dX7_turn_15 rfl (lv_at hl 0 rfl) ?_
    refine g_get (v := .ref (q 24)) X hT hG fl_X7_19 22 rfl rfl rfl dX7_turn_16 ?_
    refine lv_iload_n hx hb dX7_turn_19 rfl (lv_at hl 1 rfl) ?_
    refine lv_iload_n hx hb dX7_turn_20 rfl (lv_at hl 2 rfl) ?_
    obtain ⟨r_4, ec5, h⟩ := bnd1_some h
    refine g_callVr [.int p1, .int p2] [] 24 X hT hG ml_X7_99 (c_X3_hasTurn hq ec5) rfl rfl rfl rfl rfl hl.1 (Nat.le_of_ble_eq_true rfl) (by rw [hR]; exact ⟨Nat.le_of_ble_eq_true rfl, Nat.le_of_ble_eq_true rfl⟩) dX7_turn_21 (fun H locs hG => ?_)
    refine lv_if_ne (tgt := 30) hx hb dX7_turn_24 (by decide) (fun cb6 => ?_) (fun cb6 => ?_)
    · have h := ite_f cb6 h
      refine lv_iload_n hx hb dX7_turn_30 rfl (lv_at hl 3 rfl) ?_
      refine lv_bipush (v := (-5)) hx hb dX7_turn_31 (by decide) ?_
      have K7 : ∀ (H : Heap) (locs : List Loc) (ls : Array Slot), GH D cI cZ layB q s ([iReadings, iAlterations, iRankings, iLetters, iCurrent, iDue, iSize, iLsize], [], [gCosts, gWorths, gMiddles, gApart, gApartWithout, gNeeded, gUps, gDowns, gKeys, gNexts, gShutKeys, aCodes, aPbegins, aPends, aPlengths, aBegins, aEnds, aLengths, aRanks, aRoadsByRank, aRow, aRanksBefore, aBusy, aOpen, aShut]) H locs → lv_has ls 5 [(0, .ref (q 22)), (1, .int p1), (2, .int p2), (3, .int p3)] → f7_turn_k1 fu p1 p2 gCosts p3 iAlterations iSize aLengths gWorths gMiddles aRanks gApart gApartWithout gNeeded aRoadsByRank gUps gDowns gKeys gNexts aBusy aOpen aBegins aEnds = some (o_r, o_iAlterations, o_iLsize, o_gCosts, o_gWorths, o_gMiddles, o_gApart, o_gApartWithout, o_gNeeded, o_gUps, o_gDowns, o_gKeys, o_gNexts, o_aRanks, o_aRoadsByRank, o_aBusy, o_aOpen) → W p l e R s m args below meth c H locs 0 0 Q (F0 m 49 ls []) := by
        intro H locs ls hG hl hk7
        unfold f7_turn_k1 at hk7
        refine lv_aload_n hx hb dX7_turn_49 rfl (lv_at hl 0 rfl) ?_
        refine g_get (v := .ref (q 24)) X hT hG fl_X7_19 22 rfl rfl rfl dX7_turn_50 ?_
        refine g_get (v := .ref (q 0)) X hT hG fl_X7_102 24 rfl rfl rfl dX7_turn_53 ?_
        refine lv_iload_n hx hb dX7_turn_56 rfl (lv_at hl 1 rfl) ?_
        refine lv_iload_n hx hb dX7_turn_57 rfl (lv_at hl 2 rfl) ?_
        obtain ⟨r_8, ec9, hk7⟩ := bnd1_some hk7
        refine g_callVr [.int p1, .int p2] [] 0 X hT hG ml_X7_106 (c_X1_get_0 hq ec9) rfl rfl rfl rfl rfl hl.1 (Nat.le_of_ble_eq_true rfl) (by rw [hR]; exact ⟨Nat.le_of_ble_eq_true rfl, Nat.le_of_ble_eq_true rfl⟩) dX7_turn_58 (fun H locs hG => ?_)
        refine lv_istore (lv' := [(4, .int r_8), (0, .ref (q 22)), (1, .int p1), (2, .int p2), (3, .int p3)]) hx hb dX7_turn_61 hl (by decide) rfl (fun ls hl => ?_)
        refine lv_aload_n hx hb dX7_turn_63 rfl (lv_at hl 1 rfl) ?_
        refine g_get (v := .ref (q 24)) X hT hG fl_X7_19 22 rfl rfl rfl dX7_turn_64 ?_
        refine g_get (v := .ref (q 0)) X hT hG fl_X7_102 24 rfl rfl rfl dX7_turn_67 ?_
        refine lv_iload_n hx hb dX7_turn_70 rfl (lv_at hl 2 rfl) ?_
        refine lv_iload_n hx hb dX7_turn_71 rfl (lv_at hl 3 rfl) ?_
        refine lv_iload_n hx hb dX7_turn_72 rfl (lv_at hl 4 rfl) ?_
        obtain ⟨gCosts_10, ec11, hk7⟩ := bnd1_some hk7
        refine g_callVv [.int p1, .int p2, .int p3] [] 0 X hT hG ml_X7_112 (c_X1_set_0 hq ec11) rfl rfl rfl rfl rfl hl.1 (Nat.le_of_ble_eq_true rfl) (by rw [hR]; exact ⟨Nat.le_of_ble_eq_true rfl, Nat.le_of_ble_eq_true rfl⟩) dX7_turn_73 (fun H locs hG => ?_)
        have hG : GH D cI cZ layB q s ([iReadings, iAlterations, iRankings, iLetters, iCurrent, iDue, iSize, iLsize], [], [gCosts_10, gWorths, gMiddles, gApart, gApartWithout, gNeeded, gUps, gDowns, gKeys, gNexts, gShutKeys, aCodes, aPbegins, aPends, aPlengths, aBegins, aEnds, aLengths, aRanks, aRoadsByRank, aRow, aRanksBefore, aBusy, aOpen, aShut]) H locs := hG
        refine lv_aload_n hx hb dX7_turn_76 rfl (lv_at hl 1 rfl) ?_
        obtain ⟨iAlterations_12, iLsize_13, gWorths_14, gMiddles_15, gApart_16, gApartWithout_17, gNeeded_18, gUps_19, gDowns_20, gKeys_21, gNexts_22, aRanks_23, aRoadsByRank_24, aBusy_25, aOpen_26, ec27, hk7⟩ := bnd15_some hk7
        refine g_callVv [] [] 22 X hT hG ml_X7_92 (c_X7_makeAnew hq ec27) rfl rfl rfl rfl rfl hl.1 (Nat.le_of_ble_eq_true rfl) (by rw [hR]; exact ⟨Nat.le_of_ble_eq_true rfl, Nat.le_of_ble_eq_true rfl⟩) dX7_turn_77 (fun H locs hG => ?_)
        have hG : GH D cI cZ layB q s ([iReadings, iAlterations_12, iRankings, iLetters, iCurrent, iDue, iSize, iLsize_13], [], [gCosts_10, gWorths_14, gMiddles_15, gApart_16, gApartWithout_17, gNeeded_18, gUps_19, gDowns_20, gKeys_21, gNexts_22, gShutKeys, aCodes, aPbegins, aPends, aPlengths, aBegins, aEnds, aLengths, aRanks_23, aRoadsByRank_24, aRow, aRanksBefore, aBusy_25, aOpen_26, aShut]) H locs := hG
        refine lv_iload hx hb dX7_turn_80 (lv_at hl 0 rfl) ?_
        cases hk7
        rw [hQ]
        exact g_iret X hT hG hr hlk dX7_turn_82
      refine lv_icmp_eq (tgt := 49) hx hb dX7_turn_33 (by decide) (fun cb28 => ?_) (fun cb28 => ?_)
      · have h := ite_t cb28 h
        exact K7 H locs ls hG (lv_sub hl [0, 1, 2, 3] rfl) h
      · have h := ite_f cb28 h
        refine lv_iload_n hx hb dX7_turn_36 rfl (lv_at hl 3 rfl) ?_
        refine lv_if_lt (tgt := 46) hx hb dX7_turn_37 (by decide) (fun cb29 => ?_) (fun cb29 => ?_)
        · have h := ite_t cb29 h
          refine lv_bipush (v := (-102)) hx hb dX7_turn_46 (by decide) ?_
          cases h
          rw [hQ]
          exact g_iret X hT hG hr hlk dX7_turn_48
        · have h := ite_f cb29 h
          refine lv_iload_n hx hb dX7_turn_40 rfl (lv_at hl 3 rfl) ?_
          refine lv_bipush (v := 50) hx hb dX7_turn_41 (by decide) ?_
          refine lv_icmp_le (tgt := 49) hx hb dX7_turn_43 (by decide) (fun cb30 => ?_) (fun cb30 => ?_)
          · have h := ite_t cb30 h
            exact K7 H locs ls hG (lv_sub hl [0, 1, 2, 3] rfl) h
          · have h := ite_f cb30 h
            refine lv_bipush (v := (-102)) hx hb dX7_turn_46 (by decide) ?_
            cases h
            rw [hQ]
            exact g_iret X hT hG hr hlk dX7_turn_48
    · have h := ite_t cb6 h
      refine lv_bipush (v := (-103)) hx hb dX7_turn_27 (by decide) ?_
      cases h
      rw [hQ]
      exact g_iret X hT hG hr hlk dX7_turn_29
  · have h := ite_t cb3 h
    refine lv_bipush (v := (-101)) hx hb dX7_turn_12 (by decide) ?_
    cases h
    rw [hQ]
    exact g_iret X hT hG hr hlk dX7_turn_14
def f2_noteRanks (aRanks : (Nat → Int32)) (aRanksBefore : (Nat → Int32)) : Option ((Nat → Int32)) :=
  bd (va_cpy aRanks aRanksBefore (0 : Int32).toNatClampNeg (0 : Int32).toNatClampNeg (12 : Int32).toNatClampNeg) fun aRanksBefore_1 => some aRanksBefore_1
set_option maxHeartbeats 4000000 in
set_option maxRecDepth 100000 in
theorem c_X2_noteRanks (hq : gJ layB q) {o_aRanksBefore : (Nat → Int32)} (h : f2_noteRanks aRanks aRanksBefore = some o_aRanksBefore) :
    GM l yX2_noteRanks cX2_noteRanks 1 none 1 18 D cI cZ layB q [.ref (q 25)] ([iReadings, iAlterations, iRankings, iLetters, iCurrent, iDue, iSize, iLsize], [], [gCosts, gWorths, gMiddles, gApart, gApartWithout, gNeeded, gUps, gDowns, gKeys, gNexts, gShutKeys, aCodes, aPbegins, aPends, aPlengths, aBegins, aEnds, aLengths, aRanks, aRoadsByRank, aRow, aRanksBefore, aBusy, aOpen, aShut]) none ([iReadings, iAlterations, iRankings, iLetters, iCurrent, iDue, iSize, iLsize], [], [gCosts, gWorths, gMiddles, gApart, gApartWithout, gNeeded, gUps, gDowns, gKeys, gNexts, gShutKeys, aCodes, aPbegins, aPends, aPlengths, aBegins, aEnds, aLengths, aRanks, aRoadsByRank, aRow, o_aRanksBefore, aBusy, aOpen, aShut]) := by
  refine GM.go RX2 (by decide) rfl (Nat.le_of_ble_eq_true rfl) ?_
  intro p e s m args below meth c ls R Q H locs X hr hlk hT hG hl hR hQ
  have hx := X.1
  have hb := X.2.1
  have hl : lv_has ls 1 [(0, .ref (q 25))] := hl
  unfold f2_noteRanks at h
  refine lv_aload_n hx hb dX2_noteRanks_0 rfl (lv_at hl 0 rfl) ?_
  refine g_get (v := .ref (q 36)) X hT hG fl_X2_21 25 rfl rfl rfl dX2_noteRanks_1 ?_
  refine lv_iconst (v := 0) hx hb dX2_noteRanks_4 (by decide) ?_
  refine lv_aload_n hx hb dX2_noteRanks_5 rfl (lv_at hl 0 rfl) ?_
  refine g_get (v := .ref (q 39)) X hT hG fl_X2_31 25 rfl rfl rfl dX2_noteRanks_6 ?_
  refine lv_iconst (v := 0) hx hb dX2_noteRanks_9 (by decide) ?_
  refine lv_bipush (v := 12) hx hb dX2_noteRanks_10 (by decide) ?_
  obtain ⟨aRanksBefore_1, eaRanksBefore_1⟩ : ∃ z : Nat → Int32, z = va_cpy aRanks aRanksBefore (0 : Int32).toNatClampNeg (0 : Int32).toNatClampNeg (12 : Int32).toNatClampNeg := ⟨_, rfl⟩
  have h := bd_e eaRanksBefore_1 h
  refine g_copy 36 39 (w' := ([iReadings, iAlterations, iRankings, iLetters, iCurrent, iDue, iSize, iLsize], [], [gCosts, gWorths, gMiddles, gApart, gApartWithout, gNeeded, gUps, gDowns, gKeys, gNexts, gShutKeys, aCodes, aPbegins, aPends, aPlengths, aBegins, aEnds, aLengths, aRanks, aRoadsByRank, aRow, aRanksBefore_1, aBusy, aOpen, aShut])) X hT hq hG mc_X2_63 rfl rfl ga_B_aRanksBefore (Nat.le_of_ble_eq_true rfl) (by decide) (by decide) (by decide) (by decide) (by decide) hl.1 (by rw [hR]; exact Nat.le_of_ble_eq_true rfl) (by rw [hR]; exact Nat.le_of_ble_eq_true rfl) (by subst eaRanksBefore_1; rfl) dX2_noteRanks_12 (fun H locs hG => ?_)
  cases h
  rw [hQ]
  exact g_vret X hT hG hr hlk dX2_noteRanks_15
def f2_countMoved_b1 (iLsize : Int32) (aRanks : (Nat → Int32)) (aRanksBefore : (Nat → Int32)) (x1_1 : Int32) (x2_2 : Int32) : Option ((Int32 × Int32) ⊕ (Int32)) :=
  if iLsize ≤ x2_2 then (some (.inr x1_1)) else ckin x2_2 12 (ckin x2_2 12 (bnd1 (if (aRanks x2_2.toNatClampNeg) = (aRanksBefore x2_2.toNatClampNeg) then (some 0) else some 1) fun (y_8 : Int32) => bd ((x1_1 + y_8)) fun x1_11 => bd (x2_2 + 1) fun x2_12 => some (.inl (x1_11, x2_12))))
def f2_countMoved (fu : Nat) (iLsize : Int32) (aRanks : (Nat → Int32)) (aRanksBefore : (Nat → Int32)) : Option (Int32) :=
  bnd1 (lpG (fun z => f2_countMoved_b1 iLsize aRanks aRanksBefore z.1 z.2) fu ((0 : Int32), (0 : Int32))) fun (x1_3 : Int32) => some x1_3
set_option maxHeartbeats 4000000 in
set_option maxRecDepth 100000 in
theorem c_X2_countMoved (hq : gJ layB q) {fu : Nat} {o_r : Int32} (h : f2_countMoved fu iLsize aRanks aRanksBefore = some o_r) :
    GM l yX2_countMoved cX2_countMoved 3 (some .int) 0 0 D cI cZ layB q [.ref (q 25)] ([iReadings, iAlterations, iRankings, iLetters, iCurrent, iDue, iSize, iLsize], [], [gCosts, gWorths, gMiddles, gApart, gApartWithout, gNeeded, gUps, gDowns, gKeys, gNexts, gShutKeys, aCodes, aPbegins, aPends, aPlengths, aBegins, aEnds, aLengths, aRanks, aRoadsByRank, aRow, aRanksBefore, aBusy, aOpen, aShut]) (some (.int o_r)) ([iReadings, iAlterations, iRankings, iLetters, iCurrent, iDue, iSize, iLsize], [], [gCosts, gWorths, gMiddles, gApart, gApartWithout, gNeeded, gUps, gDowns, gKeys, gNexts, gShutKeys, aCodes, aPbegins, aPends, aPlengths, aBegins, aEnds, aLengths, aRanks, aRoadsByRank, aRow, aRanksBefore, aBusy, aOpen, aShut]) := by
  refine GM.go RX2 (by decide) rfl (Nat.le_of_ble_eq_true rfl) ?_
  intro p e s m args below meth c ls R Q H locs X hr hlk hT hG hl hR hQ
  have hx := X.1
  have hb := X.2.1
  have hl : lv_has ls 3 [(0, .ref (q 25))] := hl
  unfold f2_countMoved at h
  refine lv_iconst (v := 0) hx hb dX2_countMoved_0 (by decide) ?_
  refine lv_istore_n (lv' := [(1, .int 0), (0, .ref (q 25))]) hx hb dX2_countMoved_1 rfl hl (by decide) rfl (fun ls hl => ?_)
  refine lv_iconst (v := 0) hx hb dX2_countMoved_2 (by decide) ?_
  refine lv_istore_n (lv' := [(2, .int 0), (1, .int 0), (0, .ref (q 25))]) hx hb dX2_countMoved_3 rfl hl (by decide) rfl (fun ls hl => ?_)
  obtain ⟨x1_3, eL4, h⟩ := bnd1_some h
  have JX4 : ∀ (H : Heap) (locs : List Loc) (ls : Array Slot), GH D cI cZ layB q s ([iReadings, iAlterations, iRankings, iLetters, iCurrent, iDue, iSize, iLsize], [], [gCosts, gWorths, gMiddles, gApart, gApartWithout, gNeeded, gUps, gDowns, gKeys, gNexts, gShutKeys, aCodes, aPbegins, aPends, aPlengths, aBegins, aEnds, aLengths, aRanks, aRoadsByRank, aRow, aRanksBefore, aBusy, aOpen, aShut]) H locs → lv_has ls 3 [(1, .int x1_3)] → W p l e R s m args below meth c H locs 0 0 Q (F0 m 41 ls []) := by
    intro H locs ls hG hl
    refine lv_iload_n hx hb dX2_countMoved_41 rfl (lv_at hl 0 rfl) ?_
    cases h
    rw [hQ]
    exact g_iret X hT hG hr hlk dX2_countMoved_42
  refine lpG_W (Wh := fun z => ∀ (H : Heap) (locs : List Loc) (ls : Array Slot), GH D cI cZ layB q s ([iReadings, iAlterations, iRankings, iLetters, iCurrent, iDue, iSize, iLsize], [], [gCosts, gWorths, gMiddles, gApart, gApartWithout, gNeeded, gUps, gDowns, gKeys, gNexts, gShutKeys, aCodes, aPbegins, aPends, aPlengths, aBegins, aEnds, aLengths, aRanks, aRoadsByRank, aRow, aRanksBefore, aBusy, aOpen, aShut]) H locs → lv_has ls 3 [(0, .ref (q 25)), (1, .int (z.1)), (2, .int (z.2))] → W p l e R s m args below meth c H locs 0 0 Q (F0 m 4 ls [])) ?_ fu _ eL4 H locs ls hG (lv_sub hl [2, 1, 0] rfl)
  intro z rr4 hb4 hin4 hout4
  obtain ⟨x1_1, x2_2⟩ := z
  intro H locs ls hG hl
  have hb4 : f2_countMoved_b1 iLsize aRanks aRanksBefore x1_1 x2_2 = some rr4 := hb4
  have hG : GH D cI cZ layB q s ([iReadings, iAlterations, iRankings, iLetters, iCurrent, iDue, iSize, iLsize], [], [gCosts, gWorths, gMiddles, gApart, gApartWithout, gNeeded, gUps, gDowns, gKeys, gNexts, gShutKeys, aCodes, aPbegins, aPends, aPlengths, aBegins, aEnds, aLengths, aRanks, aRoadsByRank, aRow, aRanksBefore, aBusy, aOpen, aShut]) H locs := hG
  have hl : lv_has ls 3 [(0, .ref (q 25)), (1, .int x1_1), (2, .int x2_2)] := hl
  unfold f2_countMoved_b1 at hb4
  refine lv_iload_n hx hb dX2_countMoved_4 rfl (lv_at hl 2 rfl) ?_
  refine lv_aload_n hx hb dX2_countMoved_5 rfl (lv_at hl 0 rfl) ?_
  refine g_get (v := .int iLsize) X hT hG fl_X2_47 25 rfl rfl rfl dX2_countMoved_6 ?_
  refine lv_icmp_ge (tgt := 41) hx hb dX2_countMoved_9 (by decide) (fun cb5 => ?_) (fun cb5 => ?_)
  · have hb4 := ite_t cb5 hb4
    have eo := hout4 _ (Option.some.inj hb4).symm
    cases eo
    exact JX4 H locs ls hG (lv_sub hl [1] rfl)
  · have hb4 := ite_f cb5 hb4
    refine lv_iload_n hx hb dX2_countMoved_12 rfl (lv_at hl 1 rfl) ?_
    refine lv_aload_n hx hb dX2_countMoved_13 rfl (lv_at hl 0 rfl) ?_
    refine g_get (v := .ref (q 36)) X hT hG fl_X2_21 25 rfl rfl rfl dX2_countMoved_14 ?_
    refine lv_iload_n hx hb dX2_countMoved_17 rfl (lv_at hl 2 rfl) ?_
    obtain ⟨hi6, hb4⟩ := ckin_some hb4
    refine g_ald (f := aRanks) X hT hG 36 rfl rfl hi6 dX2_countMoved_18 ?_
    refine lv_aload_n hx hb dX2_countMoved_19 rfl (lv_at hl 0 rfl) ?_
    refine g_get (v := .ref (q 39)) X hT hG fl_X2_31 25 rfl rfl rfl dX2_countMoved_20 ?_
    refine lv_iload_n hx hb dX2_countMoved_23 rfl (lv_at hl 2 rfl) ?_
    obtain ⟨hi7, hb4⟩ := ckin_some hb4
    refine g_ald (f := aRanksBefore) X hT hG 39 rfl rfl hi7 dX2_countMoved_24 ?_
    obtain ⟨y_8, er9, hb4⟩ := bnd1_some hb4
    have J9 : ∀ (H : Heap) (locs : List Loc) (ls : Array Slot), GH D cI cZ layB q s ([iReadings, iAlterations, iRankings, iLetters, iCurrent, iDue, iSize, iLsize], [], [gCosts, gWorths, gMiddles, gApart, gApartWithout, gNeeded, gUps, gDowns, gKeys, gNexts, gShutKeys, aCodes, aPbegins, aPends, aPlengths, aBegins, aEnds, aLengths, aRanks, aRoadsByRank, aRow, aRanksBefore, aBusy, aOpen, aShut]) H locs → lv_has ls 3 [(0, .ref (q 25)), (2, .int x2_2)] → W p l e R s m args below meth c H locs 0 0 Q (F0 m 33 ls [.int y_8, .int x1_1]) := by
      intro H locs ls hG hl
      refine lv_iadd hx hb dX2_countMoved_33 ?_
      refine lv_topi (fun x1_11 ex1_11 => ?_)
      have hb4 := bd_e ex1_11 hb4
      refine lv_istore_n (lv' := [(1, .int x1_11), (0, .ref (q 25)), (2, .int x2_2)]) hx hb dX2_countMoved_34 rfl hl (by decide) rfl (fun ls hl => ?_)
      obtain ⟨x2_12, ex2_12⟩ : ∃ z : Int32, z = x2_2 + 1 := ⟨_, rfl⟩
      have hb4 := bd_e ex2_12 hb4
      refine lv_iinc (v := x2_12) (lv' := [(2, .int x2_12), (1, .int x1_11), (0, .ref (q 25))]) hx hb dX2_countMoved_35 hl (k := 2) rfl (by rw [ex2_12]; rfl) (by decide) rfl (fun ls hl => ?_)
      refine lv_goto (tgt := 4) hx hb dX2_countMoved_38 (by decide) ?_
      exact hin4 _ (Option.some.inj hb4).symm H locs ls hG (lv_sub hl [2, 1, 0] rfl)
    refine lv_icmp_eq (tgt := 32) hx hb dX2_countMoved_25 (by decide) (fun cb10 => ?_) (fun cb10 => ?_)
    · have er9 := ite_t cb10 er9
      refine lv_iconst (v := 0) hx hb dX2_countMoved_32 (by decide) ?_
      cases er9
      exact J9 H locs ls hG (lv_sub hl [0, 2] rfl)
    · have er9 := ite_f cb10 er9
      refine lv_iconst (v := 1) hx hb dX2_countMoved_28 (by decide) ?_
      refine lv_goto (tgt := 33) hx hb dX2_countMoved_29 (by decide) ?_
      cases er9
      exact J9 H locs ls hG (lv_sub hl [0, 2] rfl)
def f7_rank (fu : Nat) (iRankings : Int32) (aRanks : (Nat → Int32)) (aRanksBefore : (Nat → Int32)) (iSize : Int32) (gCosts : (Nat → Int32)) (aLengths : (Nat → Int32)) (gWorths : (Nat → Int32)) (gMiddles : (Nat → Int32)) (gApart : (Nat → Int32)) (gApartWithout : (Nat → Int32)) (gNeeded : (Nat → Int32)) (aRoadsByRank : (Nat → Int32)) (gUps : (Nat → Int32)) (gDowns : (Nat → Int32)) (gKeys : (Nat → Int32)) (gNexts : (Nat → Int32)) (aBusy : (Nat → Int32)) (aOpen : (Nat → Int32)) (aBegins : (Nat → Int32)) (aEnds : (Nat → Int32)) : Option (Int32 × Int32 × Int32 × (Nat → Int32) × (Nat → Int32) × (Nat → Int32) × (Nat → Int32) × (Nat → Int32) × (Nat → Int32) × (Nat → Int32) × (Nat → Int32) × (Nat → Int32) × (Nat → Int32) × (Nat → Int32) × (Nat → Int32) × (Nat → Int32) × (Nat → Int32)) :=
  bd ((iRankings + 1)) fun iRankings_1 => bnd1 (f2_noteRanks aRanks aRanksBefore) fun (aRanksBefore_2 : (Nat → Int32)) => bnd8 (f2_findOrder fu iSize gCosts aLengths gWorths gMiddles aRanks gApart gApartWithout gNeeded aRoadsByRank) fun (iLsize_4 : Int32) (gWorths_5 : (Nat → Int32)) (gMiddles_6 : (Nat → Int32)) (gApart_7 : (Nat → Int32)) (gApartWithout_8 : (Nat → Int32)) (gNeeded_9 : (Nat → Int32)) (aRanks_10 : (Nat → Int32)) (aRoadsByRank_11 : (Nat → Int32)) => bnd6 (f7_measureAll fu iLsize_4 gWorths_5 aRanks_10 gUps gDowns iSize gCosts aLengths gKeys gNexts aBusy aOpen aBegins aEnds) fun (gUps_13 : (Nat → Int32)) (gDowns_14 : (Nat → Int32)) (gKeys_15 : (Nat → Int32)) (gNexts_16 : (Nat → Int32)) (aBusy_17 : (Nat → Int32)) (aOpen_18 : (Nat → Int32)) => bnd1 (f2_countMoved fu iLsize_4 aRanks_10 aRanksBefore_2) fun (r_20 : Int32) => some (r_20, iRankings_1, iLsize_4, gWorths_5, gMiddles_6, gApart_7, gApartWithout_8, gNeeded_9, gUps_13, gDowns_14, gKeys_15, gNexts_16, aRanks_10, aRoadsByRank_11, aRanksBefore_2, aBusy_17, aOpen_18)
set_option maxHeartbeats 4000000 in
set_option maxRecDepth 100000 in
theorem c_X7_rank (hq : gJ layB q) {fu : Nat} {o_r : Int32} {o_iRankings : Int32} {o_iLsize : Int32} {o_gWorths : (Nat → Int32)} {o_gMiddles : (Nat → Int32)} {o_gApart : (Nat → Int32)} {o_gApartWithout : (Nat → Int32)} {o_gNeeded : (Nat → Int32)} {o_gUps : (Nat → Int32)} {o_gDowns : (Nat → Int32)} {o_gKeys : (Nat → Int32)} {o_gNexts : (Nat → Int32)} {o_aRanks : (Nat → Int32)} {o_aRoadsByRank : (Nat → Int32)} {o_aRanksBefore : (Nat → Int32)} {o_aBusy : (Nat → Int32)} {o_aOpen : (Nat → Int32)} (h : f7_rank fu iRankings aRanks aRanksBefore iSize gCosts aLengths gWorths gMiddles gApart gApartWithout gNeeded aRoadsByRank gUps gDowns gKeys gNexts aBusy aOpen aBegins aEnds = some (o_r, o_iRankings, o_iLsize, o_gWorths, o_gMiddles, o_gApart, o_gApartWithout, o_gNeeded, o_gUps, o_gDowns, o_gKeys, o_gNexts, o_aRanks, o_aRoadsByRank, o_aRanksBefore, o_aBusy, o_aOpen)) :
    GM l yX7_rank cX7_rank 1 (some .int) 6 148 D cI cZ layB q [.ref (q 22)] ([iReadings, iAlterations, iRankings, iLetters, iCurrent, iDue, iSize, iLsize], [], [gCosts, gWorths, gMiddles, gApart, gApartWithout, gNeeded, gUps, gDowns, gKeys, gNexts, gShutKeys, aCodes, aPbegins, aPends, aPlengths, aBegins, aEnds, aLengths, aRanks, aRoadsByRank, aRow, aRanksBefore, aBusy, aOpen, aShut]) (some (.int o_r)) ([iReadings, iAlterations, o_iRankings, iLetters, iCurrent, iDue, iSize, o_iLsize], [], [gCosts, o_gWorths, o_gMiddles, o_gApart, o_gApartWithout, o_gNeeded, o_gUps, o_gDowns, o_gKeys, o_gNexts, gShutKeys, aCodes, aPbegins, aPends, aPlengths, aBegins, aEnds, aLengths, o_aRanks, o_aRoadsByRank, aRow, o_aRanksBefore, o_aBusy, o_aOpen, aShut]) := by
  refine GM.go RX7 (by decide) rfl (Nat.le_of_ble_eq_true rfl) ?_
  intro p e s m args below meth c ls R Q H locs X hr hlk hT hG hl hR hQ
  have hx := X.1
  have hb := X.2.1
  have hl : lv_has ls 1 [(0, .ref (q 22))] := hl
  unfold f7_rank at h
  refine lv_aload_n hx hb dX7_rank_0 rfl (lv_at hl 0 rfl) ?_
  refine lv_dup hx hb dX7_rank_1 rfl ?_
  refine g_get (v := .int iRankings) X hT hG fl_X7_116 22 rfl rfl rfl dX7_rank_2 ?_
  refine lv_iconst (v := 1) hx hb dX7_rank_5 (by decide) ?_
  refine lv_iadd hx hb dX7_rank_6 ?_
  refine lv_topi (fun iRankings_1 eiRankings_1 => ?_)
  have h := bd_e eiRankings_1 h
  refine g_putI (w' := ([iReadings, iAlterations, iRankings_1, iLetters, iCurrent, iDue, iSize, iLsize], [], [gCosts, gWorths, gMiddles, gApart, gApartWithout, gNeeded, gUps, gDowns, gKeys, gNexts, gShutKeys, aCodes, aPbegins, aPends, aPlengths, aBegins, aEnds, aLengths, aRanks, aRoadsByRank, aRow, aRanksBefore, aBusy, aOpen, aShut])) X hT hq hG fp_X7_116 22 rfl rfl gu_B_iRankings (Nat.le_of_ble_eq_true rfl) rfl dX7_rank_7 (fun H locs hG => ?_)
  refine lv_aload_n hx hb dX7_rank_10 rfl (lv_at hl 0 rfl) ?_
  refine g_get (v := .ref (q 25)) X hT hG fl_X7_26 22 rfl rfl rfl dX7_rank_11 ?_
  obtain ⟨aRanksBefore_2, ec3, h⟩ := bnd1_some h
  refine g_callVv [] [] 25 X hT hG ml_X7_119 (c_X2_noteRanks hq ec3) rfl rfl rfl rfl rfl hl.1 (Nat.le_of_ble_eq_true rfl) (by rw [hR]; exact ⟨Nat.le_of_ble_eq_true rfl, Nat.le_of_ble_eq_true rfl⟩) dX7_rank_14 (fun H locs hG => ?_)
  have hG : GH D cI cZ layB q s ([iReadings, iAlterations, iRankings_1, iLetters, iCurrent, iDue, iSize, iLsize], [], [gCosts, gWorths, gMiddles, gApart, gApartWithout, gNeeded, gUps, gDowns, gKeys, gNexts, gShutKeys, aCodes, aPbegins, aPends, aPlengths, aBegins, aEnds, aLengths, aRanks, aRoadsByRank, aRow, aRanksBefore_2, aBusy, aOpen, aShut]) H locs := hG
  refine lv_aload_n hx hb dX7_rank_17 rfl (lv_at hl 0 rfl) ?_
  refine g_get (v := .ref (q 25)) X hT hG fl_X7_26 22 rfl rfl rfl dX7_rank_18 ?_
  refine lv_aload_n hx hb dX7_rank_21 rfl (lv_at hl 0 rfl) ?_
  refine g_get (v := .ref (q 24)) X hT hG fl_X7_19 22 rfl rfl rfl dX7_rank_22 ?_
  obtain ⟨iLsize_4, gWorths_5, gMiddles_6, gApart_7, gApartWithout_8, gNeeded_9, aRanks_10, aRoadsByRank_11, ec12, h⟩ := bnd8_some h
  refine g_callVv [.ref (q 24)] [] 25 X hT hG ml_X7_74 (c_X2_findOrder_25_24 hq ec12) rfl rfl rfl rfl rfl hl.1 (Nat.le_of_ble_eq_true rfl) (by rw [hR]; exact ⟨Nat.le_of_ble_eq_true rfl, Nat.le_of_ble_eq_true rfl⟩) dX7_rank_25 (fun H locs hG => ?_)
  have hG : GH D cI cZ layB q s ([iReadings, iAlterations, iRankings_1, iLetters, iCurrent, iDue, iSize, iLsize_4], [], [gCosts, gWorths_5, gMiddles_6, gApart_7, gApartWithout_8, gNeeded_9, gUps, gDowns, gKeys, gNexts, gShutKeys, aCodes, aPbegins, aPends, aPlengths, aBegins, aEnds, aLengths, aRanks_10, aRoadsByRank_11, aRow, aRanksBefore_2, aBusy, aOpen, aShut]) H locs := hG
  refine lv_aload_n hx hb dX7_rank_28 rfl (lv_at hl 0 rfl) ?_
  obtain ⟨gUps_13, gDowns_14, gKeys_15, gNexts_16, aBusy_17, aOpen_18, ec19, h⟩ := bnd6_some h
  refine g_callVv [] [] 22 X hT hG ml_X7_78 (c_X7_measureAll hq ec19) rfl rfl rfl rfl rfl hl.1 (Nat.le_of_ble_eq_true rfl) (by rw [hR]; exact ⟨Nat.le_of_ble_eq_true rfl, Nat.le_of_ble_eq_true rfl⟩) dX7_rank_29 (fun H locs hG => ?_)
  have hG : GH D cI cZ layB q s ([iReadings, iAlterations, iRankings_1, iLetters, iCurrent, iDue, iSize, iLsize_4], [], [gCosts, gWorths_5, gMiddles_6, gApart_7, gApartWithout_8, gNeeded_9, gUps_13, gDowns_14, gKeys_15, gNexts_16, gShutKeys, aCodes, aPbegins, aPends, aPlengths, aBegins, aEnds, aLengths, aRanks_10, aRoadsByRank_11, aRow, aRanksBefore_2, aBusy_17, aOpen_18, aShut]) H locs := hG
  refine lv_aload_n hx hb dX7_rank_32 rfl (lv_at hl 0 rfl) ?_
  refine g_get (v := .ref (q 25)) X hT hG fl_X7_26 22 rfl rfl rfl dX7_rank_33 ?_
  obtain ⟨r_20, ec21, h⟩ := bnd1_some h
  refine g_callVr [] [] 25 X hT hG ml_X7_122 (c_X2_countMoved hq ec21) rfl rfl rfl rfl rfl hl.1 (Nat.le_of_ble_eq_true rfl) (by rw [hR]; exact ⟨Nat.le_of_ble_eq_true rfl, Nat.le_of_ble_eq_true rfl⟩) dX7_rank_36 (fun H locs hG => ?_)
  cases h
  rw [hQ]
  exact g_iret X hT hG hr hlk dX7_rank_39
set_option maxHeartbeats 4000000 in
set_option maxRecDepth 100000 in
theorem c_X1_get_2 (hq : gJ layB q) {p1 : Int32} {p2 : Int32} {o_r : Int32} (h : f1_get p1 p2 gMiddles = some o_r) :
    GM l yX1_get cX1_get 3 (some .int) 0 0 D cI cZ layB q [.ref (q 2), .int p1, .int p2] ([iReadings, iAlterations, iRankings, iLetters, iCurrent, iDue, iSize, iLsize], [], [gCosts, gWorths, gMiddles, gApart, gApartWithout, gNeeded, gUps, gDowns, gKeys, gNexts, gShutKeys, aCodes, aPbegins, aPends, aPlengths, aBegins, aEnds, aLengths, aRanks, aRoadsByRank, aRow, aRanksBefore, aBusy, aOpen, aShut]) (some (.int o_r)) ([iReadings, iAlterations, iRankings, iLetters, iCurrent, iDue, iSize, iLsize], [], [gCosts, gWorths, gMiddles, gApart, gApartWithout, gNeeded, gUps, gDowns, gKeys, gNexts, gShutKeys, aCodes, aPbegins, aPends, aPlengths, aBegins, aEnds, aLengths, aRanks, aRoadsByRank, aRow, aRanksBefore, aBusy, aOpen, aShut]) := by
  refine GM.go RX1 (by decide) rfl (Nat.le_of_ble_eq_true rfl) ?_
  intro p e s m args below meth c ls R Q H locs X hr hlk hT hG hl hR hQ
  have hx := X.1
  have hb := X.2.1
  have hl : lv_has ls 3 [(0, .ref (q 2)), (1, .int p1), (2, .int p2)] := hl
  unfold f1_get at h
  refine lv_aload_n hx hb dX1_get_0 rfl (lv_at hl 0 rfl) ?_
  refine g_get (v := .ref (q 13)) X hT hG fl_X1_9 2 rfl rfl rfl dX1_get_1 ?_
  refine lv_iload_n hx hb dX1_get_4 rfl (lv_at hl 1 rfl) ?_
  refine lv_bipush (v := 12) hx hb dX1_get_5 (by decide) ?_
  refine lv_imul hx hb dX1_get_7 ?_
  refine lv_iload_n hx hb dX1_get_8 rfl (lv_at hl 2 rfl) ?_
  refine lv_iadd hx hb dX1_get_9 ?_
  obtain ⟨hi1, h⟩ := ckin_some h
  refine g_ald (f := gMiddles) X hT hG 13 rfl rfl hi1 dX1_get_10 ?_
  cases h
  rw [hQ]
  exact g_iret X hT hG hr hlk dX1_get_11
def f2_countArcsOver_b2 (iLsize : Int32) (x3_2 : Int32) (gMiddles : (Nat → Int32)) (p1 : Int32) (x2_6 : Int32) (x4_7 : Int32) : Option ((Int32 × Int32) ⊕ (Int32)) :=
  if iLsize ≤ x4_7 then (some (.inr x2_6)) else bnd1 (f1_get x3_2 x4_7 gMiddles) fun (r_11 : Int32) => bnd1 (if r_11 = p1 then (some 1) else some 0) fun (y_13 : Int32) => bd ((x2_6 + y_13)) fun x2_16 => bd (x4_7 + 1) fun x4_17 => some (.inl (x2_16, x4_17))
def f2_countArcsOver_b1 (fu : Nat) (iLsize : Int32) (gMiddles : (Nat → Int32)) (p1 : Int32) (x2_1 : Int32) (x3_2 : Int32) : Option ((Int32 × Int32) ⊕ (Int32)) :=
  if iLsize ≤ x3_2 then (some (.inr x2_1)) else bnd1 (lpG (fun z => f2_countArcsOver_b2 iLsize x3_2 gMiddles p1 z.1 z.2) fu (x2_1, (0 : Int32))) fun (x2_8 : Int32) => bd (x3_2 + 1) fun x3_18 => some (.inl (x2_8, x3_18))
def f2_countArcsOver (fu : Nat) (iLsize : Int32) (gMiddles : (Nat → Int32)) (p1 : Int32) : Option (Int32) :=
  bnd1 (lpG (fun z => f2_countArcsOver_b1 fu iLsize gMiddles p1 z.1 z.2) fu ((0 : Int32), (0 : Int32))) fun (x2_3 : Int32) => some x2_3
set_option maxHeartbeats 4000000 in
set_option maxRecDepth 100000 in
theorem c_X2_countArcsOver (hq : gJ layB q) {fu : Nat} {p1 : Int32} {o_r : Int32} (h : f2_countArcsOver fu iLsize gMiddles p1 = some o_r) :
    GM l yX2_countArcsOver cX2_countArcsOver 5 (some .int) 1 22 D cI cZ layB q [.ref (q 25), .int p1] ([iReadings, iAlterations, iRankings, iLetters, iCurrent, iDue, iSize, iLsize], [], [gCosts, gWorths, gMiddles, gApart, gApartWithout, gNeeded, gUps, gDowns, gKeys, gNexts, gShutKeys, aCodes, aPbegins, aPends, aPlengths, aBegins, aEnds, aLengths, aRanks, aRoadsByRank, aRow, aRanksBefore, aBusy, aOpen, aShut]) (some (.int o_r)) ([iReadings, iAlterations, iRankings, iLetters, iCurrent, iDue, iSize, iLsize], [], [gCosts, gWorths, gMiddles, gApart, gApartWithout, gNeeded, gUps, gDowns, gKeys, gNexts, gShutKeys, aCodes, aPbegins, aPends, aPlengths, aBegins, aEnds, aLengths, aRanks, aRoadsByRank, aRow, aRanksBefore, aBusy, aOpen, aShut]) := by
  refine GM.go RX2 (by decide) rfl (Nat.le_of_ble_eq_true rfl) ?_
  intro p e s m args below meth c ls R Q H locs X hr hlk hT hG hl hR hQ
  have hx := X.1
  have hb := X.2.1
  have hl : lv_has ls 5 [(0, .ref (q 25)), (1, .int p1)] := hl
  unfold f2_countArcsOver at h
  refine lv_iconst (v := 0) hx hb dX2_countArcsOver_0 (by decide) ?_
  refine lv_istore_n (lv' := [(2, .int 0), (0, .ref (q 25)), (1, .int p1)]) hx hb dX2_countArcsOver_1 rfl hl (by decide) rfl (fun ls hl => ?_)
  refine lv_iconst (v := 0) hx hb dX2_countArcsOver_2 (by decide) ?_
  refine lv_istore_n (lv' := [(3, .int 0), (2, .int 0), (0, .ref (q 25)), (1, .int p1)]) hx hb dX2_countArcsOver_3 rfl hl (by decide) rfl (fun ls hl => ?_)
  obtain ⟨x2_3, eL4, h⟩ := bnd1_some h
  have JX4 : ∀ (H : Heap) (locs : List Loc) (ls : Array Slot), GH D cI cZ layB q s ([iReadings, iAlterations, iRankings, iLetters, iCurrent, iDue, iSize, iLsize], [], [gCosts, gWorths, gMiddles, gApart, gApartWithout, gNeeded, gUps, gDowns, gKeys, gNexts, gShutKeys, aCodes, aPbegins, aPends, aPlengths, aBegins, aEnds, aLengths, aRanks, aRoadsByRank, aRow, aRanksBefore, aBusy, aOpen, aShut]) H locs → lv_has ls 5 [(2, .int x2_3)] → W p l e R s m args below meth c H locs 0 0 Q (F0 m 58 ls []) := by
    intro H locs ls hG hl
    refine lv_iload_n hx hb dX2_countArcsOver_58 rfl (lv_at hl 0 rfl) ?_
    cases h
    rw [hQ]
    exact g_iret X hT hG hr hlk dX2_countArcsOver_59
  refine lpG_W (Wh := fun z => ∀ (H : Heap) (locs : List Loc) (ls : Array Slot), GH D cI cZ layB q s ([iReadings, iAlterations, iRankings, iLetters, iCurrent, iDue, iSize, iLsize], [], [gCosts, gWorths, gMiddles, gApart, gApartWithout, gNeeded, gUps, gDowns, gKeys, gNexts, gShutKeys, aCodes, aPbegins, aPends, aPlengths, aBegins, aEnds, aLengths, aRanks, aRoadsByRank, aRow, aRanksBefore, aBusy, aOpen, aShut]) H locs → lv_has ls 5 [(0, .ref (q 25)), (1, .int p1), (2, .int (z.1)), (3, .int (z.2))] → W p l e R s m args below meth c H locs 0 0 Q (F0 m 4 ls [])) ?_ fu _ eL4 H locs ls hG (lv_sub hl [2, 3, 1, 0] rfl)
  intro z rr4 hb4 hin4 hout4
  obtain ⟨x2_1, x3_2⟩ := z
  intro H locs ls hG hl
  have hb4 : f2_countArcsOver_b1 fu iLsize gMiddles p1 x2_1 x3_2 = some rr4 := hb4
  have hG : GH D cI cZ layB q s ([iReadings, iAlterations, iRankings, iLetters, iCurrent, iDue, iSize, iLsize], [], [gCosts, gWorths, gMiddles, gApart, gApartWithout, gNeeded, gUps, gDowns, gKeys, gNexts, gShutKeys, aCodes, aPbegins, aPends, aPlengths, aBegins, aEnds, aLengths, aRanks, aRoadsByRank, aRow, aRanksBefore, aBusy, aOpen, aShut]) H locs := hG
  have hl : lv_has ls 5 [(0, .ref (q 25)), (1, .int p1), (2, .int x2_1), (3, .int x3_2)] := hl
  unfold f2_countArcsOver_b1 at hb4
  refine lv_iload_n hx hb dX2_countArcsOver_4 rfl (lv_at hl 3 rfl) ?_
  refine lv_aload_n hx hb dX2_countArcsOver_5 rfl (lv_at hl 0 rfl) ?_
  refine g_get (v := .int iLsize) X hT hG fl_X2_47 25 rfl rfl rfl dX2_countArcsOver_6 ?_
  refine lv_icmp_ge (tgt := 58) hx hb dX2_countArcsOver_9 (by decide) (fun cb5 => ?_) (fun cb5 => ?_)
  · have hb4 := ite_t cb5 hb4
    have eo := hout4 _ (Option.some.inj hb4).symm
    cases eo
    exact JX4 H locs ls hG (lv_sub hl [2] rfl)
  · have hb4 := ite_f cb5 hb4
    refine lv_iconst (v := 0) hx hb dX2_countArcsOver_12 (by decide) ?_
    refine lv_istore (lv' := [(4, .int 0), (0, .ref (q 25)), (1, .int p1), (2, .int x2_1), (3, .int x3_2)]) hx hb dX2_countArcsOver_13 hl (by decide) rfl (fun ls hl => ?_)
    obtain ⟨x2_8, eL9, hb4⟩ := bnd1_some hb4
    have JX9 : ∀ (H : Heap) (locs : List Loc) (ls : Array Slot), GH D cI cZ layB q s ([iReadings, iAlterations, iRankings, iLetters, iCurrent, iDue, iSize, iLsize], [], [gCosts, gWorths, gMiddles, gApart, gApartWithout, gNeeded, gUps, gDowns, gKeys, gNexts, gShutKeys, aCodes, aPbegins, aPends, aPlengths, aBegins, aEnds, aLengths, aRanks, aRoadsByRank, aRow, aRanksBefore, aBusy, aOpen, aShut]) H locs → lv_has ls 5 [(0, .ref (q 25)), (1, .int p1), (2, .int x2_8), (3, .int x3_2)] → W p l e R s m args below meth c H locs 0 0 Q (F0 m 52 ls []) := by
      intro H locs ls hG hl
      obtain ⟨x3_18, ex3_18⟩ : ∃ z : Int32, z = x3_2 + 1 := ⟨_, rfl⟩
      have hb4 := bd_e ex3_18 hb4
      refine lv_iinc (v := x3_18) (lv' := [(3, .int x3_18), (0, .ref (q 25)), (1, .int p1), (2, .int x2_8)]) hx hb dX2_countArcsOver_52 hl (k := 3) rfl (by rw [ex3_18]; rfl) (by decide) rfl (fun ls hl => ?_)
      refine lv_goto (tgt := 4) hx hb dX2_countArcsOver_55 (by decide) ?_
      exact hin4 _ (Option.some.inj hb4).symm H locs ls hG (lv_sub hl [1, 2, 3, 0] rfl)
    refine lpG_W (Wh := fun z => ∀ (H : Heap) (locs : List Loc) (ls : Array Slot), GH D cI cZ layB q s ([iReadings, iAlterations, iRankings, iLetters, iCurrent, iDue, iSize, iLsize], [], [gCosts, gWorths, gMiddles, gApart, gApartWithout, gNeeded, gUps, gDowns, gKeys, gNexts, gShutKeys, aCodes, aPbegins, aPends, aPlengths, aBegins, aEnds, aLengths, aRanks, aRoadsByRank, aRow, aRanksBefore, aBusy, aOpen, aShut]) H locs → lv_has ls 5 [(0, .ref (q 25)), (1, .int p1), (2, .int (z.1)), (3, .int x3_2), (4, .int (z.2))] → W p l e R s m args below meth c H locs 0 0 Q (F0 m 15 ls [])) ?_ fu _ eL9 H locs ls hG (lv_sub hl [1, 2, 3, 4, 0] rfl)
    intro z rr9 hb9 hin9 hout9
    obtain ⟨x2_6, x4_7⟩ := z
    intro H locs ls hG hl
    have hb9 : f2_countArcsOver_b2 iLsize x3_2 gMiddles p1 x2_6 x4_7 = some rr9 := hb9
    have hG : GH D cI cZ layB q s ([iReadings, iAlterations, iRankings, iLetters, iCurrent, iDue, iSize, iLsize], [], [gCosts, gWorths, gMiddles, gApart, gApartWithout, gNeeded, gUps, gDowns, gKeys, gNexts, gShutKeys, aCodes, aPbegins, aPends, aPlengths, aBegins, aEnds, aLengths, aRanks, aRoadsByRank, aRow, aRanksBefore, aBusy, aOpen, aShut]) H locs := hG
    have hl : lv_has ls 5 [(0, .ref (q 25)), (1, .int p1), (2, .int x2_6), (3, .int x3_2), (4, .int x4_7)] := hl
    unfold f2_countArcsOver_b2 at hb9
    refine lv_iload hx hb dX2_countArcsOver_15 (lv_at hl 4 rfl) ?_
    refine lv_aload_n hx hb dX2_countArcsOver_17 rfl (lv_at hl 0 rfl) ?_
    refine g_get (v := .int iLsize) X hT hG fl_X2_47 25 rfl rfl rfl dX2_countArcsOver_18 ?_
    refine lv_icmp_ge (tgt := 52) hx hb dX2_countArcsOver_21 (by decide) (fun cb10 => ?_) (fun cb10 => ?_)
    · have hb9 := ite_t cb10 hb9
      have eo := hout9 _ (Option.some.inj hb9).symm
      cases eo
      exact JX9 H locs ls hG (lv_sub hl [0, 1, 2, 3] rfl)
    · have hb9 := ite_f cb10 hb9
      refine lv_iload_n hx hb dX2_countArcsOver_24 rfl (lv_at hl 2 rfl) ?_
      refine lv_aload_n hx hb dX2_countArcsOver_25 rfl (lv_at hl 0 rfl) ?_
      refine g_get (v := .ref (q 2)) X hT hG fl_X2_18 25 rfl rfl rfl dX2_countArcsOver_26 ?_
      refine lv_iload_n hx hb dX2_countArcsOver_29 rfl (lv_at hl 3 rfl) ?_
      refine lv_iload hx hb dX2_countArcsOver_30 (lv_at hl 4 rfl) ?_
      obtain ⟨r_11, ec12, hb9⟩ := bnd1_some hb9
      refine g_callVr [.int x3_2, .int x4_7] [.int x2_6] 2 X hT hG ml_X2_84 (c_X1_get_2 hq ec12) rfl rfl rfl rfl rfl hl.1 (Nat.le_of_ble_eq_true rfl) (by rw [hR]; exact ⟨Nat.le_of_ble_eq_true rfl, Nat.le_of_ble_eq_true rfl⟩) dX2_countArcsOver_32 (fun H locs hG => ?_)
      refine lv_iload_n hx hb dX2_countArcsOver_35 rfl (lv_at hl 1 rfl) ?_
      obtain ⟨y_13, er14, hb9⟩ := bnd1_some hb9
      have J14 : ∀ (H : Heap) (locs : List Loc) (ls : Array Slot), GH D cI cZ layB q s ([iReadings, iAlterations, iRankings, iLetters, iCurrent, iDue, iSize, iLsize], [], [gCosts, gWorths, gMiddles, gApart, gApartWithout, gNeeded, gUps, gDowns, gKeys, gNexts, gShutKeys, aCodes, aPbegins, aPends, aPlengths, aBegins, aEnds, aLengths, aRanks, aRoadsByRank, aRow, aRanksBefore, aBusy, aOpen, aShut]) H locs → lv_has ls 5 [(0, .ref (q 25)), (1, .int p1), (3, .int x3_2), (4, .int x4_7)] → W p l e R s m args below meth c H locs 0 0 Q (F0 m 44 ls [.int y_13, .int x2_6]) := by
        intro H locs ls hG hl
        refine lv_iadd hx hb dX2_countArcsOver_44 ?_
        refine lv_topi (fun x2_16 ex2_16 => ?_)
        have hb9 := bd_e ex2_16 hb9
        refine lv_istore_n (lv' := [(2, .int x2_16), (0, .ref (q 25)), (1, .int p1), (3, .int x3_2), (4, .int x4_7)]) hx hb dX2_countArcsOver_45 rfl hl (by decide) rfl (fun ls hl => ?_)
        obtain ⟨x4_17, ex4_17⟩ : ∃ z : Int32, z = x4_7 + 1 := ⟨_, rfl⟩
        have hb9 := bd_e ex4_17 hb9
        refine lv_iinc (v := x4_17) (lv' := [(4, .int x4_17), (2, .int x2_16), (0, .ref (q 25)), (1, .int p1), (3, .int x3_2)]) hx hb dX2_countArcsOver_46 hl (k := 4) rfl (by rw [ex4_17]; rfl) (by decide) rfl (fun ls hl => ?_)
        refine lv_goto (tgt := 15) hx hb dX2_countArcsOver_49 (by decide) ?_
        exact hin9 _ (Option.some.inj hb9).symm H locs ls hG (lv_sub hl [2, 3, 1, 4, 0] rfl)
      refine lv_icmp_ne (tgt := 43) hx hb dX2_countArcsOver_36 (by decide) (fun cb15 => ?_) (fun cb15 => ?_)
      · have er14 := ite_f cb15 er14
        refine lv_iconst (v := 0) hx hb dX2_countArcsOver_43 (by decide) ?_
        cases er14
        exact J14 H locs ls hG (lv_sub hl [0, 1, 3, 4] rfl)
      · have er14 := ite_t cb15 er14
        refine lv_iconst (v := 1) hx hb dX2_countArcsOver_39 (by decide) ?_
        refine lv_goto (tgt := 44) hx hb dX2_countArcsOver_40 (by decide) ?_
        cases er14
        exact J14 H locs ls hG (lv_sub hl [0, 1, 3, 4] rfl)
def f7_road (fu : Nat) (p1 : Int32) (iSize : Int32) (p2 : Int32) (aBegins : (Nat → Int32)) (aEnds : (Nat → Int32)) (aLengths : (Nat → Int32)) (aRanks : (Nat → Int32)) (iLsize : Int32) (gMiddles : (Nat → Int32)) (aBusy : (Nat → Int32)) : Option (Int32) :=
  bnd1 (f3_has p1 iSize) fun (r_1 : Int32) => if r_1 = 0 then (some (-101)) else if p2 = 0 then (ckin p1 12 (some (aBegins p1.toNatClampNeg))) else if p2 = 1 then (ckin p1 12 (some (aEnds p1.toNatClampNeg))) else if p2 = 2 then (ckin p1 12 (some (aLengths p1.toNatClampNeg))) else if p2 = 3 then (ckin p1 12 (some (aRanks p1.toNatClampNeg))) else if p2 = 4 then (bnd1 (f2_countArcsOver fu iLsize gMiddles p1) fun (r_13 : Int32) => some r_13) else if p2 = 5 then (ckin p1 12 (some (aBusy p1.toNatClampNeg))) else some (-102)
set_option maxHeartbeats 4000000 in
set_option maxRecDepth 100000 in
theorem c_X7_road (hq : gJ layB q) {fu : Nat} {p1 : Int32} {p2 : Int32} {o_r : Int32} (h : f7_road fu p1 iSize p2 aBegins aEnds aLengths aRanks iLsize gMiddles aBusy = some o_r) :
    GM l yX7_road cX7_road 3 (some .int) 2 46 D cI cZ layB q [.ref (q 22), .int p1, .int p2] ([iReadings, iAlterations, iRankings, iLetters, iCurrent, iDue, iSize, iLsize], [], [gCosts, gWorths, gMiddles, gApart, gApartWithout, gNeeded, gUps, gDowns, gKeys, gNexts, gShutKeys, aCodes, aPbegins, aPends, aPlengths, aBegins, aEnds, aLengths, aRanks, aRoadsByRank, aRow, aRanksBefore, aBusy, aOpen, aShut]) (some (.int o_r)) ([iReadings, iAlterations, iRankings, iLetters, iCurrent, iDue, iSize, iLsize], [], [gCosts, gWorths, gMiddles, gApart, gApartWithout, gNeeded, gUps, gDowns, gKeys, gNexts, gShutKeys, aCodes, aPbegins, aPends, aPlengths, aBegins, aEnds, aLengths, aRanks, aRoadsByRank, aRow, aRanksBefore, aBusy, aOpen, aShut]) := by
  refine GM.go RX7 (by decide) rfl (Nat.le_of_ble_eq_true rfl) ?_
  intro p e s m args below meth c ls R Q H locs X hr hlk hT hG hl hR hQ
  have hx := X.1
  have hb := X.2.1
  have hl : lv_has ls 3 [(0, .ref (q 22)), (1, .int p1), (2, .int p2)] := hl
  unfold f7_road at h
  refine lv_aload_n hx hb dX7_road_0 rfl (lv_at hl 0 rfl) ?_
  refine g_get (v := .ref (q 24)) X hT hG fl_X7_19 22 rfl rfl rfl dX7_road_1 ?_
  refine lv_iload_n hx hb dX7_road_4 rfl (lv_at hl 1 rfl) ?_
  obtain ⟨r_1, ec2, h⟩ := bnd1_some h
  refine g_callVr [.int p1] [] 24 X hT hG ml_X7_84 (c_X3_has hq ec2) rfl rfl rfl rfl rfl hl.1 (Nat.le_of_ble_eq_true rfl) (by rw [hR]; exact ⟨Nat.le_of_ble_eq_true rfl, Nat.le_of_ble_eq_true rfl⟩) dX7_road_5 (fun H locs hG => ?_)
  refine lv_if_ne (tgt := 14) hx hb dX7_road_8 (by decide) (fun cb3 => ?_) (fun cb3 => ?_)
  · have h := ite_f cb3 h
    refine lv_iload_n hx hb dX7_road_14 rfl (lv_at hl 2 rfl) ?_
    by_cases cs4 : p2 = 0
    · have h := ite_t cs4 h
      refine g_eqi cs4 ?_
      refine lv_tableIn (x := 0) hx hb dX7_road_15 (by decide) (by decide) (off := 37) rfl (tgt := 52) (by decide) ?_
      refine lv_aload_n hx hb dX7_road_52 rfl (lv_at hl 0 rfl) ?_
      refine g_get (v := .ref (q 24)) X hT hG fl_X7_19 22 rfl rfl rfl dX7_road_53 ?_
      refine g_get (v := .ref (q 33)) X hT hG fl_X7_143 24 rfl rfl rfl dX7_road_56 ?_
      refine lv_iload_n hx hb dX7_road_59 rfl (lv_at hl 1 rfl) ?_
      obtain ⟨hi5, h⟩ := ckin_some h
      refine g_ald (f := aBegins) X hT hG 33 rfl rfl hi5 dX7_road_60 ?_
      cases h
      rw [hQ]
      exact g_iret X hT hG hr hlk dX7_road_61
    · have h := ite_f cs4 h
      by_cases cs6 : p2 = 1
      · have h := ite_t cs6 h
        refine g_eqi cs6 ?_
        refine lv_tableIn (x := 1) hx hb dX7_road_15 (by decide) (by decide) (off := 47) rfl (tgt := 62) (by decide) ?_
        refine lv_aload_n hx hb dX7_road_62 rfl (lv_at hl 0 rfl) ?_
        refine g_get (v := .ref (q 24)) X hT hG fl_X7_19 22 rfl rfl rfl dX7_road_63 ?_
        refine g_get (v := .ref (q 34)) X hT hG fl_X7_146 24 rfl rfl rfl dX7_road_66 ?_
        refine lv_iload_n hx hb dX7_road_69 rfl (lv_at hl 1 rfl) ?_
        obtain ⟨hi7, h⟩ := ckin_some h
        refine g_ald (f := aEnds) X hT hG 34 rfl rfl hi7 dX7_road_70 ?_
        cases h
        rw [hQ]
        exact g_iret X hT hG hr hlk dX7_road_71
      · have h := ite_f cs6 h
        by_cases cs8 : p2 = 2
        · have h := ite_t cs8 h
          refine g_eqi cs8 ?_
          refine lv_tableIn (x := 2) hx hb dX7_road_15 (by decide) (by decide) (off := 57) rfl (tgt := 72) (by decide) ?_
          refine lv_aload_n hx hb dX7_road_72 rfl (lv_at hl 0 rfl) ?_
          refine g_get (v := .ref (q 24)) X hT hG fl_X7_19 22 rfl rfl rfl dX7_road_73 ?_
          refine g_get (v := .ref (q 35)) X hT hG fl_X7_88 24 rfl rfl rfl dX7_road_76 ?_
          refine lv_iload_n hx hb dX7_road_79 rfl (lv_at hl 1 rfl) ?_
          obtain ⟨hi9, h⟩ := ckin_some h
          refine g_ald (f := aLengths) X hT hG 35 rfl rfl hi9 dX7_road_80 ?_
          cases h
          rw [hQ]
          exact g_iret X hT hG hr hlk dX7_road_81
        · have h := ite_f cs8 h
          by_cases cs10 : p2 = 3
          · have h := ite_t cs10 h
            refine g_eqi cs10 ?_
            refine lv_tableIn (x := 3) hx hb dX7_road_15 (by decide) (by decide) (off := 67) rfl (tgt := 82) (by decide) ?_
            refine lv_aload_n hx hb dX7_road_82 rfl (lv_at hl 0 rfl) ?_
            refine g_get (v := .ref (q 25)) X hT hG fl_X7_26 22 rfl rfl rfl dX7_road_83 ?_
            refine g_get (v := .ref (q 36)) X hT hG fl_X7_149 25 rfl rfl rfl dX7_road_86 ?_
            refine lv_iload_n hx hb dX7_road_89 rfl (lv_at hl 1 rfl) ?_
            obtain ⟨hi11, h⟩ := ckin_some h
            refine g_ald (f := aRanks) X hT hG 36 rfl rfl hi11 dX7_road_90 ?_
            cases h
            rw [hQ]
            exact g_iret X hT hG hr hlk dX7_road_91
          · have h := ite_f cs10 h
            by_cases cs12 : p2 = 4
            · have h := ite_t cs12 h
              refine g_eqi cs12 ?_
              refine lv_tableIn (x := 4) hx hb dX7_road_15 (by decide) (by decide) (off := 77) rfl (tgt := 92) (by decide) ?_
              refine lv_aload_n hx hb dX7_road_92 rfl (lv_at hl 0 rfl) ?_
              refine g_get (v := .ref (q 25)) X hT hG fl_X7_26 22 rfl rfl rfl dX7_road_93 ?_
              refine lv_iload_n hx hb dX7_road_96 rfl (lv_at hl 1 rfl) ?_
              obtain ⟨r_13, ec14, h⟩ := bnd1_some h
              refine g_callVr [.int p1] [] 25 X hT hG ml_X7_152 (c_X2_countArcsOver hq ec14) rfl rfl rfl rfl rfl hl.1 (Nat.le_of_ble_eq_true rfl) (by rw [hR]; exact ⟨Nat.le_of_ble_eq_true rfl, Nat.le_of_ble_eq_true rfl⟩) dX7_road_97 (fun H locs hG => ?_)
              cases h
              rw [hQ]
              exact g_iret X hT hG hr hlk dX7_road_100
            · have h := ite_f cs12 h
              by_cases cs15 : p2 = 5
              · have h := ite_t cs15 h
                refine g_eqi cs15 ?_
                refine lv_tableIn (x := 5) hx hb dX7_road_15 (by decide) (by decide) (off := 86) rfl (tgt := 101) (by decide) ?_
                refine lv_aload_n hx hb dX7_road_101 rfl (lv_at hl 0 rfl) ?_
                refine g_get (v := .ref (q 27)) X hT hG fl_X7_40 22 rfl rfl rfl dX7_road_102 ?_
                refine g_get (v := .ref (q 40)) X hT hG fl_X7_156 27 rfl rfl rfl dX7_road_105 ?_
                refine lv_iload_n hx hb dX7_road_108 rfl (lv_at hl 1 rfl) ?_
                obtain ⟨hi16, h⟩ := ckin_some h
                refine g_ald (f := aBusy) X hT hG 40 rfl rfl hi16 dX7_road_109 ?_
                cases h
                rw [hQ]
                exact g_iret X hT hG hr hlk dX7_road_110
              · have h := ite_f cs15 h
                refine lv_tableOut hx hb dX7_road_15 (sw_out (n := 6) (Nat.le_of_ble_eq_true rfl) (fun k hk => by match k, hk with | 0, _ => exact cs4 | 1, _ => exact cs6 | 2, _ => exact cs8 | 3, _ => exact cs10 | 4, _ => exact cs12 | 5, _ => exact cs15 | k + 6, hk => omega)) (tgt := 111) (by decide) ?_
                refine lv_bipush (v := (-102)) hx hb dX7_road_111 (by decide) ?_
                cases h
                rw [hQ]
                exact g_iret X hT hG hr hlk dX7_road_113
  · have h := ite_t cb3 h
    refine lv_bipush (v := (-101)) hx hb dX7_road_11 (by decide) ?_
    cases h
    rw [hQ]
    exact g_iret X hT hG hr hlk dX7_road_13
def f7_cost (p1 : Int32) (iSize : Int32) (p2 : Int32) (gCosts : (Nat → Int32)) : Option (Int32) :=
  bnd1 (f3_hasBoth p1 iSize p2) fun (r_1 : Int32) => if r_1 = 0 then (some (-101)) else bnd1 (f3_hasTurn p1 p2 gCosts) fun (r_4 : Int32) => bnd1 (if r_4 = 0 then (some (-103)) else bnd1 (f1_get p1 p2 gCosts) fun (r_9 : Int32) => some r_9) fun (y_6 : Int32) => some y_6
set_option maxHeartbeats 4000000 in
set_option maxRecDepth 100000 in
theorem c_X7_cost (hq : gJ layB q) {p1 : Int32} {p2 : Int32} {o_r : Int32} (h : f7_cost p1 iSize p2 gCosts = some o_r) :
    GM l yX7_cost cX7_cost 3 (some .int) 2 44 D cI cZ layB q [.ref (q 22), .int p1, .int p2] ([iReadings, iAlterations, iRankings, iLetters, iCurrent, iDue, iSize, iLsize], [], [gCosts, gWorths, gMiddles, gApart, gApartWithout, gNeeded, gUps, gDowns, gKeys, gNexts, gShutKeys, aCodes, aPbegins, aPends, aPlengths, aBegins, aEnds, aLengths, aRanks, aRoadsByRank, aRow, aRanksBefore, aBusy, aOpen, aShut]) (some (.int o_r)) ([iReadings, iAlterations, iRankings, iLetters, iCurrent, iDue, iSize, iLsize], [], [gCosts, gWorths, gMiddles, gApart, gApartWithout, gNeeded, gUps, gDowns, gKeys, gNexts, gShutKeys, aCodes, aPbegins, aPends, aPlengths, aBegins, aEnds, aLengths, aRanks, aRoadsByRank, aRow, aRanksBefore, aBusy, aOpen, aShut]) := by
  refine GM.go RX7 (by decide) rfl (Nat.le_of_ble_eq_true rfl) ?_
  intro p e s m args below meth c ls R Q H locs X hr hlk hT hG hl hR hQ
  have hx := X.1
  have hb := X.2.1
  have hl : lv_has ls 3 [(0, .ref (q 22)), (1, .int p1), (2, .int p2)] := hl
  unfold f7_cost at h
  refine lv_aload_n hx hb dX7_cost_0 rfl (lv_at hl 0 rfl) ?_
  refine g_get (v := .ref (q 24)) X hT hG fl_X7_19 22 rfl rfl rfl dX7_cost_1 ?_
  refine lv_iload_n hx hb dX7_cost_4 rfl (lv_at hl 1 rfl) ?_
  refine lv_iload_n hx hb dX7_cost_5 rfl (lv_at hl 2 rfl) ?_
  obtain ⟨r_1, ec2, h⟩ := bnd1_some h
  refine g_callVr [.int p1, .int p2] [] 24 X hT hG ml_X7_95 (c_X3_hasBoth hq ec2) rfl rfl rfl rfl rfl hl.1 (Nat.le_of_ble_eq_true rfl) (by rw [hR]; exact ⟨Nat.le_of_ble_eq_true rfl, Nat.le_of_ble_eq_true rfl⟩) dX7_cost_6 (fun H locs hG => ?_)
  refine lv_if_ne (tgt := 15) hx hb dX7_cost_9 (by decide) (fun cb3 => ?_) (fun cb3 => ?_)
  · have h := ite_f cb3 h
    refine lv_aload_n hx hb dX7_cost_15 rfl (lv_at hl 0 rfl) ?_
    refine g_get (v := .ref (q 24)) X hT hG fl_X7_19 22 rfl rfl rfl dX7_cost_16 ?_
    refine lv_iload_n hx hb dX7_cost_19 rfl (lv_at hl 1 rfl) ?_
    refine lv_iload_n hx hb dX7_cost_20 rfl (lv_at hl 2 rfl) ?_
    obtain ⟨r_4, ec5, h⟩ := bnd1_some h
    refine g_callVr [.int p1, .int p2] [] 24 X hT hG ml_X7_99 (c_X3_hasTurn hq ec5) rfl rfl rfl rfl rfl hl.1 (Nat.le_of_ble_eq_true rfl) (by rw [hR]; exact ⟨Nat.le_of_ble_eq_true rfl, Nat.le_of_ble_eq_true rfl⟩) dX7_cost_21 (fun H locs hG => ?_)
    obtain ⟨y_6, er7, h⟩ := bnd1_some h
    have J7 : ∀ (H : Heap) (locs : List Loc) (ls : Array Slot), GH D cI cZ layB q s ([iReadings, iAlterations, iRankings, iLetters, iCurrent, iDue, iSize, iLsize], [], [gCosts, gWorths, gMiddles, gApart, gApartWithout, gNeeded, gUps, gDowns, gKeys, gNexts, gShutKeys, aCodes, aPbegins, aPends, aPlengths, aBegins, aEnds, aLengths, aRanks, aRoadsByRank, aRow, aRanksBefore, aBusy, aOpen, aShut]) H locs → lv_has ls 3 [] → W p l e R s m args below meth c H locs 0 0 Q (F0 m 44 ls [.int y_6]) := by
      intro H locs ls hG hl
      cases h
      rw [hQ]
      exact g_iret X hT hG hr hlk dX7_cost_44
    refine lv_if_eq (tgt := 42) hx hb dX7_cost_24 (by decide) (fun cb8 => ?_) (fun cb8 => ?_)
    · have er7 := ite_t cb8 er7
      refine lv_bipush (v := (-103)) hx hb dX7_cost_42 (by decide) ?_
      cases er7
      exact J7 H locs ls hG (lv_sub hl [] rfl)
    · have er7 := ite_f cb8 er7
      refine lv_aload_n hx hb dX7_cost_27 rfl (lv_at hl 0 rfl) ?_
      refine g_get (v := .ref (q 24)) X hT hG fl_X7_19 22 rfl rfl rfl dX7_cost_28 ?_
      refine g_get (v := .ref (q 0)) X hT hG fl_X7_102 24 rfl rfl rfl dX7_cost_31 ?_
      refine lv_iload_n hx hb dX7_cost_34 rfl (lv_at hl 1 rfl) ?_
      refine lv_iload_n hx hb dX7_cost_35 rfl (lv_at hl 2 rfl) ?_
      obtain ⟨r_9, ec10, er7⟩ := bnd1_some er7
      refine g_callVr [.int p1, .int p2] [] 0 X hT hG ml_X7_106 (c_X1_get_0 hq ec10) rfl rfl rfl rfl rfl hl.1 (Nat.le_of_ble_eq_true rfl) (by rw [hR]; exact ⟨Nat.le_of_ble_eq_true rfl, Nat.le_of_ble_eq_true rfl⟩) dX7_cost_36 (fun H locs hG => ?_)
      refine lv_goto (tgt := 44) hx hb dX7_cost_39 (by decide) ?_
      cases er7
      exact J7 H locs ls hG (lv_sub hl [] rfl)
  · have h := ite_t cb3 h
    refine lv_bipush (v := (-101)) hx hb dX7_cost_12 (by decide) ?_
    cases h
    rw [hQ]
    exact g_iret X hT hG hr hlk dX7_cost_14
def f7_order (p1 : Int32) (iSize : Int32) (aRoadsByRank : (Nat → Int32)) : Option (Int32) :=
  bnd1 (f3_has p1 iSize) fun (r_1 : Int32) => bnd1 (if r_1 = 0 then (some (-101)) else ckin p1 12 (some (aRoadsByRank p1.toNatClampNeg))) fun (y_3 : Int32) => some y_3
set_option maxHeartbeats 4000000 in
set_option maxRecDepth 100000 in
theorem c_X7_order (hq : gJ layB q) {p1 : Int32} {o_r : Int32} (h : f7_order p1 iSize aRoadsByRank = some o_r) :
    GM l yX7_order cX7_order 2 (some .int) 1 21 D cI cZ layB q [.ref (q 22), .int p1] ([iReadings, iAlterations, iRankings, iLetters, iCurrent, iDue, iSize, iLsize], [], [gCosts, gWorths, gMiddles, gApart, gApartWithout, gNeeded, gUps, gDowns, gKeys, gNexts, gShutKeys, aCodes, aPbegins, aPends, aPlengths, aBegins, aEnds, aLengths, aRanks, aRoadsByRank, aRow, aRanksBefore, aBusy, aOpen, aShut]) (some (.int o_r)) ([iReadings, iAlterations, iRankings, iLetters, iCurrent, iDue, iSize, iLsize], [], [gCosts, gWorths, gMiddles, gApart, gApartWithout, gNeeded, gUps, gDowns, gKeys, gNexts, gShutKeys, aCodes, aPbegins, aPends, aPlengths, aBegins, aEnds, aLengths, aRanks, aRoadsByRank, aRow, aRanksBefore, aBusy, aOpen, aShut]) := by
  refine GM.go RX7 (by decide) rfl (Nat.le_of_ble_eq_true rfl) ?_
  intro p e s m args below meth c ls R Q H locs X hr hlk hT hG hl hR hQ
  have hx := X.1
  have hb := X.2.1
  have hl : lv_has ls 2 [(0, .ref (q 22)), (1, .int p1)] := hl
  unfold f7_order at h
  refine lv_aload_n hx hb dX7_order_0 rfl (lv_at hl 0 rfl) ?_
  refine g_get (v := .ref (q 24)) X hT hG fl_X7_19 22 rfl rfl rfl dX7_order_1 ?_
  refine lv_iload_n hx hb dX7_order_4 rfl (lv_at hl 1 rfl) ?_
  obtain ⟨r_1, ec2, h⟩ := bnd1_some h
  refine g_callVr [.int p1] [] 24 X hT hG ml_X7_84 (c_X3_has hq ec2) rfl rfl rfl rfl rfl hl.1 (Nat.le_of_ble_eq_true rfl) (by rw [hR]; exact ⟨Nat.le_of_ble_eq_true rfl, Nat.le_of_ble_eq_true rfl⟩) dX7_order_5 (fun H locs hG => ?_)
  obtain ⟨y_3, er4, h⟩ := bnd1_some h
  have J4 : ∀ (H : Heap) (locs : List Loc) (ls : Array Slot), GH D cI cZ layB q s ([iReadings, iAlterations, iRankings, iLetters, iCurrent, iDue, iSize, iLsize], [], [gCosts, gWorths, gMiddles, gApart, gApartWithout, gNeeded, gUps, gDowns, gKeys, gNexts, gShutKeys, aCodes, aPbegins, aPends, aPlengths, aBegins, aEnds, aLengths, aRanks, aRoadsByRank, aRow, aRanksBefore, aBusy, aOpen, aShut]) H locs → lv_has ls 2 [] → W p l e R s m args below meth c H locs 0 0 Q (F0 m 25 ls [.int y_3]) := by
    intro H locs ls hG hl
    cases h
    rw [hQ]
    exact g_iret X hT hG hr hlk dX7_order_25
  refine lv_if_eq (tgt := 23) hx hb dX7_order_8 (by decide) (fun cb5 => ?_) (fun cb5 => ?_)
  · have er4 := ite_t cb5 er4
    refine lv_bipush (v := (-101)) hx hb dX7_order_23 (by decide) ?_
    cases er4
    exact J4 H locs ls hG (lv_sub hl [] rfl)
  · have er4 := ite_f cb5 er4
    refine lv_aload_n hx hb dX7_order_11 rfl (lv_at hl 0 rfl) ?_
    refine g_get (v := .ref (q 25)) X hT hG fl_X7_26 22 rfl rfl rfl dX7_order_12 ?_
    refine g_get (v := .ref (q 37)) X hT hG fl_X7_159 25 rfl rfl rfl dX7_order_15 ?_
    refine lv_iload_n hx hb dX7_order_18 rfl (lv_at hl 1 rfl) ?_
    obtain ⟨hi6, er4⟩ := ckin_some er4
    refine g_ald (f := aRoadsByRank) X hT hG 37 rfl rfl hi6 dX7_order_19 ?_
    refine lv_goto (tgt := 25) hx hb dX7_order_20 (by decide) ?_
    cases er4
    exact J4 H locs ls hG (lv_sub hl [] rfl)
def f6_worth (p1 : Int32) (p2 : Int32) (gKeys : (Nat → Int32)) : Option (Int32) :=
  bnd1 (f1_get p1 p2 gKeys) fun (r_1 : Int32) => bnd1 (if r_1 < 268435456 then (some (r_1 / 64)) else some (-1)) fun (y_3 : Int32) => some y_3
set_option maxHeartbeats 4000000 in
set_option maxRecDepth 100000 in
theorem c_X6_worth (hq : gJ layB q) {p1 : Int32} {p2 : Int32} {o_r : Int32} (h : f6_worth p1 p2 gKeys = some o_r) :
    GM l yX6_worth cX6_worth 4 (some .int) 1 22 D cI cZ layB q [.ref (q 27), .int p1, .int p2] ([iReadings, iAlterations, iRankings, iLetters, iCurrent, iDue, iSize, iLsize], [], [gCosts, gWorths, gMiddles, gApart, gApartWithout, gNeeded, gUps, gDowns, gKeys, gNexts, gShutKeys, aCodes, aPbegins, aPends, aPlengths, aBegins, aEnds, aLengths, aRanks, aRoadsByRank, aRow, aRanksBefore, aBusy, aOpen, aShut]) (some (.int o_r)) ([iReadings, iAlterations, iRankings, iLetters, iCurrent, iDue, iSize, iLsize], [], [gCosts, gWorths, gMiddles, gApart, gApartWithout, gNeeded, gUps, gDowns, gKeys, gNexts, gShutKeys, aCodes, aPbegins, aPends, aPlengths, aBegins, aEnds, aLengths, aRanks, aRoadsByRank, aRow, aRanksBefore, aBusy, aOpen, aShut]) := by
  refine GM.go RX6 (by decide) rfl (Nat.le_of_ble_eq_true rfl) ?_
  intro p e s m args below meth c ls R Q H locs X hr hlk hT hG hl hR hQ
  have hx := X.1
  have hb := X.2.1
  have hl : lv_has ls 4 [(0, .ref (q 27)), (1, .int p1), (2, .int p2)] := hl
  unfold f6_worth at h
  refine lv_aload_n hx hb dX6_worth_0 rfl (lv_at hl 0 rfl) ?_
  refine g_get (v := .ref (q 8)) X hT hG fl_X6_12 27 rfl rfl rfl dX6_worth_1 ?_
  refine lv_iload_n hx hb dX6_worth_4 rfl (lv_at hl 1 rfl) ?_
  refine lv_iload_n hx hb dX6_worth_5 rfl (lv_at hl 2 rfl) ?_
  obtain ⟨r_1, ec2, h⟩ := bnd1_some h
  refine g_callVr [.int p1, .int p2] [] 8 X hT hG ml_X6_47 (c_X1_get_8 hq ec2) rfl rfl rfl rfl rfl hl.1 (Nat.le_of_ble_eq_true rfl) (by rw [hR]; exact ⟨Nat.le_of_ble_eq_true rfl, Nat.le_of_ble_eq_true rfl⟩) dX6_worth_6 (fun H locs hG => ?_)
  refine lv_istore_n (lv' := [(3, .int r_1), (0, .ref (q 27)), (1, .int p1), (2, .int p2)]) hx hb dX6_worth_9 rfl hl (by decide) rfl (fun ls hl => ?_)
  refine lv_iload_n hx hb dX6_worth_10 rfl (lv_at hl 0 rfl) ?_
  refine lv_ldc (v := 268435456) hx hb X.2.2.2.1 (X.2.2.2.2 _ cn_X6_51) dX6_worth_11 ?_
  obtain ⟨y_3, er4, h⟩ := bnd1_some h
  have J4 : ∀ (H : Heap) (locs : List Loc) (ls : Array Slot), GH D cI cZ layB q s ([iReadings, iAlterations, iRankings, iLetters, iCurrent, iDue, iSize, iLsize], [], [gCosts, gWorths, gMiddles, gApart, gApartWithout, gNeeded, gUps, gDowns, gKeys, gNexts, gShutKeys, aCodes, aPbegins, aPends, aPlengths, aBegins, aEnds, aLengths, aRanks, aRoadsByRank, aRow, aRanksBefore, aBusy, aOpen, aShut]) H locs → lv_has ls 4 [] → W p l e R s m args below meth c H locs 0 0 Q (F0 m 24 ls [.int y_3]) := by
    intro H locs ls hG hl
    cases h
    rw [hQ]
    exact g_iret X hT hG hr hlk dX6_worth_24
  refine lv_icmp_lt (tgt := 20) hx hb dX6_worth_13 (by decide) (fun cb5 => ?_) (fun cb5 => ?_)
  · have er4 := ite_t cb5 er4
    refine lv_iload_n hx hb dX6_worth_20 rfl (lv_at hl 0 rfl) ?_
    refine lv_bipush (v := 64) hx hb dX6_worth_21 (by decide) ?_
    refine lv_idiv hx hb dX6_worth_23 (by decide) ?_
    cases er4
    exact J4 H locs ls hG (lv_sub hl [] rfl)
  · have er4 := ite_f cb5 er4
    refine lv_iconst (v := (-1)) hx hb dX6_worth_16 (by decide) ?_
    refine lv_goto (tgt := 24) hx hb dX6_worth_17 (by decide) ?_
    cases er4
    exact J4 H locs ls hG (lv_sub hl [] rfl)
def f7_least (p1 : Int32) (iSize : Int32) (p2 : Int32) (gKeys : (Nat → Int32)) : Option (Int32) :=
  bnd1 (f3_hasBoth p1 iSize p2) fun (r_1 : Int32) => bnd1 (if r_1 = 0 then (some (-101)) else bnd1 (f6_worth p1 p2 gKeys) fun (r_6 : Int32) => some r_6) fun (y_3 : Int32) => some y_3
set_option maxHeartbeats 4000000 in
set_option maxRecDepth 100000 in
theorem c_X7_least (hq : gJ layB q) {p1 : Int32} {p2 : Int32} {o_r : Int32} (h : f7_least p1 iSize p2 gKeys = some o_r) :
    GM l yX7_least cX7_least 3 (some .int) 2 45 D cI cZ layB q [.ref (q 22), .int p1, .int p2] ([iReadings, iAlterations, iRankings, iLetters, iCurrent, iDue, iSize, iLsize], [], [gCosts, gWorths, gMiddles, gApart, gApartWithout, gNeeded, gUps, gDowns, gKeys, gNexts, gShutKeys, aCodes, aPbegins, aPends, aPlengths, aBegins, aEnds, aLengths, aRanks, aRoadsByRank, aRow, aRanksBefore, aBusy, aOpen, aShut]) (some (.int o_r)) ([iReadings, iAlterations, iRankings, iLetters, iCurrent, iDue, iSize, iLsize], [], [gCosts, gWorths, gMiddles, gApart, gApartWithout, gNeeded, gUps, gDowns, gKeys, gNexts, gShutKeys, aCodes, aPbegins, aPends, aPlengths, aBegins, aEnds, aLengths, aRanks, aRoadsByRank, aRow, aRanksBefore, aBusy, aOpen, aShut]) := by
  refine GM.go RX7 (by decide) rfl (Nat.le_of_ble_eq_true rfl) ?_
  intro p e s m args below meth c ls R Q H locs X hr hlk hT hG hl hR hQ
  have hx := X.1
  have hb := X.2.1
  have hl : lv_has ls 3 [(0, .ref (q 22)), (1, .int p1), (2, .int p2)] := hl
  unfold f7_least at h
  refine lv_aload_n hx hb dX7_least_0 rfl (lv_at hl 0 rfl) ?_
  refine g_get (v := .ref (q 24)) X hT hG fl_X7_19 22 rfl rfl rfl dX7_least_1 ?_
  refine lv_iload_n hx hb dX7_least_4 rfl (lv_at hl 1 rfl) ?_
  refine lv_iload_n hx hb dX7_least_5 rfl (lv_at hl 2 rfl) ?_
  obtain ⟨r_1, ec2, h⟩ := bnd1_some h
  refine g_callVr [.int p1, .int p2] [] 24 X hT hG ml_X7_95 (c_X3_hasBoth hq ec2) rfl rfl rfl rfl rfl hl.1 (Nat.le_of_ble_eq_true rfl) (by rw [hR]; exact ⟨Nat.le_of_ble_eq_true rfl, Nat.le_of_ble_eq_true rfl⟩) dX7_least_6 (fun H locs hG => ?_)
  obtain ⟨y_3, er4, h⟩ := bnd1_some h
  have J4 : ∀ (H : Heap) (locs : List Loc) (ls : Array Slot), GH D cI cZ layB q s ([iReadings, iAlterations, iRankings, iLetters, iCurrent, iDue, iSize, iLsize], [], [gCosts, gWorths, gMiddles, gApart, gApartWithout, gNeeded, gUps, gDowns, gKeys, gNexts, gShutKeys, aCodes, aPbegins, aPends, aPlengths, aBegins, aEnds, aLengths, aRanks, aRoadsByRank, aRow, aRanksBefore, aBusy, aOpen, aShut]) H locs → lv_has ls 3 [] → W p l e R s m args below meth c H locs 0 0 Q (F0 m 26 ls [.int y_3]) := by
    intro H locs ls hG hl
    cases h
    rw [hQ]
    exact g_iret X hT hG hr hlk dX7_least_26
  refine lv_if_eq (tgt := 24) hx hb dX7_least_9 (by decide) (fun cb5 => ?_) (fun cb5 => ?_)
  · have er4 := ite_t cb5 er4
    refine lv_bipush (v := (-101)) hx hb dX7_least_24 (by decide) ?_
    cases er4
    exact J4 H locs ls hG (lv_sub hl [] rfl)
  · have er4 := ite_f cb5 er4
    refine lv_aload_n hx hb dX7_least_12 rfl (lv_at hl 0 rfl) ?_
    refine g_get (v := .ref (q 27)) X hT hG fl_X7_40 22 rfl rfl rfl dX7_least_13 ?_
    refine lv_iload_n hx hb dX7_least_16 rfl (lv_at hl 1 rfl) ?_
    refine lv_iload_n hx hb dX7_least_17 rfl (lv_at hl 2 rfl) ?_
    obtain ⟨r_6, ec7, er4⟩ := bnd1_some er4
    refine g_callVr [.int p1, .int p2] [] 27 X hT hG ml_X7_162 (c_X6_worth hq ec7) rfl rfl rfl rfl rfl hl.1 (Nat.le_of_ble_eq_true rfl) (by rw [hR]; exact ⟨Nat.le_of_ble_eq_true rfl, Nat.le_of_ble_eq_true rfl⟩) dX7_least_18 (fun H locs hG => ?_)
    refine lv_goto (tgt := 26) hx hb dX7_least_21 (by decide) ?_
    cases er4
    exact J4 H locs ls hG (lv_sub hl [] rfl)
def f6_roadOn_b1 (p3 : Int32) (p2 : Int32) (gNexts : (Nat → Int32)) (x5_6 : Int32) (x6_7 : Int32) : Option ((Int32 × Int32) ⊕ (Int32)) :=
  if p3 ≤ x6_7 then (some (.inr x5_6)) else if x5_6 = (-1) then (some (.inr x5_6)) else bnd1 (f1_get x5_6 p2 gNexts) fun (r_12 : Int32) => bd (x6_7 + 1) fun x6_14 => some (.inl (r_12, x6_14))
def f6_roadOn (fu : Nat) (p1 : Int32) (p2 : Int32) (gKeys : (Nat → Int32)) (p3 : Int32) (gNexts : (Nat → Int32)) : Option (Int32) :=
  bnd1 (f1_get p1 p2 gKeys) fun (r_1 : Int32) => if 268435456 ≤ r_1 then (some (-1)) else if p3 < 0 then (some (-1)) else if p3 ≤ (r_1 - r_1 / 64 * 64) then (bnd1 (lpG (fun z => f6_roadOn_b1 p3 p2 gNexts z.1 z.2) fu (p1, (0 : Int32))) fun (x5_8 : Int32) => some x5_8) else some (-1)
set_option maxHeartbeats 4000000 in
set_option maxRecDepth 100000 in
theorem c_X6_roadOn (hq : gJ layB q) {fu : Nat} {p1 : Int32} {p2 : Int32} {p3 : Int32} {o_r : Int32} (h : f6_roadOn fu p1 p2 gKeys p3 gNexts = some o_r) :
    GM l yX6_roadOn cX6_roadOn 7 (some .int) 1 22 D cI cZ layB q [.ref (q 27), .int p1, .int p2, .int p3] ([iReadings, iAlterations, iRankings, iLetters, iCurrent, iDue, iSize, iLsize], [], [gCosts, gWorths, gMiddles, gApart, gApartWithout, gNeeded, gUps, gDowns, gKeys, gNexts, gShutKeys, aCodes, aPbegins, aPends, aPlengths, aBegins, aEnds, aLengths, aRanks, aRoadsByRank, aRow, aRanksBefore, aBusy, aOpen, aShut]) (some (.int o_r)) ([iReadings, iAlterations, iRankings, iLetters, iCurrent, iDue, iSize, iLsize], [], [gCosts, gWorths, gMiddles, gApart, gApartWithout, gNeeded, gUps, gDowns, gKeys, gNexts, gShutKeys, aCodes, aPbegins, aPends, aPlengths, aBegins, aEnds, aLengths, aRanks, aRoadsByRank, aRow, aRanksBefore, aBusy, aOpen, aShut]) := by
  refine GM.go RX6 (by decide) rfl (Nat.le_of_ble_eq_true rfl) ?_
  intro p e s m args below meth c ls R Q H locs X hr hlk hT hG hl hR hQ
  have hx := X.1
  have hb := X.2.1
  have hl : lv_has ls 7 [(0, .ref (q 27)), (1, .int p1), (2, .int p2), (3, .int p3)] := hl
  unfold f6_roadOn at h
  refine lv_aload_n hx hb dX6_roadOn_0 rfl (lv_at hl 0 rfl) ?_
  refine g_get (v := .ref (q 8)) X hT hG fl_X6_12 27 rfl rfl rfl dX6_roadOn_1 ?_
  refine lv_iload_n hx hb dX6_roadOn_4 rfl (lv_at hl 1 rfl) ?_
  refine lv_iload_n hx hb dX6_roadOn_5 rfl (lv_at hl 2 rfl) ?_
  obtain ⟨r_1, ec2, h⟩ := bnd1_some h
  refine g_callVr [.int p1, .int p2] [] 8 X hT hG ml_X6_47 (c_X1_get_8 hq ec2) rfl rfl rfl rfl rfl hl.1 (Nat.le_of_ble_eq_true rfl) (by rw [hR]; exact ⟨Nat.le_of_ble_eq_true rfl, Nat.le_of_ble_eq_true rfl⟩) dX6_roadOn_6 (fun H locs hG => ?_)
  refine lv_istore (lv' := [(4, .int r_1), (0, .ref (q 27)), (1, .int p1), (2, .int p2), (3, .int p3)]) hx hb dX6_roadOn_9 hl (by decide) rfl (fun ls hl => ?_)
  refine lv_iload hx hb dX6_roadOn_11 (lv_at hl 0 rfl) ?_
  refine lv_ldc (v := 268435456) hx hb X.2.2.2.1 (X.2.2.2.2 _ cn_X6_51) dX6_roadOn_13 ?_
  refine lv_icmp_ge (tgt := 31) hx hb dX6_roadOn_15 (by decide) (fun cb3 => ?_) (fun cb3 => ?_)
  · have h := ite_t cb3 h
    refine lv_iconst (v := (-1)) hx hb dX6_roadOn_31 (by decide) ?_
    cases h
    rw [hQ]
    exact g_iret X hT hG hr hlk dX6_roadOn_32
  · have h := ite_f cb3 h
    refine lv_iload_n hx hb dX6_roadOn_18 rfl (lv_at hl 4 rfl) ?_
    refine lv_if_lt (tgt := 31) hx hb dX6_roadOn_19 (by decide) (fun cb4 => ?_) (fun cb4 => ?_)
    · have h := ite_t cb4 h
      refine lv_iconst (v := (-1)) hx hb dX6_roadOn_31 (by decide) ?_
      cases h
      rw [hQ]
      exact g_iret X hT hG hr hlk dX6_roadOn_32
    · have h := ite_f cb4 h
      refine lv_iload_n hx hb dX6_roadOn_22 rfl (lv_at hl 4 rfl) ?_
      refine lv_iload hx hb dX6_roadOn_23 (lv_at hl 0 rfl) ?_
      refine lv_bipush (v := 64) hx hb dX6_roadOn_25 (by decide) ?_
      refine lv_irem hx hb dX6_roadOn_27 (by decide) ?_
      refine lv_icmp_le (tgt := 33) hx hb dX6_roadOn_28 (by decide) (fun cb5 => ?_) (fun cb5 => ?_)
      · have h := ite_t cb5 h
        refine lv_iload_n hx hb dX6_roadOn_33 rfl (lv_at hl 2 rfl) ?_
        refine lv_istore (lv' := [(5, .int p1), (4, .int r_1), (0, .ref (q 27)), (1, .int p1), (2, .int p2), (3, .int p3)]) hx hb dX6_roadOn_34 hl (by decide) rfl (fun ls hl => ?_)
        refine lv_iconst (v := 0) hx hb dX6_roadOn_36 (by decide) ?_
        refine lv_istore (lv' := [(6, .int 0), (5, .int p1), (4, .int r_1), (0, .ref (q 27)), (1, .int p1), (2, .int p2), (3, .int p3)]) hx hb dX6_roadOn_37 hl (by decide) rfl (fun ls hl => ?_)
        obtain ⟨x5_8, eL9, h⟩ := bnd1_some h
        have JX9 : ∀ (H : Heap) (locs : List Loc) (ls : Array Slot), GH D cI cZ layB q s ([iReadings, iAlterations, iRankings, iLetters, iCurrent, iDue, iSize, iLsize], [], [gCosts, gWorths, gMiddles, gApart, gApartWithout, gNeeded, gUps, gDowns, gKeys, gNexts, gShutKeys, aCodes, aPbegins, aPends, aPlengths, aBegins, aEnds, aLengths, aRanks, aRoadsByRank, aRow, aRanksBefore, aBusy, aOpen, aShut]) H locs → lv_has ls 7 [(5, .int x5_8)] → W p l e R s m args below meth c H locs 0 0 Q (F0 m 69 ls []) := by
          intro H locs ls hG hl
          refine lv_iload hx hb dX6_roadOn_69 (lv_at hl 0 rfl) ?_
          cases h
          rw [hQ]
          exact g_iret X hT hG hr hlk dX6_roadOn_71
        refine lpG_W (Wh := fun z => ∀ (H : Heap) (locs : List Loc) (ls : Array Slot), GH D cI cZ layB q s ([iReadings, iAlterations, iRankings, iLetters, iCurrent, iDue, iSize, iLsize], [], [gCosts, gWorths, gMiddles, gApart, gApartWithout, gNeeded, gUps, gDowns, gKeys, gNexts, gShutKeys, aCodes, aPbegins, aPends, aPlengths, aBegins, aEnds, aLengths, aRanks, aRoadsByRank, aRow, aRanksBefore, aBusy, aOpen, aShut]) H locs → lv_has ls 7 [(0, .ref (q 27)), (2, .int p2), (3, .int p3), (5, .int (z.1)), (6, .int (z.2))] → W p l e R s m args below meth c H locs 0 0 Q (F0 m 39 ls [])) ?_ fu _ eL9 H locs ls hG (lv_sub hl [3, 5, 6, 1, 0] rfl)
        intro z rr9 hb9 hin9 hout9
        obtain ⟨x5_6, x6_7⟩ := z
        intro H locs ls hG hl
        have hb9 : f6_roadOn_b1 p3 p2 gNexts x5_6 x6_7 = some rr9 := hb9
        have hG : GH D cI cZ layB q s ([iReadings, iAlterations, iRankings, iLetters, iCurrent, iDue, iSize, iLsize], [], [gCosts, gWorths, gMiddles, gApart, gApartWithout, gNeeded, gUps, gDowns, gKeys, gNexts, gShutKeys, aCodes, aPbegins, aPends, aPlengths, aBegins, aEnds, aLengths, aRanks, aRoadsByRank, aRow, aRanksBefore, aBusy, aOpen, aShut]) H locs := hG
        have hl : lv_has ls 7 [(0, .ref (q 27)), (2, .int p2), (3, .int p3), (5, .int x5_6), (6, .int x6_7)] := hl
        unfold f6_roadOn_b1 at hb9
        refine lv_iload hx hb dX6_roadOn_39 (lv_at hl 4 rfl) ?_
        refine lv_iload_n hx hb dX6_roadOn_41 rfl (lv_at hl 2 rfl) ?_
        refine lv_icmp_ge (tgt := 69) hx hb dX6_roadOn_42 (by decide) (fun cb10 => ?_) (fun cb10 => ?_)
        · have hb9 := ite_t cb10 hb9
          have eo := hout9 _ (Option.some.inj hb9).symm
          cases eo
          exact JX9 H locs ls hG (lv_sub hl [3] rfl)
        · have hb9 := ite_f cb10 hb9
          refine lv_iload hx hb dX6_roadOn_45 (lv_at hl 3 rfl) ?_
          refine lv_iconst (v := (-1)) hx hb dX6_roadOn_47 (by decide) ?_
          refine lv_icmp_eq (tgt := 69) hx hb dX6_roadOn_48 (by decide) (fun cb11 => ?_) (fun cb11 => ?_)
          · have hb9 := ite_t cb11 hb9
            have eo := hout9 _ (Option.some.inj hb9).symm
            cases eo
            exact JX9 H locs ls hG (lv_sub hl [3] rfl)
          · have hb9 := ite_f cb11 hb9
            refine lv_aload_n hx hb dX6_roadOn_51 rfl (lv_at hl 0 rfl) ?_
            refine g_get (v := .ref (q 9)) X hT hG fl_X6_18 27 rfl rfl rfl dX6_roadOn_52 ?_
            refine lv_iload hx hb dX6_roadOn_55 (lv_at hl 3 rfl) ?_
            refine lv_iload_n hx hb dX6_roadOn_57 rfl (lv_at hl 1 rfl) ?_
            obtain ⟨r_12, ec13, hb9⟩ := bnd1_some hb9
            refine g_callVr [.int x5_6, .int p2] [] 9 X hT hG ml_X6_47 (c_X1_get_9 hq ec13) rfl rfl rfl rfl rfl hl.1 (Nat.le_of_ble_eq_true rfl) (by rw [hR]; exact ⟨Nat.le_of_ble_eq_true rfl, Nat.le_of_ble_eq_true rfl⟩) dX6_roadOn_58 (fun H locs hG => ?_)
            refine lv_istore (lv' := [(5, .int r_12), (0, .ref (q 27)), (2, .int p2), (3, .int p3), (6, .int x6_7)]) hx hb dX6_roadOn_61 hl (by decide) rfl (fun ls hl => ?_)
            obtain ⟨x6_14, ex6_14⟩ : ∃ z : Int32, z = x6_7 + 1 := ⟨_, rfl⟩
            have hb9 := bd_e ex6_14 hb9
            refine lv_iinc (v := x6_14) (lv' := [(6, .int x6_14), (5, .int r_12), (0, .ref (q 27)), (2, .int p2), (3, .int p3)]) hx hb dX6_roadOn_63 hl (k := 4) rfl (by rw [ex6_14]; rfl) (by decide) rfl (fun ls hl => ?_)
            refine lv_goto (tgt := 39) hx hb dX6_roadOn_66 (by decide) ?_
            exact hin9 _ (Option.some.inj hb9).symm H locs ls hG (lv_sub hl [2, 3, 4, 1, 0] rfl)
      · have h := ite_f cb5 h
        refine lv_iconst (v := (-1)) hx hb dX6_roadOn_31 (by decide) ?_
        cases h
        rw [hQ]
        exact g_iret X hT hG hr hlk dX6_roadOn_32
def f7_way (fu : Nat) (p1 : Int32) (iSize : Int32) (p2 : Int32) (gKeys : (Nat → Int32)) (p3 : Int32) (gNexts : (Nat → Int32)) : Option (Int32) :=
  bnd1 (f3_hasBoth p1 iSize p2) fun (r_1 : Int32) => bnd1 (if r_1 = 0 then (some (-101)) else bnd1 (f6_roadOn fu p1 p2 gKeys p3 gNexts) fun (r_6 : Int32) => some r_6) fun (y_3 : Int32) => some y_3
set_option maxHeartbeats 4000000 in
set_option maxRecDepth 100000 in
theorem c_X7_way (hq : gJ layB q) {fu : Nat} {p1 : Int32} {p2 : Int32} {p3 : Int32} {o_r : Int32} (h : f7_way fu p1 iSize p2 gKeys p3 gNexts = some o_r) :
    GM l yX7_way cX7_way 4 (some .int) 2 48 D cI cZ layB q [.ref (q 22), .int p1, .int p2, .int p3] ([iReadings, iAlterations, iRankings, iLetters, iCurrent, iDue, iSize, iLsize], [], [gCosts, gWorths, gMiddles, gApart, gApartWithout, gNeeded, gUps, gDowns, gKeys, gNexts, gShutKeys, aCodes, aPbegins, aPends, aPlengths, aBegins, aEnds, aLengths, aRanks, aRoadsByRank, aRow, aRanksBefore, aBusy, aOpen, aShut]) (some (.int o_r)) ([iReadings, iAlterations, iRankings, iLetters, iCurrent, iDue, iSize, iLsize], [], [gCosts, gWorths, gMiddles, gApart, gApartWithout, gNeeded, gUps, gDowns, gKeys, gNexts, gShutKeys, aCodes, aPbegins, aPends, aPlengths, aBegins, aEnds, aLengths, aRanks, aRoadsByRank, aRow, aRanksBefore, aBusy, aOpen, aShut]) := by
  refine GM.go RX7 (by decide) rfl (Nat.le_of_ble_eq_true rfl) ?_
  intro p e s m args below meth c ls R Q H locs X hr hlk hT hG hl hR hQ
  have hx := X.1
  have hb := X.2.1
  have hl : lv_has ls 4 [(0, .ref (q 22)), (1, .int p1), (2, .int p2), (3, .int p3)] := hl
  unfold f7_way at h
  refine lv_aload_n hx hb dX7_way_0 rfl (lv_at hl 0 rfl) ?_
  refine g_get (v := .ref (q 24)) X hT hG fl_X7_19 22 rfl rfl rfl dX7_way_1 ?_
  refine lv_iload_n hx hb dX7_way_4 rfl (lv_at hl 1 rfl) ?_
  refine lv_iload_n hx hb dX7_way_5 rfl (lv_at hl 2 rfl) ?_
  obtain ⟨r_1, ec2, h⟩ := bnd1_some h
  refine g_callVr [.int p1, .int p2] [] 24 X hT hG ml_X7_95 (c_X3_hasBoth hq ec2) rfl rfl rfl rfl rfl hl.1 (Nat.le_of_ble_eq_true rfl) (by rw [hR]; exact ⟨Nat.le_of_ble_eq_true rfl, Nat.le_of_ble_eq_true rfl⟩) dX7_way_6 (fun H locs hG => ?_)
  obtain ⟨y_3, er4, h⟩ := bnd1_some h
  have J4 : ∀ (H : Heap) (locs : List Loc) (ls : Array Slot), GH D cI cZ layB q s ([iReadings, iAlterations, iRankings, iLetters, iCurrent, iDue, iSize, iLsize], [], [gCosts, gWorths, gMiddles, gApart, gApartWithout, gNeeded, gUps, gDowns, gKeys, gNexts, gShutKeys, aCodes, aPbegins, aPends, aPlengths, aBegins, aEnds, aLengths, aRanks, aRoadsByRank, aRow, aRanksBefore, aBusy, aOpen, aShut]) H locs → lv_has ls 4 [] → W p l e R s m args below meth c H locs 0 0 Q (F0 m 27 ls [.int y_3]) := by
    intro H locs ls hG hl
    cases h
    rw [hQ]
    exact g_iret X hT hG hr hlk dX7_way_27
  refine lv_if_eq (tgt := 25) hx hb dX7_way_9 (by decide) (fun cb5 => ?_) (fun cb5 => ?_)
  · have er4 := ite_t cb5 er4
    refine lv_bipush (v := (-101)) hx hb dX7_way_25 (by decide) ?_
    cases er4
    exact J4 H locs ls hG (lv_sub hl [] rfl)
  · have er4 := ite_f cb5 er4
    refine lv_aload_n hx hb dX7_way_12 rfl (lv_at hl 0 rfl) ?_
    refine g_get (v := .ref (q 27)) X hT hG fl_X7_40 22 rfl rfl rfl dX7_way_13 ?_
    refine lv_iload_n hx hb dX7_way_16 rfl (lv_at hl 1 rfl) ?_
    refine lv_iload_n hx hb dX7_way_17 rfl (lv_at hl 2 rfl) ?_
    refine lv_iload_n hx hb dX7_way_18 rfl (lv_at hl 3 rfl) ?_
    obtain ⟨r_6, ec7, er4⟩ := bnd1_some er4
    refine g_callVr [.int p1, .int p2, .int p3] [] 27 X hT hG ml_X7_165 (c_X6_roadOn hq ec7) rfl rfl rfl rfl rfl hl.1 (Nat.le_of_ble_eq_true rfl) (by rw [hR]; exact ⟨Nat.le_of_ble_eq_true rfl, Nat.le_of_ble_eq_true rfl⟩) dX7_way_19 (fun H locs hG => ?_)
    refine lv_goto (tgt := 27) hx hb dX7_way_22 (by decide) ?_
    cases er4
    exact J4 H locs ls hG (lv_sub hl [] rfl)
def f2_putIntoRow_b1 (p2 : Int32) (x4_1 : Int32) (aRow_2 : (Nat → Int32)) : Option ((Int32 × (Nat → Int32)) ⊕ ((Nat → Int32))) :=
  if x4_1 ≤ p2 then (some (.inr aRow_2)) else ckin (x4_1 - 1) 12 (ckin x4_1 12 (bd (upd aRow_2 x4_1.toNatClampNeg (aRow_2 (x4_1 - 1).toNatClampNeg)) fun aRow_8 => bd (x4_1 + (-1)) fun x4_9 => some (.inl (x4_9, aRow_8))))
def f2_putIntoRow (fu : Nat) (p2 : Int32) (p3 : Int32) (aRow : (Nat → Int32)) (p1 : Int32) : Option ((Nat → Int32)) :=
  bnd1 (lpG (fun z => f2_putIntoRow_b1 p2 z.1 z.2) fu (p3, aRow)) fun (aRow_3 : (Nat → Int32)) => ckin p2 12 (bd (upd aRow_3 p2.toNatClampNeg p1) fun aRow_11 => some aRow_11)
set_option maxHeartbeats 4000000 in
set_option maxRecDepth 100000 in
theorem c_X2_putIntoRow (hq : gJ layB q) {fu : Nat} {p1 : Int32} {p2 : Int32} {p3 : Int32} {o_aRow : (Nat → Int32)} (h : f2_putIntoRow fu p2 p3 aRow p1 = some o_aRow) :
    GM l yX2_putIntoRow cX2_putIntoRow 5 none 0 0 D cI cZ layB q [.ref (q 25), .int p1, .int p2, .int p3] ([iReadings, iAlterations, iRankings, iLetters, iCurrent, iDue, iSize, iLsize], [], [gCosts, gWorths, gMiddles, gApart, gApartWithout, gNeeded, gUps, gDowns, gKeys, gNexts, gShutKeys, aCodes, aPbegins, aPends, aPlengths, aBegins, aEnds, aLengths, aRanks, aRoadsByRank, aRow, aRanksBefore, aBusy, aOpen, aShut]) none ([iReadings, iAlterations, iRankings, iLetters, iCurrent, iDue, iSize, iLsize], [], [gCosts, gWorths, gMiddles, gApart, gApartWithout, gNeeded, gUps, gDowns, gKeys, gNexts, gShutKeys, aCodes, aPbegins, aPends, aPlengths, aBegins, aEnds, aLengths, aRanks, aRoadsByRank, o_aRow, aRanksBefore, aBusy, aOpen, aShut]) := by
  refine GM.go RX2 (by decide) rfl (Nat.le_of_ble_eq_true rfl) ?_
  intro p e s m args below meth c ls R Q H locs X hr hlk hT hG hl hR hQ
  have hx := X.1
  have hb := X.2.1
  have hl : lv_has ls 5 [(0, .ref (q 25)), (1, .int p1), (2, .int p2), (3, .int p3)] := hl
  unfold f2_putIntoRow at h
  refine lv_iload_n hx hb dX2_putIntoRow_0 rfl (lv_at hl 3 rfl) ?_
  refine lv_istore (lv' := [(4, .int p3), (0, .ref (q 25)), (1, .int p1), (2, .int p2), (3, .int p3)]) hx hb dX2_putIntoRow_1 hl (by decide) rfl (fun ls hl => ?_)
  obtain ⟨aRow_3, eL4, h⟩ := bnd1_some h
  have JX4 : ∀ (H : Heap) (locs : List Loc) (ls : Array Slot), GH D cI cZ layB q s ([iReadings, iAlterations, iRankings, iLetters, iCurrent, iDue, iSize, iLsize], [], [gCosts, gWorths, gMiddles, gApart, gApartWithout, gNeeded, gUps, gDowns, gKeys, gNexts, gShutKeys, aCodes, aPbegins, aPends, aPlengths, aBegins, aEnds, aLengths, aRanks, aRoadsByRank, aRow_3, aRanksBefore, aBusy, aOpen, aShut]) H locs → lv_has ls 5 [(0, .ref (q 25)), (1, .int p1), (2, .int p2)] → W p l e R s m args below meth c H locs 0 0 Q (F0 m 31 ls []) := by
    intro H locs ls hG hl
    refine lv_aload_n hx hb dX2_putIntoRow_31 rfl (lv_at hl 0 rfl) ?_
    refine g_get (v := .ref (q 38)) X hT hG fl_X2_28 25 rfl rfl rfl dX2_putIntoRow_32 ?_
    refine lv_iload_n hx hb dX2_putIntoRow_35 rfl (lv_at hl 2 rfl) ?_
    refine lv_iload_n hx hb dX2_putIntoRow_36 rfl (lv_at hl 1 rfl) ?_
    obtain ⟨hi10, h⟩ := ckin_some h
    obtain ⟨aRow_11, eaRow_11⟩ : ∃ z : Nat → Int32, z = upd aRow_3 p2.toNatClampNeg p1 := ⟨_, rfl⟩
    have h := bd_e eaRow_11 h
    refine g_ast (w' := ([iReadings, iAlterations, iRankings, iLetters, iCurrent, iDue, iSize, iLsize], [], [gCosts, gWorths, gMiddles, gApart, gApartWithout, gNeeded, gUps, gDowns, gKeys, gNexts, gShutKeys, aCodes, aPbegins, aPends, aPlengths, aBegins, aEnds, aLengths, aRanks, aRoadsByRank, aRow_11, aRanksBefore, aBusy, aOpen, aShut])) X hT hq hG 38 rfl ga_B_aRow (Nat.le_of_ble_eq_true rfl) hi10 (by subst eaRow_11; rfl) dX2_putIntoRow_37 (fun H locs hG => ?_)
    cases h
    rw [hQ]
    exact g_vret X hT hG hr hlk dX2_putIntoRow_38
  refine lpG_W (Wh := fun z => ∀ (H : Heap) (locs : List Loc) (ls : Array Slot), GH D cI cZ layB q s ([iReadings, iAlterations, iRankings, iLetters, iCurrent, iDue, iSize, iLsize], [], [gCosts, gWorths, gMiddles, gApart, gApartWithout, gNeeded, gUps, gDowns, gKeys, gNexts, gShutKeys, aCodes, aPbegins, aPends, aPlengths, aBegins, aEnds, aLengths, aRanks, aRoadsByRank, z.2, aRanksBefore, aBusy, aOpen, aShut]) H locs → lv_has ls 5 [(0, .ref (q 25)), (1, .int p1), (2, .int p2), (4, .int (z.1))] → W p l e R s m args below meth c H locs 0 0 Q (F0 m 3 ls [])) ?_ fu _ eL4 H locs ls hG (lv_sub hl [1, 2, 3, 0] rfl)
  intro z rr4 hb4 hin4 hout4
  obtain ⟨x4_1, aRow_2⟩ := z
  intro H locs ls hG hl
  have hb4 : f2_putIntoRow_b1 p2 x4_1 aRow_2 = some rr4 := hb4
  have hG : GH D cI cZ layB q s ([iReadings, iAlterations, iRankings, iLetters, iCurrent, iDue, iSize, iLsize], [], [gCosts, gWorths, gMiddles, gApart, gApartWithout, gNeeded, gUps, gDowns, gKeys, gNexts, gShutKeys, aCodes, aPbegins, aPends, aPlengths, aBegins, aEnds, aLengths, aRanks, aRoadsByRank, aRow_2, aRanksBefore, aBusy, aOpen, aShut]) H locs := hG
  have hl : lv_has ls 5 [(0, .ref (q 25)), (1, .int p1), (2, .int p2), (4, .int x4_1)] := hl
  unfold f2_putIntoRow_b1 at hb4
  refine lv_iload hx hb dX2_putIntoRow_3 (lv_at hl 3 rfl) ?_
  refine lv_iload_n hx hb dX2_putIntoRow_5 rfl (lv_at hl 2 rfl) ?_
  refine lv_icmp_le (tgt := 31) hx hb dX2_putIntoRow_6 (by decide) (fun cb5 => ?_) (fun cb5 => ?_)
  · have hb4 := ite_t cb5 hb4
    have eo := hout4 _ (Option.some.inj hb4).symm
    cases eo
    exact JX4 H locs ls hG (lv_sub hl [0, 1, 2] rfl)
  · have hb4 := ite_f cb5 hb4
    refine lv_aload_n hx hb dX2_putIntoRow_9 rfl (lv_at hl 0 rfl) ?_
    refine g_get (v := .ref (q 38)) X hT hG fl_X2_28 25 rfl rfl rfl dX2_putIntoRow_10 ?_
    refine lv_iload hx hb dX2_putIntoRow_13 (lv_at hl 3 rfl) ?_
    refine lv_aload_n hx hb dX2_putIntoRow_15 rfl (lv_at hl 0 rfl) ?_
    refine g_get (v := .ref (q 38)) X hT hG fl_X2_28 25 rfl rfl rfl dX2_putIntoRow_16 ?_
    refine lv_iload hx hb dX2_putIntoRow_19 (lv_at hl 3 rfl) ?_
    refine lv_iconst (v := 1) hx hb dX2_putIntoRow_21 (by decide) ?_
    refine lv_isub hx hb dX2_putIntoRow_22 ?_
    obtain ⟨hi6, hb4⟩ := ckin_some hb4
    refine g_ald (f := aRow_2) X hT hG 38 rfl rfl hi6 dX2_putIntoRow_23 ?_
    obtain ⟨hi7, hb4⟩ := ckin_some hb4
    obtain ⟨aRow_8, eaRow_8⟩ : ∃ z : Nat → Int32, z = upd aRow_2 x4_1.toNatClampNeg (aRow_2 (x4_1 - 1).toNatClampNeg) := ⟨_, rfl⟩
    have hb4 := bd_e eaRow_8 hb4
    refine g_ast (w' := ([iReadings, iAlterations, iRankings, iLetters, iCurrent, iDue, iSize, iLsize], [], [gCosts, gWorths, gMiddles, gApart, gApartWithout, gNeeded, gUps, gDowns, gKeys, gNexts, gShutKeys, aCodes, aPbegins, aPends, aPlengths, aBegins, aEnds, aLengths, aRanks, aRoadsByRank, aRow_8, aRanksBefore, aBusy, aOpen, aShut])) X hT hq hG 38 rfl ga_B_aRow (Nat.le_of_ble_eq_true rfl) hi7 (by subst eaRow_8; rfl) dX2_putIntoRow_24 (fun H locs hG => ?_)
    obtain ⟨x4_9, ex4_9⟩ : ∃ z : Int32, z = x4_1 + (-1) := ⟨_, rfl⟩
    have hb4 := bd_e ex4_9 hb4
    refine lv_iinc (v := x4_9) (lv' := [(4, .int x4_9), (0, .ref (q 25)), (1, .int p1), (2, .int p2)]) hx hb dX2_putIntoRow_25 hl (k := 3) rfl (by rw [ex4_9]; rfl) (by decide) rfl (fun ls hl => ?_)
    refine lv_goto (tgt := 3) hx hb dX2_putIntoRow_28 (by decide) ?_
    exact hin4 _ (Option.some.inj hb4).symm H locs ls hG (lv_sub hl [1, 2, 3, 0] rfl)
def f2_unpack_b1 (fu : Nat) (gMiddles : (Nat → Int32)) (x3_5 : Int32) (x4_6 : Int32) (x5_7 : Int32) (aRow_8 : (Nat → Int32)) : Option ((Int32 × Int32 × Int32 × (Nat → Int32)) ⊕ (Int32 × (Nat → Int32))) :=
  if 24 ≤ x5_7 then (some (.inr (x3_5, aRow_8))) else if x3_5 ≤ (x4_6 + 1) then (some (.inr (x3_5, aRow_8))) else ckin x4_6 12 (ckin (x4_6 + 1) 12 (bnd1 (f1_get (aRow_8 x4_6.toNatClampNeg) (aRow_8 (x4_6 + 1).toNatClampNeg) gMiddles) fun (r_16 : Int32) => bnd3 (if r_16 = (-1) then (bd (x4_6 + 1) fun x4_23 => some (x3_5, x4_23, aRow_8)) else if x3_5 < 12 then (bnd1 (f2_putIntoRow fu (x4_6 + 1) x3_5 aRow_8 r_16) fun (aRow_25 : (Nat → Int32)) => bd (x3_5 + 1) fun x3_27 => some (x3_27, x4_6, aRow_25)) else bd (x4_6 + 1) fun x4_28 => some (x3_5, x4_28, aRow_8)) fun (x3_18 : Int32) (x4_19 : Int32) (aRow_20 : (Nat → Int32)) => bd (x5_7 + 1) fun x5_29 => some (.inl (x3_18, x4_19, x5_29, aRow_20))))
def f2_unpack (fu : Nat) (aRow : (Nat → Int32)) (p1 : Int32) (p2 : Int32) (gMiddles : (Nat → Int32)) : Option (Int32 × (Nat → Int32)) :=
  ckin 0 12 (bd (upd aRow (0 : Int32).toNatClampNeg p1) fun aRow_2 => ckin 1 12 (bd (upd aRow_2 (1 : Int32).toNatClampNeg p2) fun aRow_4 => bnd2 (lpG (fun z => f2_unpack_b1 fu gMiddles z.1 z.2.1 z.2.2.1 z.2.2.2) fu ((2 : Int32), (0 : Int32), (0 : Int32), aRow_4)) fun (x3_9 : Int32) (aRow_10 : (Nat → Int32)) => some (x3_9, aRow_10)))
set_option maxHeartbeats 4000000 in
set_option maxRecDepth 100000 in
theorem c_X2_unpack (hq : gJ layB q) {fu : Nat} {p1 : Int32} {p2 : Int32} {o_r : Int32} {o_aRow : (Nat → Int32)} (h : f2_unpack fu aRow p1 p2 gMiddles = some (o_r, o_aRow)) :
    GM l yX2_unpack cX2_unpack 7 (some .int) 1 24 D cI cZ layB q [.ref (q 25), .int p1, .int p2] ([iReadings, iAlterations, iRankings, iLetters, iCurrent, iDue, iSize, iLsize], [], [gCosts, gWorths, gMiddles, gApart, gApartWithout, gNeeded, gUps, gDowns, gKeys, gNexts, gShutKeys, aCodes, aPbegins, aPends, aPlengths, aBegins, aEnds, aLengths, aRanks, aRoadsByRank, aRow, aRanksBefore, aBusy, aOpen, aShut]) (some (.int o_r)) ([iReadings, iAlterations, iRankings, iLetters, iCurrent, iDue, iSize, iLsize], [], [gCosts, gWorths, gMiddles, gApart, gApartWithout, gNeeded, gUps, gDowns, gKeys, gNexts, gShutKeys, aCodes, aPbegins, aPends, aPlengths, aBegins, aEnds, aLengths, aRanks, aRoadsByRank, o_aRow, aRanksBefore, aBusy, aOpen, aShut]) := by
  refine GM.go RX2 (by decide) rfl (Nat.le_of_ble_eq_true rfl) ?_
  intro p e s m args below meth c ls R Q H locs X hr hlk hT hG hl hR hQ
  have hx := X.1
  have hb := X.2.1
  have hl : lv_has ls 7 [(0, .ref (q 25)), (1, .int p1), (2, .int p2)] := hl
  unfold f2_unpack at h
  refine lv_aload_n hx hb dX2_unpack_0 rfl (lv_at hl 0 rfl) ?_
  refine g_get (v := .ref (q 38)) X hT hG fl_X2_28 25 rfl rfl rfl dX2_unpack_1 ?_
  refine lv_iconst (v := 0) hx hb dX2_unpack_4 (by decide) ?_
  refine lv_iload_n hx hb dX2_unpack_5 rfl (lv_at hl 1 rfl) ?_
  obtain ⟨hi1, h⟩ := ckin_some h
  obtain ⟨aRow_2, eaRow_2⟩ : ∃ z : Nat → Int32, z = upd aRow (0 : Int32).toNatClampNeg p1 := ⟨_, rfl⟩
  have h := bd_e eaRow_2 h
  refine g_ast (w' := ([iReadings, iAlterations, iRankings, iLetters, iCurrent, iDue, iSize, iLsize], [], [gCosts, gWorths, gMiddles, gApart, gApartWithout, gNeeded, gUps, gDowns, gKeys, gNexts, gShutKeys, aCodes, aPbegins, aPends, aPlengths, aBegins, aEnds, aLengths, aRanks, aRoadsByRank, aRow_2, aRanksBefore, aBusy, aOpen, aShut])) X hT hq hG 38 rfl ga_B_aRow (Nat.le_of_ble_eq_true rfl) hi1 (by subst eaRow_2; rfl) dX2_unpack_6 (fun H locs hG => ?_)
  refine lv_aload_n hx hb dX2_unpack_7 rfl (lv_at hl 0 rfl) ?_
  refine g_get (v := .ref (q 38)) X hT hG fl_X2_28 25 rfl rfl rfl dX2_unpack_8 ?_
  refine lv_iconst (v := 1) hx hb dX2_unpack_11 (by decide) ?_
  refine lv_iload_n hx hb dX2_unpack_12 rfl (lv_at hl 2 rfl) ?_
  obtain ⟨hi3, h⟩ := ckin_some h
  obtain ⟨aRow_4, eaRow_4⟩ : ∃ z : Nat → Int32, z = upd aRow_2 (1 : Int32).toNatClampNeg p2 := ⟨_, rfl⟩
  have h := bd_e eaRow_4 h
  refine g_ast (w' := ([iReadings, iAlterations, iRankings, iLetters, iCurrent, iDue, iSize, iLsize], [], [gCosts, gWorths, gMiddles, gApart, gApartWithout, gNeeded, gUps, gDowns, gKeys, gNexts, gShutKeys, aCodes, aPbegins, aPends, aPlengths, aBegins, aEnds, aLengths, aRanks, aRoadsByRank, aRow_4, aRanksBefore, aBusy, aOpen, aShut])) X hT hq hG 38 rfl ga_B_aRow (Nat.le_of_ble_eq_true rfl) hi3 (by subst eaRow_4; rfl) dX2_unpack_13 (fun H locs hG => ?_)
  refine lv_iconst (v := 2) hx hb dX2_unpack_14 (by decide) ?_
  refine lv_istore_n (lv' := [(3, .int 2), (0, .ref (q 25)), (1, .int p1), (2, .int p2)]) hx hb dX2_unpack_15 rfl hl (by decide) rfl (fun ls hl => ?_)
  refine lv_iconst (v := 0) hx hb dX2_unpack_16 (by decide) ?_
  refine lv_istore (lv' := [(4, .int 0), (3, .int 2), (0, .ref (q 25)), (1, .int p1), (2, .int p2)]) hx hb dX2_unpack_17 hl (by decide) rfl (fun ls hl => ?_)
  refine lv_iconst (v := 0) hx hb dX2_unpack_19 (by decide) ?_
  refine lv_istore (lv' := [(5, .int 0), (4, .int 0), (3, .int 2), (0, .ref (q 25)), (1, .int p1), (2, .int p2)]) hx hb dX2_unpack_20 hl (by decide) rfl (fun ls hl => ?_)
  obtain ⟨x3_9, aRow_10, eL11, h⟩ := bnd2_some h
  have JX11 : ∀ (H : Heap) (locs : List Loc) (ls : Array Slot), GH D cI cZ layB q s ([iReadings, iAlterations, iRankings, iLetters, iCurrent, iDue, iSize, iLsize], [], [gCosts, gWorths, gMiddles, gApart, gApartWithout, gNeeded, gUps, gDowns, gKeys, gNexts, gShutKeys, aCodes, aPbegins, aPends, aPlengths, aBegins, aEnds, aLengths, aRanks, aRoadsByRank, aRow_10, aRanksBefore, aBusy, aOpen, aShut]) H locs → lv_has ls 7 [(3, .int x3_9)] → W p l e R s m args below meth c H locs 0 0 Q (F0 m 100 ls []) := by
    intro H locs ls hG hl
    refine lv_iload_n hx hb dX2_unpack_100 rfl (lv_at hl 0 rfl) ?_
    cases h
    rw [hQ]
    exact g_iret X hT hG hr hlk dX2_unpack_101
  refine lpG_W (Wh := fun z => ∀ (H : Heap) (locs : List Loc) (ls : Array Slot), GH D cI cZ layB q s ([iReadings, iAlterations, iRankings, iLetters, iCurrent, iDue, iSize, iLsize], [], [gCosts, gWorths, gMiddles, gApart, gApartWithout, gNeeded, gUps, gDowns, gKeys, gNexts, gShutKeys, aCodes, aPbegins, aPends, aPlengths, aBegins, aEnds, aLengths, aRanks, aRoadsByRank, z.2.2.2, aRanksBefore, aBusy, aOpen, aShut]) H locs → lv_has ls 7 [(0, .ref (q 25)), (3, .int (z.1)), (4, .int (z.2.1)), (5, .int (z.2.2.1))] → W p l e R s m args below meth c H locs 0 0 Q (F0 m 22 ls [])) ?_ fu _ eL11 H locs ls hG (lv_sub hl [3, 2, 1, 0] rfl)
  intro z rr11 hb11 hin11 hout11
  obtain ⟨x3_5, x4_6, x5_7, aRow_8⟩ := z
  intro H locs ls hG hl
  have hb11 : f2_unpack_b1 fu gMiddles x3_5 x4_6 x5_7 aRow_8 = some rr11 := hb11
  have hG : GH D cI cZ layB q s ([iReadings, iAlterations, iRankings, iLetters, iCurrent, iDue, iSize, iLsize], [], [gCosts, gWorths, gMiddles, gApart, gApartWithout, gNeeded, gUps, gDowns, gKeys, gNexts, gShutKeys, aCodes, aPbegins, aPends, aPlengths, aBegins, aEnds, aLengths, aRanks, aRoadsByRank, aRow_8, aRanksBefore, aBusy, aOpen, aShut]) H locs := hG
  have hl : lv_has ls 7 [(0, .ref (q 25)), (3, .int x3_5), (4, .int x4_6), (5, .int x5_7)] := hl
  unfold f2_unpack_b1 at hb11
  refine lv_iload hx hb dX2_unpack_22 (lv_at hl 3 rfl) ?_
  refine lv_bipush (v := 24) hx hb dX2_unpack_24 (by decide) ?_
  refine lv_icmp_ge (tgt := 100) hx hb dX2_unpack_26 (by decide) (fun cb12 => ?_) (fun cb12 => ?_)
  · have hb11 := ite_t cb12 hb11
    have eo := hout11 _ (Option.some.inj hb11).symm
    cases eo
    exact JX11 H locs ls hG (lv_sub hl [1] rfl)
  · have hb11 := ite_f cb12 hb11
    refine lv_iload hx hb dX2_unpack_29 (lv_at hl 2 rfl) ?_
    refine lv_iconst (v := 1) hx hb dX2_unpack_31 (by decide) ?_
    refine lv_iadd hx hb dX2_unpack_32 ?_
    refine lv_iload_n hx hb dX2_unpack_33 rfl (lv_at hl 1 rfl) ?_
    refine lv_icmp_ge (tgt := 100) hx hb dX2_unpack_34 (by decide) (fun cb13 => ?_) (fun cb13 => ?_)
    · have hb11 := ite_t cb13 hb11
      have eo := hout11 _ (Option.some.inj hb11).symm
      cases eo
      exact JX11 H locs ls hG (lv_sub hl [1] rfl)
    · have hb11 := ite_f cb13 hb11
      refine lv_aload_n hx hb dX2_unpack_37 rfl (lv_at hl 0 rfl) ?_
      refine g_get (v := .ref (q 2)) X hT hG fl_X2_18 25 rfl rfl rfl dX2_unpack_38 ?_
      refine lv_aload_n hx hb dX2_unpack_41 rfl (lv_at hl 0 rfl) ?_
      refine g_get (v := .ref (q 38)) X hT hG fl_X2_28 25 rfl rfl rfl dX2_unpack_42 ?_
      refine lv_iload hx hb dX2_unpack_45 (lv_at hl 2 rfl) ?_
      obtain ⟨hi14, hb11⟩ := ckin_some hb11
      refine g_ald (f := aRow_8) X hT hG 38 rfl rfl hi14 dX2_unpack_47 ?_
      refine lv_aload_n hx hb dX2_unpack_48 rfl (lv_at hl 0 rfl) ?_
      refine g_get (v := .ref (q 38)) X hT hG fl_X2_28 25 rfl rfl rfl dX2_unpack_49 ?_
      refine lv_iload hx hb dX2_unpack_52 (lv_at hl 2 rfl) ?_
      refine lv_iconst (v := 1) hx hb dX2_unpack_54 (by decide) ?_
      refine lv_iadd hx hb dX2_unpack_55 ?_
      obtain ⟨hi15, hb11⟩ := ckin_some hb11
      refine g_ald (f := aRow_8) X hT hG 38 rfl rfl hi15 dX2_unpack_56 ?_
      obtain ⟨r_16, ec17, hb11⟩ := bnd1_some hb11
      refine g_callVr [.int (aRow_8 x4_6.toNatClampNeg), .int (aRow_8 (x4_6 + 1).toNatClampNeg)] [] 2 X hT hG ml_X2_84 (c_X1_get_2 hq ec17) rfl rfl rfl rfl rfl hl.1 (Nat.le_of_ble_eq_true rfl) (by rw [hR]; exact ⟨Nat.le_of_ble_eq_true rfl, Nat.le_of_ble_eq_true rfl⟩) dX2_unpack_57 (fun H locs hG => ?_)
      refine lv_istore (lv' := [(6, .int r_16), (0, .ref (q 25)), (3, .int x3_5), (4, .int x4_6), (5, .int x5_7)]) hx hb dX2_unpack_60 hl (by decide) rfl (fun ls hl => ?_)
      refine lv_iload hx hb dX2_unpack_62 (lv_at hl 0 rfl) ?_
      refine lv_iconst (v := (-1)) hx hb dX2_unpack_64 (by decide) ?_
      obtain ⟨x3_18, x4_19, aRow_20, er21, hb11⟩ := bnd3_some hb11
      have J21 : ∀ (H : Heap) (locs : List Loc) (ls : Array Slot), GH D cI cZ layB q s ([iReadings, iAlterations, iRankings, iLetters, iCurrent, iDue, iSize, iLsize], [], [gCosts, gWorths, gMiddles, gApart, gApartWithout, gNeeded, gUps, gDowns, gKeys, gNexts, gShutKeys, aCodes, aPbegins, aPends, aPlengths, aBegins, aEnds, aLengths, aRanks, aRoadsByRank, aRow_20, aRanksBefore, aBusy, aOpen, aShut]) H locs → lv_has ls 7 [(0, .ref (q 25)), (3, .int x3_18), (4, .int x4_19), (5, .int x5_7)] → W p l e R s m args below meth c H locs 0 0 Q (F0 m 94 ls []) := by
        intro H locs ls hG hl
        obtain ⟨x5_29, ex5_29⟩ : ∃ z : Int32, z = x5_7 + 1 := ⟨_, rfl⟩
        have hb11 := bd_e ex5_29 hb11
        refine lv_iinc (v := x5_29) (lv' := [(5, .int x5_29), (0, .ref (q 25)), (3, .int x3_18), (4, .int x4_19)]) hx hb dX2_unpack_94 hl (k := 3) rfl (by rw [ex5_29]; rfl) (by decide) rfl (fun ls hl => ?_)
        refine lv_goto (tgt := 22) hx hb dX2_unpack_97 (by decide) ?_
        exact hin11 _ (Option.some.inj hb11).symm H locs ls hG (lv_sub hl [1, 2, 3, 0] rfl)
      refine lv_icmp_eq (tgt := 74) hx hb dX2_unpack_65 (by decide) (fun cb22 => ?_) (fun cb22 => ?_)
      · have er21 := ite_t cb22 er21
        obtain ⟨x4_23, ex4_23⟩ : ∃ z : Int32, z = x4_6 + 1 := ⟨_, rfl⟩
        have er21 := bd_e ex4_23 er21
        refine lv_iinc (v := x4_23) (lv' := [(4, .int x4_23), (6, .int r_16), (0, .ref (q 25)), (3, .int x3_5), (5, .int x5_7)]) hx hb dX2_unpack_74 hl (k := 3) rfl (by rw [ex4_23]; rfl) (by decide) rfl (fun ls hl => ?_)
        refine lv_goto (tgt := 94) hx hb dX2_unpack_77 (by decide) ?_
        cases er21
        exact J21 H locs ls hG (lv_sub hl [2, 3, 0, 4] rfl)
      · have er21 := ite_f cb22 er21
        refine lv_iload_n hx hb dX2_unpack_68 rfl (lv_at hl 2 rfl) ?_
        refine lv_bipush (v := 12) hx hb dX2_unpack_69 (by decide) ?_
        refine lv_icmp_lt (tgt := 80) hx hb dX2_unpack_71 (by decide) (fun cb24 => ?_) (fun cb24 => ?_)
        · have er21 := ite_t cb24 er21
          refine lv_aload_n hx hb dX2_unpack_80 rfl (lv_at hl 1 rfl) ?_
          refine lv_iload hx hb dX2_unpack_81 (lv_at hl 0 rfl) ?_
          refine lv_iload hx hb dX2_unpack_83 (lv_at hl 3 rfl) ?_
          refine lv_iconst (v := 1) hx hb dX2_unpack_85 (by decide) ?_
          refine lv_iadd hx hb dX2_unpack_86 ?_
          refine lv_iload_n hx hb dX2_unpack_87 rfl (lv_at hl 2 rfl) ?_
          obtain ⟨aRow_25, ec26, er21⟩ := bnd1_some er21
          refine g_callVv [.int r_16, .int (x4_6 + 1), .int x3_5] [] 25 X hT hG ml_X2_107 (c_X2_putIntoRow hq ec26) rfl rfl rfl rfl rfl hl.1 (Nat.le_of_ble_eq_true rfl) (by rw [hR]; exact ⟨Nat.le_of_ble_eq_true rfl, Nat.le_of_ble_eq_true rfl⟩) dX2_unpack_88 (fun H locs hG => ?_)
          have hG : GH D cI cZ layB q s ([iReadings, iAlterations, iRankings, iLetters, iCurrent, iDue, iSize, iLsize], [], [gCosts, gWorths, gMiddles, gApart, gApartWithout, gNeeded, gUps, gDowns, gKeys, gNexts, gShutKeys, aCodes, aPbegins, aPends, aPlengths, aBegins, aEnds, aLengths, aRanks, aRoadsByRank, aRow_25, aRanksBefore, aBusy, aOpen, aShut]) H locs := hG
          obtain ⟨x3_27, ex3_27⟩ : ∃ z : Int32, z = x3_5 + 1 := ⟨_, rfl⟩
          have er21 := bd_e ex3_27 er21
          refine lv_iinc (v := x3_27) (lv' := [(3, .int x3_27), (6, .int r_16), (0, .ref (q 25)), (4, .int x4_6), (5, .int x5_7)]) hx hb dX2_unpack_91 hl (k := 2) rfl (by rw [ex3_27]; rfl) (by decide) rfl (fun ls hl => ?_)
          cases er21
          exact J21 H locs ls hG (lv_sub hl [2, 0, 3, 4] rfl)
        · have er21 := ite_f cb24 er21
          obtain ⟨x4_28, ex4_28⟩ : ∃ z : Int32, z = x4_6 + 1 := ⟨_, rfl⟩
          have er21 := bd_e ex4_28 er21
          refine lv_iinc (v := x4_28) (lv' := [(4, .int x4_28), (6, .int r_16), (0, .ref (q 25)), (3, .int x3_5), (5, .int x5_7)]) hx hb dX2_unpack_74 hl (k := 3) rfl (by rw [ex4_28]; rfl) (by decide) rfl (fun ls hl => ?_)
          refine lv_goto (tgt := 94) hx hb dX2_unpack_77 (by decide) ?_
          cases er21
          exact J21 H locs ls hG (lv_sub hl [2, 3, 0, 4] rfl)
def f7_arc (fu : Nat) (p1 : Int32) (iSize : Int32) (p2 : Int32) (aRow : (Nat → Int32)) (p3 : Int32) (gWorths : (Nat → Int32)) (gMiddles : (Nat → Int32)) (aRanks : (Nat → Int32)) : Option (Int32 × (Nat → Int32)) :=
  bnd1 (f3_hasBoth p1 iSize p2) fun (r_1 : Int32) => if r_1 = 0 then (some ((-101), aRow)) else if p3 < 0 then (some ((-102), aRow)) else if p3 ≤ 3 then (bnd1 (f2_hasArc p1 p2 gWorths) fun (r_6 : Int32) => if r_6 = 0 then (some ((-1), aRow)) else if p3 = 0 then (bnd1 (f1_get p1 p2 gWorths) fun (r_10 : Int32) => some (r_10, aRow)) else if p3 = 1 then (bnd1 (f1_get p1 p2 gMiddles) fun (r_13 : Int32) => some (r_13, aRow)) else if p3 = 2 then (bnd1 (f2_leadsUp p2 p1 aRanks) fun (r_16 : Int32) => bnd1 (if r_16 = 0 then (some 0) else some 1) fun (y_18 : Int32) => some (y_18, aRow)) else bnd2 (f2_unpack fu aRow p1 p2 gMiddles) fun (r_21 : Int32) (aRow_22 : (Nat → Int32)) => some (r_21, aRow_22)) else some ((-102), aRow)
set_option maxHeartbeats 4000000 in
set_option maxRecDepth 100000 in
theorem c_X7_arc (hq : gJ layB q) {fu : Nat} {p1 : Int32} {p2 : Int32} {p3 : Int32} {o_r : Int32} {o_aRow : (Nat → Int32)} (h : f7_arc fu p1 iSize p2 aRow p3 gWorths gMiddles aRanks = some (o_r, o_aRow)) :
    GM l yX7_arc cX7_arc 4 (some .int) 2 50 D cI cZ layB q [.ref (q 22), .int p1, .int p2, .int p3] ([iReadings, iAlterations, iRankings, iLetters, iCurrent, iDue, iSize, iLsize], [], [gCosts, gWorths, gMiddles, gApart, gApartWithout, gNeeded, gUps, gDowns, gKeys, gNexts, gShutKeys, aCodes, aPbegins, aPends, aPlengths, aBegins, aEnds, aLengths, aRanks, aRoadsByRank, aRow, aRanksBefore, aBusy, aOpen, aShut]) (some (.int o_r)) ([iReadings, iAlterations, iRankings, iLetters, iCurrent, iDue, iSize, iLsize], [], [gCosts, gWorths, gMiddles, gApart, gApartWithout, gNeeded, gUps, gDowns, gKeys, gNexts, gShutKeys, aCodes, aPbegins, aPends, aPlengths, aBegins, aEnds, aLengths, aRanks, aRoadsByRank, o_aRow, aRanksBefore, aBusy, aOpen, aShut]) := by
  refine GM.go RX7 (by decide) rfl (Nat.le_of_ble_eq_true rfl) ?_
  intro p e s m args below meth c ls R Q H locs X hr hlk hT hG hl hR hQ
  have hx := X.1
  have hb := X.2.1
  have hl : lv_has ls 4 [(0, .ref (q 22)), (1, .int p1), (2, .int p2), (3, .int p3)] := hl
  unfold f7_arc at h
  refine lv_aload_n hx hb dX7_arc_0 rfl (lv_at hl 0 rfl) ?_
  refine g_get (v := .ref (q 24)) X hT hG fl_X7_19 22 rfl rfl rfl dX7_arc_1 ?_
  refine lv_iload_n hx hb dX7_arc_4 rfl (lv_at hl 1 rfl) ?_
  refine lv_iload_n hx hb dX7_arc_5 rfl (lv_at hl 2 rfl) ?_
  obtain ⟨r_1, ec2, h⟩ := bnd1_some h
  refine g_callVr [.int p1, .int p2] [] 24 X hT hG ml_X7_95 (c_X3_hasBoth hq ec2) rfl rfl rfl rfl rfl hl.1 (Nat.le_of_ble_eq_true rfl) (by rw [hR]; exact ⟨Nat.le_of_ble_eq_true rfl, Nat.le_of_ble_eq_true rfl⟩) dX7_arc_6 (fun H locs hG => ?_)
  refine lv_if_ne (tgt := 15) hx hb dX7_arc_9 (by decide) (fun cb3 => ?_) (fun cb3 => ?_)
  · have h := ite_f cb3 h
    refine lv_iload_n hx hb dX7_arc_15 rfl (lv_at hl 3 rfl) ?_
    refine lv_if_lt (tgt := 24) hx hb dX7_arc_16 (by decide) (fun cb4 => ?_) (fun cb4 => ?_)
    · have h := ite_t cb4 h
      refine lv_bipush (v := (-102)) hx hb dX7_arc_24 (by decide) ?_
      cases h
      rw [hQ]
      exact g_iret X hT hG hr hlk dX7_arc_26
    · have h := ite_f cb4 h
      refine lv_iload_n hx hb dX7_arc_19 rfl (lv_at hl 3 rfl) ?_
      refine lv_iconst (v := 3) hx hb dX7_arc_20 (by decide) ?_
      refine lv_icmp_le (tgt := 27) hx hb dX7_arc_21 (by decide) (fun cb5 => ?_) (fun cb5 => ?_)
      · have h := ite_t cb5 h
        refine lv_aload_n hx hb dX7_arc_27 rfl (lv_at hl 0 rfl) ?_
        refine g_get (v := .ref (q 25)) X hT hG fl_X7_26 22 rfl rfl rfl dX7_arc_28 ?_
        refine lv_iload_n hx hb dX7_arc_31 rfl (lv_at hl 1 rfl) ?_
        refine lv_iload_n hx hb dX7_arc_32 rfl (lv_at hl 2 rfl) ?_
        obtain ⟨r_6, ec7, h⟩ := bnd1_some h
        refine g_callVr [.int p1, .int p2] [] 25 X hT hG ml_X7_169 (c_X2_hasArc hq ec7) rfl rfl rfl rfl rfl hl.1 (Nat.le_of_ble_eq_true rfl) (by rw [hR]; exact ⟨Nat.le_of_ble_eq_true rfl, Nat.le_of_ble_eq_true rfl⟩) dX7_arc_33 (fun H locs hG => ?_)
        refine lv_if_ne (tgt := 41) hx hb dX7_arc_36 (by decide) (fun cb8 => ?_) (fun cb8 => ?_)
        · have h := ite_f cb8 h
          refine lv_iload_n hx hb dX7_arc_41 rfl (lv_at hl 3 rfl) ?_
          by_cases cs9 : p3 = 0
          · have h := ite_t cs9 h
            refine g_eqi cs9 ?_
            refine lv_tableIn (x := 0) hx hb dX7_arc_42 (by decide) (by decide) (off := 26) rfl (tgt := 68) (by decide) ?_
            refine lv_aload_n hx hb dX7_arc_68 rfl (lv_at hl 0 rfl) ?_
            refine g_get (v := .ref (q 25)) X hT hG fl_X7_26 22 rfl rfl rfl dX7_arc_69 ?_
            refine g_get (v := .ref (q 1)) X hT hG fl_X7_172 25 rfl rfl rfl dX7_arc_72 ?_
            refine lv_iload_n hx hb dX7_arc_75 rfl (lv_at hl 1 rfl) ?_
            refine lv_iload_n hx hb dX7_arc_76 rfl (lv_at hl 2 rfl) ?_
            obtain ⟨r_10, ec11, h⟩ := bnd1_some h
            refine g_callVr [.int p1, .int p2] [] 1 X hT hG ml_X7_106 (c_X1_get_1 hq ec11) rfl rfl rfl rfl rfl hl.1 (Nat.le_of_ble_eq_true rfl) (by rw [hR]; exact ⟨Nat.le_of_ble_eq_true rfl, Nat.le_of_ble_eq_true rfl⟩) dX7_arc_77 (fun H locs hG => ?_)
            cases h
            rw [hQ]
            exact g_iret X hT hG hr hlk dX7_arc_80
          · have h := ite_f cs9 h
            by_cases cs12 : p3 = 1
            · have h := ite_t cs12 h
              refine g_eqi cs12 ?_
              refine lv_tableIn (x := 1) hx hb dX7_arc_42 (by decide) (by decide) (off := 39) rfl (tgt := 81) (by decide) ?_
              refine lv_aload_n hx hb dX7_arc_81 rfl (lv_at hl 0 rfl) ?_
              refine g_get (v := .ref (q 25)) X hT hG fl_X7_26 22 rfl rfl rfl dX7_arc_82 ?_
              refine g_get (v := .ref (q 2)) X hT hG fl_X7_175 25 rfl rfl rfl dX7_arc_85 ?_
              refine lv_iload_n hx hb dX7_arc_88 rfl (lv_at hl 1 rfl) ?_
              refine lv_iload_n hx hb dX7_arc_89 rfl (lv_at hl 2 rfl) ?_
              obtain ⟨r_13, ec14, h⟩ := bnd1_some h
              refine g_callVr [.int p1, .int p2] [] 2 X hT hG ml_X7_106 (c_X1_get_2 hq ec14) rfl rfl rfl rfl rfl hl.1 (Nat.le_of_ble_eq_true rfl) (by rw [hR]; exact ⟨Nat.le_of_ble_eq_true rfl, Nat.le_of_ble_eq_true rfl⟩) dX7_arc_90 (fun H locs hG => ?_)
              cases h
              rw [hQ]
              exact g_iret X hT hG hr hlk dX7_arc_93
            · have h := ite_f cs12 h
              by_cases cs15 : p3 = 2
              · have h := ite_t cs15 h
                refine g_eqi cs15 ?_
                refine lv_tableIn (x := 2) hx hb dX7_arc_42 (by decide) (by decide) (off := 52) rfl (tgt := 94) (by decide) ?_
                refine lv_aload_n hx hb dX7_arc_94 rfl (lv_at hl 0 rfl) ?_
                refine g_get (v := .ref (q 25)) X hT hG fl_X7_26 22 rfl rfl rfl dX7_arc_95 ?_
                refine lv_iload_n hx hb dX7_arc_98 rfl (lv_at hl 1 rfl) ?_
                refine lv_iload_n hx hb dX7_arc_99 rfl (lv_at hl 2 rfl) ?_
                obtain ⟨r_16, ec17, h⟩ := bnd1_some h
                refine g_callVr [.int p1, .int p2] [] 25 X hT hG ml_X7_178 (c_X2_leadsUp hq ec17) rfl rfl rfl rfl rfl hl.1 (Nat.le_of_ble_eq_true rfl) (by rw [hR]; exact ⟨Nat.le_of_ble_eq_true rfl, Nat.le_of_ble_eq_true rfl⟩) dX7_arc_100 (fun H locs hG => ?_)
                obtain ⟨y_18, er19, h⟩ := bnd1_some h
                have J19 : ∀ (H : Heap) (locs : List Loc) (ls : Array Slot), GH D cI cZ layB q s ([iReadings, iAlterations, iRankings, iLetters, iCurrent, iDue, iSize, iLsize], [], [gCosts, gWorths, gMiddles, gApart, gApartWithout, gNeeded, gUps, gDowns, gKeys, gNexts, gShutKeys, aCodes, aPbegins, aPends, aPlengths, aBegins, aEnds, aLengths, aRanks, aRoadsByRank, aRow, aRanksBefore, aBusy, aOpen, aShut]) H locs → lv_has ls 4 [] → W p l e R s m args below meth c H locs 0 0 Q (F0 m 111 ls [.int y_18]) := by
                  intro H locs ls hG hl
                  cases h
                  rw [hQ]
                  exact g_iret X hT hG hr hlk dX7_arc_111
                refine lv_if_eq (tgt := 110) hx hb dX7_arc_103 (by decide) (fun cb20 => ?_) (fun cb20 => ?_)
                · have er19 := ite_t cb20 er19
                  refine lv_iconst (v := 0) hx hb dX7_arc_110 (by decide) ?_
                  cases er19
                  exact J19 H locs ls hG (lv_sub hl [] rfl)
                · have er19 := ite_f cb20 er19
                  refine lv_iconst (v := 1) hx hb dX7_arc_106 (by decide) ?_
                  refine lv_goto (tgt := 111) hx hb dX7_arc_107 (by decide) ?_
                  cases er19
                  exact J19 H locs ls hG (lv_sub hl [] rfl)
              · have h := ite_f cs15 h
                refine lv_tableOut hx hb dX7_arc_42 (sw_out (n := 3) (Nat.le_of_ble_eq_true rfl) (fun k hk => by match k, hk with | 0, _ => exact cs9 | 1, _ => exact cs12 | 2, _ => exact cs15 | k + 3, hk => omega)) (tgt := 112) (by decide) ?_
                refine lv_aload_n hx hb dX7_arc_112 rfl (lv_at hl 0 rfl) ?_
                refine g_get (v := .ref (q 25)) X hT hG fl_X7_26 22 rfl rfl rfl dX7_arc_113 ?_
                refine lv_iload_n hx hb dX7_arc_116 rfl (lv_at hl 1 rfl) ?_
                refine lv_iload_n hx hb dX7_arc_117 rfl (lv_at hl 2 rfl) ?_
                obtain ⟨r_21, aRow_22, ec23, h⟩ := bnd2_some h
                refine g_callVr [.int p1, .int p2] [] 25 X hT hG ml_X7_181 (c_X2_unpack hq ec23) rfl rfl rfl rfl rfl hl.1 (Nat.le_of_ble_eq_true rfl) (by rw [hR]; exact ⟨Nat.le_of_ble_eq_true rfl, Nat.le_of_ble_eq_true rfl⟩) dX7_arc_118 (fun H locs hG => ?_)
                have hG : GH D cI cZ layB q s ([iReadings, iAlterations, iRankings, iLetters, iCurrent, iDue, iSize, iLsize], [], [gCosts, gWorths, gMiddles, gApart, gApartWithout, gNeeded, gUps, gDowns, gKeys, gNexts, gShutKeys, aCodes, aPbegins, aPends, aPlengths, aBegins, aEnds, aLengths, aRanks, aRoadsByRank, aRow_22, aRanksBefore, aBusy, aOpen, aShut]) H locs := hG
                cases h
                rw [hQ]
                exact g_iret X hT hG hr hlk dX7_arc_121
        · have h := ite_t cb8 h
          refine lv_iconst (v := (-1)) hx hb dX7_arc_39 (by decide) ?_
          cases h
          rw [hQ]
          exact g_iret X hT hG hr hlk dX7_arc_40
      · have h := ite_f cb5 h
        refine lv_bipush (v := (-102)) hx hb dX7_arc_24 (by decide) ?_
        cases h
        rw [hQ]
        exact g_iret X hT hG hr hlk dX7_arc_26
  · have h := ite_t cb3 h
    refine lv_bipush (v := (-101)) hx hb dX7_arc_12 (by decide) ?_
    cases h
    rw [hQ]
    exact g_iret X hT hG hr hlk dX7_arc_14
def f7_unpacked (fu : Nat) (p1 : Int32) (iSize : Int32) (p2 : Int32) (aRow : (Nat → Int32)) (gWorths : (Nat → Int32)) (gMiddles : (Nat → Int32)) (p3 : Int32) : Option (Int32 × (Nat → Int32)) :=
  bnd1 (f3_hasBoth p1 iSize p2) fun (r_1 : Int32) => if r_1 = 0 then (some ((-101), aRow)) else bnd1 (f2_hasArc p1 p2 gWorths) fun (r_4 : Int32) => if r_4 = 0 then (some ((-1), aRow)) else bnd2 (f2_unpack fu aRow p1 p2 gMiddles) fun (r_7 : Int32) (aRow_8 : (Nat → Int32)) => bnd1 (if p3 < 0 then (some (-1)) else if r_7 ≤ p3 then (some (-1)) else ckin p3 12 (some (aRow_8 p3.toNatClampNeg))) fun (y_10 : Int32) => some (y_10, aRow_8)
set_option maxHeartbeats 4000000 in
set_option maxRecDepth 100000 in
theorem c_X7_unpacked (hq : gJ layB q) {fu : Nat} {p1 : Int32} {p2 : Int32} {p3 : Int32} {o_r : Int32} {o_aRow : (Nat → Int32)} (h : f7_unpacked fu p1 iSize p2 aRow gWorths gMiddles p3 = some (o_r, o_aRow)) :
    GM l yX7_unpacked cX7_unpacked 5 (some .int) 2 50 D cI cZ layB q [.ref (q 22), .int p1, .int p2, .int p3] ([iReadings, iAlterations, iRankings, iLetters, iCurrent, iDue, iSize, iLsize], [], [gCosts, gWorths, gMiddles, gApart, gApartWithout, gNeeded, gUps, gDowns, gKeys, gNexts, gShutKeys, aCodes, aPbegins, aPends, aPlengths, aBegins, aEnds, aLengths, aRanks, aRoadsByRank, aRow, aRanksBefore, aBusy, aOpen, aShut]) (some (.int o_r)) ([iReadings, iAlterations, iRankings, iLetters, iCurrent, iDue, iSize, iLsize], [], [gCosts, gWorths, gMiddles, gApart, gApartWithout, gNeeded, gUps, gDowns, gKeys, gNexts, gShutKeys, aCodes, aPbegins, aPends, aPlengths, aBegins, aEnds, aLengths, aRanks, aRoadsByRank, o_aRow, aRanksBefore, aBusy, aOpen, aShut]) := by
  refine GM.go RX7 (by decide) rfl (Nat.le_of_ble_eq_true rfl) ?_
  intro p e s m args below meth c ls R Q H locs X hr hlk hT hG hl hR hQ
  have hx := X.1
  have hb := X.2.1
  have hl : lv_has ls 5 [(0, .ref (q 22)), (1, .int p1), (2, .int p2), (3, .int p3)] := hl
  unfold f7_unpacked at h
  refine lv_aload_n hx hb dX7_unpacked_0 rfl (lv_at hl 0 rfl) ?_
  refine g_get (v := .ref (q 24)) X hT hG fl_X7_19 22 rfl rfl rfl dX7_unpacked_1 ?_
  refine lv_iload_n hx hb dX7_unpacked_4 rfl (lv_at hl 1 rfl) ?_
  refine lv_iload_n hx hb dX7_unpacked_5 rfl (lv_at hl 2 rfl) ?_
  obtain ⟨r_1, ec2, h⟩ := bnd1_some h
  refine g_callVr [.int p1, .int p2] [] 24 X hT hG ml_X7_95 (c_X3_hasBoth hq ec2) rfl rfl rfl rfl rfl hl.1 (Nat.le_of_ble_eq_true rfl) (by rw [hR]; exact ⟨Nat.le_of_ble_eq_true rfl, Nat.le_of_ble_eq_true rfl⟩) dX7_unpacked_6 (fun H locs hG => ?_)
  refine lv_if_ne (tgt := 15) hx hb dX7_unpacked_9 (by decide) (fun cb3 => ?_) (fun cb3 => ?_)
  · have h := ite_f cb3 h
    refine lv_aload_n hx hb dX7_unpacked_15 rfl (lv_at hl 0 rfl) ?_
    refine g_get (v := .ref (q 25)) X hT hG fl_X7_26 22 rfl rfl rfl dX7_unpacked_16 ?_
    refine lv_iload_n hx hb dX7_unpacked_19 rfl (lv_at hl 1 rfl) ?_
    refine lv_iload_n hx hb dX7_unpacked_20 rfl (lv_at hl 2 rfl) ?_
    obtain ⟨r_4, ec5, h⟩ := bnd1_some h
    refine g_callVr [.int p1, .int p2] [] 25 X hT hG ml_X7_169 (c_X2_hasArc hq ec5) rfl rfl rfl rfl rfl hl.1 (Nat.le_of_ble_eq_true rfl) (by rw [hR]; exact ⟨Nat.le_of_ble_eq_true rfl, Nat.le_of_ble_eq_true rfl⟩) dX7_unpacked_21 (fun H locs hG => ?_)
    refine lv_if_ne (tgt := 29) hx hb dX7_unpacked_24 (by decide) (fun cb6 => ?_) (fun cb6 => ?_)
    · have h := ite_f cb6 h
      refine lv_aload_n hx hb dX7_unpacked_29 rfl (lv_at hl 0 rfl) ?_
      refine g_get (v := .ref (q 25)) X hT hG fl_X7_26 22 rfl rfl rfl dX7_unpacked_30 ?_
      refine lv_iload_n hx hb dX7_unpacked_33 rfl (lv_at hl 1 rfl) ?_
      refine lv_iload_n hx hb dX7_unpacked_34 rfl (lv_at hl 2 rfl) ?_
      obtain ⟨r_7, aRow_8, ec9, h⟩ := bnd2_some h
      refine g_callVr [.int p1, .int p2] [] 25 X hT hG ml_X7_181 (c_X2_unpack hq ec9) rfl rfl rfl rfl rfl hl.1 (Nat.le_of_ble_eq_true rfl) (by rw [hR]; exact ⟨Nat.le_of_ble_eq_true rfl, Nat.le_of_ble_eq_true rfl⟩) dX7_unpacked_35 (fun H locs hG => ?_)
      have hG : GH D cI cZ layB q s ([iReadings, iAlterations, iRankings, iLetters, iCurrent, iDue, iSize, iLsize], [], [gCosts, gWorths, gMiddles, gApart, gApartWithout, gNeeded, gUps, gDowns, gKeys, gNexts, gShutKeys, aCodes, aPbegins, aPends, aPlengths, aBegins, aEnds, aLengths, aRanks, aRoadsByRank, aRow_8, aRanksBefore, aBusy, aOpen, aShut]) H locs := hG
      refine lv_istore (lv' := [(4, .int r_7), (0, .ref (q 22)), (1, .int p1), (2, .int p2), (3, .int p3)]) hx hb dX7_unpacked_38 hl (by decide) rfl (fun ls hl => ?_)
      refine lv_iload_n hx hb dX7_unpacked_40 rfl (lv_at hl 4 rfl) ?_
      obtain ⟨y_10, er11, h⟩ := bnd1_some h
      have J11 : ∀ (H : Heap) (locs : List Loc) (ls : Array Slot), GH D cI cZ layB q s ([iReadings, iAlterations, iRankings, iLetters, iCurrent, iDue, iSize, iLsize], [], [gCosts, gWorths, gMiddles, gApart, gApartWithout, gNeeded, gUps, gDowns, gKeys, gNexts, gShutKeys, aCodes, aPbegins, aPends, aPlengths, aBegins, aEnds, aLengths, aRanks, aRoadsByRank, aRow_8, aRanksBefore, aBusy, aOpen, aShut]) H locs → lv_has ls 5 [] → W p l e R s m args below meth c H locs 0 0 Q (F0 m 63 ls [.int y_10]) := by
        intro H locs ls hG hl
        cases h
        rw [hQ]
        exact g_iret X hT hG hr hlk dX7_unpacked_63
      refine lv_if_lt (tgt := 62) hx hb dX7_unpacked_41 (by decide) (fun cb12 => ?_) (fun cb12 => ?_)
      · have er11 := ite_t cb12 er11
        refine lv_iconst (v := (-1)) hx hb dX7_unpacked_62 (by decide) ?_
        cases er11
        exact J11 H locs ls hG (lv_sub hl [] rfl)
      · have er11 := ite_f cb12 er11
        refine lv_iload_n hx hb dX7_unpacked_44 rfl (lv_at hl 4 rfl) ?_
        refine lv_iload hx hb dX7_unpacked_45 (lv_at hl 0 rfl) ?_
        refine lv_icmp_ge (tgt := 62) hx hb dX7_unpacked_47 (by decide) (fun cb13 => ?_) (fun cb13 => ?_)
        · have er11 := ite_t cb13 er11
          refine lv_iconst (v := (-1)) hx hb dX7_unpacked_62 (by decide) ?_
          cases er11
          exact J11 H locs ls hG (lv_sub hl [] rfl)
        · have er11 := ite_f cb13 er11
          refine lv_aload_n hx hb dX7_unpacked_50 rfl (lv_at hl 1 rfl) ?_
          refine g_get (v := .ref (q 25)) X hT hG fl_X7_26 22 rfl rfl rfl dX7_unpacked_51 ?_
          refine g_get (v := .ref (q 38)) X hT hG fl_X7_184 25 rfl rfl rfl dX7_unpacked_54 ?_
          refine lv_iload_n hx hb dX7_unpacked_57 rfl (lv_at hl 4 rfl) ?_
          obtain ⟨hi14, er11⟩ := ckin_some er11
          refine g_ald (f := aRow_8) X hT hG 38 rfl rfl hi14 dX7_unpacked_58 ?_
          refine lv_goto (tgt := 63) hx hb dX7_unpacked_59 (by decide) ?_
          cases er11
          exact J11 H locs ls hG (lv_sub hl [] rfl)
    · have h := ite_t cb6 h
      refine lv_iconst (v := (-1)) hx hb dX7_unpacked_27 (by decide) ?_
      cases h
      rw [hQ]
      exact g_iret X hT hG hr hlk dX7_unpacked_28
  · have h := ite_t cb3 h
    refine lv_bipush (v := (-101)) hx hb dX7_unpacked_12 (by decide) ?_
    cases h
    rw [hQ]
    exact g_iret X hT hG hr hlk dX7_unpacked_14
def f7_orNone (p1 : Int32) : Option (Int32) :=
  bnd1 (if p1 < 268435456 then (some p1) else some (-1)) fun (y_1 : Int32) => some y_1
set_option maxHeartbeats 4000000 in
set_option maxRecDepth 100000 in
theorem c_X7_orNone (hq : gJ layB q) {p1 : Int32} {o_r : Int32} (h : f7_orNone p1 = some o_r) :
    GM l yX7_orNone cX7_orNone 1 (some .int) 0 0 D cI cZ layB q [.int p1] ([iReadings, iAlterations, iRankings, iLetters, iCurrent, iDue, iSize, iLsize], [], [gCosts, gWorths, gMiddles, gApart, gApartWithout, gNeeded, gUps, gDowns, gKeys, gNexts, gShutKeys, aCodes, aPbegins, aPends, aPlengths, aBegins, aEnds, aLengths, aRanks, aRoadsByRank, aRow, aRanksBefore, aBusy, aOpen, aShut]) (some (.int o_r)) ([iReadings, iAlterations, iRankings, iLetters, iCurrent, iDue, iSize, iLsize], [], [gCosts, gWorths, gMiddles, gApart, gApartWithout, gNeeded, gUps, gDowns, gKeys, gNexts, gShutKeys, aCodes, aPbegins, aPends, aPlengths, aBegins, aEnds, aLengths, aRanks, aRoadsByRank, aRow, aRanksBefore, aBusy, aOpen, aShut]) := by
  refine GM.go RX7 (by decide) rfl (Nat.le_of_ble_eq_true rfl) ?_
  intro p e s m args below meth c ls R Q H locs X hr hlk hT hG hl hR hQ
  have hx := X.1
  have hb := X.2.1
  have hl : lv_has ls 1 [(0, .int p1)] := hl
  unfold f7_orNone at h
  refine lv_iload_n hx hb dX7_orNone_0 rfl (lv_at hl 0 rfl) ?_
  refine lv_ldcw (v := 268435456) hx hb X.2.2.2.1 (X.2.2.2.2 _ cn_X7_287) dX7_orNone_1 ?_
  obtain ⟨y_1, er2, h⟩ := bnd1_some h
  have J2 : ∀ (H : Heap) (locs : List Loc) (ls : Array Slot), GH D cI cZ layB q s ([iReadings, iAlterations, iRankings, iLetters, iCurrent, iDue, iSize, iLsize], [], [gCosts, gWorths, gMiddles, gApart, gApartWithout, gNeeded, gUps, gDowns, gKeys, gNexts, gShutKeys, aCodes, aPbegins, aPends, aPlengths, aBegins, aEnds, aLengths, aRanks, aRoadsByRank, aRow, aRanksBefore, aBusy, aOpen, aShut]) H locs → lv_has ls 1 [] → W p l e R s m args below meth c H locs 0 0 Q (F0 m 12 ls [.int y_1]) := by
    intro H locs ls hG hl
    cases h
    rw [hQ]
    exact g_iret X hT hG hr hlk dX7_orNone_12
  refine lv_icmp_lt (tgt := 11) hx hb dX7_orNone_4 (by decide) (fun cb3 => ?_) (fun cb3 => ?_)
  · have er2 := ite_t cb3 er2
    refine lv_iload_n hx hb dX7_orNone_11 rfl (lv_at hl 0 rfl) ?_
    cases er2
    exact J2 H locs ls hG (lv_sub hl [] rfl)
  · have er2 := ite_f cb3 er2
    refine lv_iconst (v := (-1)) hx hb dX7_orNone_7 (by decide) ?_
    refine lv_goto (tgt := 12) hx hb dX7_orNone_8 (by decide) ?_
    cases er2
    exact J2 H locs ls hG (lv_sub hl [] rfl)
def f7_up (p1 : Int32) (iSize : Int32) (p2 : Int32) (gUps : (Nat → Int32)) : Option (Int32) :=
  bnd1 (f3_hasBoth p1 iSize p2) fun (r_1 : Int32) => bnd1 (if r_1 = 0 then (some (-101)) else bnd1 (f1_get p1 p2 gUps) fun (r_6 : Int32) => bnd1 (f7_orNone r_6) fun (r_8 : Int32) => some r_8) fun (y_3 : Int32) => some y_3
set_option maxHeartbeats 4000000 in
set_option maxRecDepth 100000 in
theorem c_X7_up (hq : gJ layB q) {p1 : Int32} {p2 : Int32} {o_r : Int32} (h : f7_up p1 iSize p2 gUps = some o_r) :
    GM l yX7_up cX7_up 3 (some .int) 2 43 D cI cZ layB q [.ref (q 22), .int p1, .int p2] ([iReadings, iAlterations, iRankings, iLetters, iCurrent, iDue, iSize, iLsize], [], [gCosts, gWorths, gMiddles, gApart, gApartWithout, gNeeded, gUps, gDowns, gKeys, gNexts, gShutKeys, aCodes, aPbegins, aPends, aPlengths, aBegins, aEnds, aLengths, aRanks, aRoadsByRank, aRow, aRanksBefore, aBusy, aOpen, aShut]) (some (.int o_r)) ([iReadings, iAlterations, iRankings, iLetters, iCurrent, iDue, iSize, iLsize], [], [gCosts, gWorths, gMiddles, gApart, gApartWithout, gNeeded, gUps, gDowns, gKeys, gNexts, gShutKeys, aCodes, aPbegins, aPends, aPlengths, aBegins, aEnds, aLengths, aRanks, aRoadsByRank, aRow, aRanksBefore, aBusy, aOpen, aShut]) := by
  refine GM.go RX7 (by decide) rfl (Nat.le_of_ble_eq_true rfl) ?_
  intro p e s m args below meth c ls R Q H locs X hr hlk hT hG hl hR hQ
  have hx := X.1
  have hb := X.2.1
  have hl : lv_has ls 3 [(0, .ref (q 22)), (1, .int p1), (2, .int p2)] := hl
  unfold f7_up at h
  refine lv_aload_n hx hb dX7_up_0 rfl (lv_at hl 0 rfl) ?_
  refine g_get (v := .ref (q 24)) X hT hG fl_X7_19 22 rfl rfl rfl dX7_up_1 ?_
  refine lv_iload_n hx hb dX7_up_4 rfl (lv_at hl 1 rfl) ?_
  refine lv_iload_n hx hb dX7_up_5 rfl (lv_at hl 2 rfl) ?_
  obtain ⟨r_1, ec2, h⟩ := bnd1_some h
  refine g_callVr [.int p1, .int p2] [] 24 X hT hG ml_X7_95 (c_X3_hasBoth hq ec2) rfl rfl rfl rfl rfl hl.1 (Nat.le_of_ble_eq_true rfl) (by rw [hR]; exact ⟨Nat.le_of_ble_eq_true rfl, Nat.le_of_ble_eq_true rfl⟩) dX7_up_6 (fun H locs hG => ?_)
  obtain ⟨y_3, er4, h⟩ := bnd1_some h
  have J4 : ∀ (H : Heap) (locs : List Loc) (ls : Array Slot), GH D cI cZ layB q s ([iReadings, iAlterations, iRankings, iLetters, iCurrent, iDue, iSize, iLsize], [], [gCosts, gWorths, gMiddles, gApart, gApartWithout, gNeeded, gUps, gDowns, gKeys, gNexts, gShutKeys, aCodes, aPbegins, aPends, aPlengths, aBegins, aEnds, aLengths, aRanks, aRoadsByRank, aRow, aRanksBefore, aBusy, aOpen, aShut]) H locs → lv_has ls 3 [] → W p l e R s m args below meth c H locs 0 0 Q (F0 m 32 ls [.int y_3]) := by
    intro H locs ls hG hl
    cases h
    rw [hQ]
    exact g_iret X hT hG hr hlk dX7_up_32
  refine lv_if_eq (tgt := 30) hx hb dX7_up_9 (by decide) (fun cb5 => ?_) (fun cb5 => ?_)
  · have er4 := ite_t cb5 er4
    refine lv_bipush (v := (-101)) hx hb dX7_up_30 (by decide) ?_
    cases er4
    exact J4 H locs ls hG (lv_sub hl [] rfl)
  · have er4 := ite_f cb5 er4
    refine lv_aload_n hx hb dX7_up_12 rfl (lv_at hl 0 rfl) ?_
    refine g_get (v := .ref (q 26)) X hT hG fl_X7_33 22 rfl rfl rfl dX7_up_13 ?_
    refine g_get (v := .ref (q 6)) X hT hG fl_X7_187 26 rfl rfl rfl dX7_up_16 ?_
    refine lv_iload_n hx hb dX7_up_19 rfl (lv_at hl 1 rfl) ?_
    refine lv_iload_n hx hb dX7_up_20 rfl (lv_at hl 2 rfl) ?_
    obtain ⟨r_6, ec7, er4⟩ := bnd1_some er4
    refine g_callVr [.int p1, .int p2] [] 6 X hT hG ml_X7_106 (c_X1_get_6 hq ec7) rfl rfl rfl rfl rfl hl.1 (Nat.le_of_ble_eq_true rfl) (by rw [hR]; exact ⟨Nat.le_of_ble_eq_true rfl, Nat.le_of_ble_eq_true rfl⟩) dX7_up_21 (fun H locs hG => ?_)
    obtain ⟨r_8, ec9, er4⟩ := bnd1_some er4
    refine g_callSr [.int r_6] [] X hT hG ml_X7_190 (c_X7_orNone hq ec9) rfl rfl hl.1 (Nat.le_of_ble_eq_true rfl) (by rw [hR]; exact ⟨Nat.le_of_ble_eq_true rfl, Nat.le_of_ble_eq_true rfl⟩) dX7_up_24 (fun H locs hG => ?_)
    refine lv_goto (tgt := 32) hx hb dX7_up_27 (by decide) ?_
    cases er4
    exact J4 H locs ls hG (lv_sub hl [] rfl)
def f7_down (p1 : Int32) (iSize : Int32) (p2 : Int32) (gDowns : (Nat → Int32)) : Option (Int32) :=
  bnd1 (f3_hasBoth p1 iSize p2) fun (r_1 : Int32) => bnd1 (if r_1 = 0 then (some (-101)) else bnd1 (f1_get p1 p2 gDowns) fun (r_6 : Int32) => bnd1 (f7_orNone r_6) fun (r_8 : Int32) => some r_8) fun (y_3 : Int32) => some y_3
set_option maxHeartbeats 4000000 in
set_option maxRecDepth 100000 in
theorem c_X7_down (hq : gJ layB q) {p1 : Int32} {p2 : Int32} {o_r : Int32} (h : f7_down p1 iSize p2 gDowns = some o_r) :
    GM l yX7_down cX7_down 3 (some .int) 2 43 D cI cZ layB q [.ref (q 22), .int p1, .int p2] ([iReadings, iAlterations, iRankings, iLetters, iCurrent, iDue, iSize, iLsize], [], [gCosts, gWorths, gMiddles, gApart, gApartWithout, gNeeded, gUps, gDowns, gKeys, gNexts, gShutKeys, aCodes, aPbegins, aPends, aPlengths, aBegins, aEnds, aLengths, aRanks, aRoadsByRank, aRow, aRanksBefore, aBusy, aOpen, aShut]) (some (.int o_r)) ([iReadings, iAlterations, iRankings, iLetters, iCurrent, iDue, iSize, iLsize], [], [gCosts, gWorths, gMiddles, gApart, gApartWithout, gNeeded, gUps, gDowns, gKeys, gNexts, gShutKeys, aCodes, aPbegins, aPends, aPlengths, aBegins, aEnds, aLengths, aRanks, aRoadsByRank, aRow, aRanksBefore, aBusy, aOpen, aShut]) := by
  refine GM.go RX7 (by decide) rfl (Nat.le_of_ble_eq_true rfl) ?_
  intro p e s m args below meth c ls R Q H locs X hr hlk hT hG hl hR hQ
  have hx := X.1
  have hb := X.2.1
  have hl : lv_has ls 3 [(0, .ref (q 22)), (1, .int p1), (2, .int p2)] := hl
  unfold f7_down at h
  refine lv_aload_n hx hb dX7_down_0 rfl (lv_at hl 0 rfl) ?_
  refine g_get (v := .ref (q 24)) X hT hG fl_X7_19 22 rfl rfl rfl dX7_down_1 ?_
  refine lv_iload_n hx hb dX7_down_4 rfl (lv_at hl 1 rfl) ?_
  refine lv_iload_n hx hb dX7_down_5 rfl (lv_at hl 2 rfl) ?_
  obtain ⟨r_1, ec2, h⟩ := bnd1_some h
  refine g_callVr [.int p1, .int p2] [] 24 X hT hG ml_X7_95 (c_X3_hasBoth hq ec2) rfl rfl rfl rfl rfl hl.1 (Nat.le_of_ble_eq_true rfl) (by rw [hR]; exact ⟨Nat.le_of_ble_eq_true rfl, Nat.le_of_ble_eq_true rfl⟩) dX7_down_6 (fun H locs hG => ?_)
  obtain ⟨y_3, er4, h⟩ := bnd1_some h
  have J4 : ∀ (H : Heap) (locs : List Loc) (ls : Array Slot), GH D cI cZ layB q s ([iReadings, iAlterations, iRankings, iLetters, iCurrent, iDue, iSize, iLsize], [], [gCosts, gWorths, gMiddles, gApart, gApartWithout, gNeeded, gUps, gDowns, gKeys, gNexts, gShutKeys, aCodes, aPbegins, aPends, aPlengths, aBegins, aEnds, aLengths, aRanks, aRoadsByRank, aRow, aRanksBefore, aBusy, aOpen, aShut]) H locs → lv_has ls 3 [] → W p l e R s m args below meth c H locs 0 0 Q (F0 m 32 ls [.int y_3]) := by
    intro H locs ls hG hl
    cases h
    rw [hQ]
    exact g_iret X hT hG hr hlk dX7_down_32
  refine lv_if_eq (tgt := 30) hx hb dX7_down_9 (by decide) (fun cb5 => ?_) (fun cb5 => ?_)
  · have er4 := ite_t cb5 er4
    refine lv_bipush (v := (-101)) hx hb dX7_down_30 (by decide) ?_
    cases er4
    exact J4 H locs ls hG (lv_sub hl [] rfl)
  · have er4 := ite_f cb5 er4
    refine lv_aload_n hx hb dX7_down_12 rfl (lv_at hl 0 rfl) ?_
    refine g_get (v := .ref (q 26)) X hT hG fl_X7_33 22 rfl rfl rfl dX7_down_13 ?_
    refine g_get (v := .ref (q 7)) X hT hG fl_X7_193 26 rfl rfl rfl dX7_down_16 ?_
    refine lv_iload_n hx hb dX7_down_19 rfl (lv_at hl 1 rfl) ?_
    refine lv_iload_n hx hb dX7_down_20 rfl (lv_at hl 2 rfl) ?_
    obtain ⟨r_6, ec7, er4⟩ := bnd1_some er4
    refine g_callVr [.int p1, .int p2] [] 7 X hT hG ml_X7_106 (c_X1_get_7 hq ec7) rfl rfl rfl rfl rfl hl.1 (Nat.le_of_ble_eq_true rfl) (by rw [hR]; exact ⟨Nat.le_of_ble_eq_true rfl, Nat.le_of_ble_eq_true rfl⟩) dX7_down_21 (fun H locs hG => ?_)
    obtain ⟨r_8, ec9, er4⟩ := bnd1_some er4
    refine g_callSr [.int r_6] [] X hT hG ml_X7_190 (c_X7_orNone hq ec9) rfl rfl hl.1 (Nat.le_of_ble_eq_true rfl) (by rw [hR]; exact ⟨Nat.le_of_ble_eq_true rfl, Nat.le_of_ble_eq_true rfl⟩) dX7_down_24 (fun H locs hG => ?_)
    refine lv_goto (tgt := 32) hx hb dX7_down_27 (by decide) ?_
    cases er4
    exact J4 H locs ls hG (lv_sub hl [] rfl)
def f0_meeting_b1 (p3 : Int32) (p1 : Int32) (gUps : (Nat → Int32)) (p2 : Int32) (gDowns : (Nat → Int32)) (x4_1 : Int32) (x5_2 : Int32) (x6_3 : Int32) : Option ((Int32 × Int32 × Int32) ⊕ (Int32)) :=
  if p3 ≤ x6_3 then (some (.inr x4_1)) else bnd1 (f1_get p1 x6_3 gUps) fun (r_7 : Int32) => bnd1 (f1_get x6_3 p2 gDowns) fun (r_9 : Int32) => bd ((r_7 + r_9)) fun x7_11 => bnd2 (if x5_2 ≤ x7_11 then (some (x4_1, x5_2)) else some (x6_3, x7_11)) fun (x4_12 : Int32) (x5_13 : Int32) => bd (x6_3 + 1) fun x6_16 => some (.inl (x4_12, x5_13, x6_16))
def f0_meeting (fu : Nat) (p3 : Int32) (p1 : Int32) (gUps : (Nat → Int32)) (p2 : Int32) (gDowns : (Nat → Int32)) : Option (Int32) :=
  bnd1 (lpG (fun z => f0_meeting_b1 p3 p1 gUps p2 gDowns z.1 z.2.1 z.2.2) fu (((-1) : Int32), (268435456 : Int32), (0 : Int32))) fun (x4_4 : Int32) => some x4_4
set_option maxHeartbeats 4000000 in
set_option maxRecDepth 100000 in
theorem c_X0_meeting (hq : gJ layB q) {fu : Nat} {p1 : Int32} {p2 : Int32} {p3 : Int32} {o_r : Int32} (h : f0_meeting fu p3 p1 gUps p2 gDowns = some o_r) :
    GM l yX0_meeting cX0_meeting 8 (some .int) 1 22 D cI cZ layB q [.ref (q 26), .int p1, .int p2, .int p3] ([iReadings, iAlterations, iRankings, iLetters, iCurrent, iDue, iSize, iLsize], [], [gCosts, gWorths, gMiddles, gApart, gApartWithout, gNeeded, gUps, gDowns, gKeys, gNexts, gShutKeys, aCodes, aPbegins, aPends, aPlengths, aBegins, aEnds, aLengths, aRanks, aRoadsByRank, aRow, aRanksBefore, aBusy, aOpen, aShut]) (some (.int o_r)) ([iReadings, iAlterations, iRankings, iLetters, iCurrent, iDue, iSize, iLsize], [], [gCosts, gWorths, gMiddles, gApart, gApartWithout, gNeeded, gUps, gDowns, gKeys, gNexts, gShutKeys, aCodes, aPbegins, aPends, aPlengths, aBegins, aEnds, aLengths, aRanks, aRoadsByRank, aRow, aRanksBefore, aBusy, aOpen, aShut]) := by
  refine GM.go RX0 (by decide) rfl (Nat.le_of_ble_eq_true rfl) ?_
  intro p e s m args below meth c ls R Q H locs X hr hlk hT hG hl hR hQ
  have hx := X.1
  have hb := X.2.1
  have hl : lv_has ls 8 [(0, .ref (q 26)), (1, .int p1), (2, .int p2), (3, .int p3)] := hl
  unfold f0_meeting at h
  refine lv_iconst (v := (-1)) hx hb dX0_meeting_0 (by decide) ?_
  refine lv_istore (lv' := [(4, .int (-1)), (0, .ref (q 26)), (1, .int p1), (2, .int p2), (3, .int p3)]) hx hb dX0_meeting_1 hl (by decide) rfl (fun ls hl => ?_)
  refine lv_ldc (v := 268435456) hx hb X.2.2.2.1 (X.2.2.2.2 _ cn_X0_38) dX0_meeting_3 ?_
  refine lv_istore (lv' := [(5, .int 268435456), (4, .int (-1)), (0, .ref (q 26)), (1, .int p1), (2, .int p2), (3, .int p3)]) hx hb dX0_meeting_5 hl (by decide) rfl (fun ls hl => ?_)
  refine lv_iconst (v := 0) hx hb dX0_meeting_7 (by decide) ?_
  refine lv_istore (lv' := [(6, .int 0), (5, .int 268435456), (4, .int (-1)), (0, .ref (q 26)), (1, .int p1), (2, .int p2), (3, .int p3)]) hx hb dX0_meeting_8 hl (by decide) rfl (fun ls hl => ?_)
  obtain ⟨x4_4, eL5, h⟩ := bnd1_some h
  have JX5 : ∀ (H : Heap) (locs : List Loc) (ls : Array Slot), GH D cI cZ layB q s ([iReadings, iAlterations, iRankings, iLetters, iCurrent, iDue, iSize, iLsize], [], [gCosts, gWorths, gMiddles, gApart, gApartWithout, gNeeded, gUps, gDowns, gKeys, gNexts, gShutKeys, aCodes, aPbegins, aPends, aPlengths, aBegins, aEnds, aLengths, aRanks, aRoadsByRank, aRow, aRanksBefore, aBusy, aOpen, aShut]) H locs → lv_has ls 8 [(4, .int x4_4)] → W p l e R s m args below meth c H locs 0 0 Q (F0 m 60 ls []) := by
    intro H locs ls hG hl
    refine lv_iload hx hb dX0_meeting_60 (lv_at hl 0 rfl) ?_
    cases h
    rw [hQ]
    exact g_iret X hT hG hr hlk dX0_meeting_62
  refine lpG_W (Wh := fun z => ∀ (H : Heap) (locs : List Loc) (ls : Array Slot), GH D cI cZ layB q s ([iReadings, iAlterations, iRankings, iLetters, iCurrent, iDue, iSize, iLsize], [], [gCosts, gWorths, gMiddles, gApart, gApartWithout, gNeeded, gUps, gDowns, gKeys, gNexts, gShutKeys, aCodes, aPbegins, aPends, aPlengths, aBegins, aEnds, aLengths, aRanks, aRoadsByRank, aRow, aRanksBefore, aBusy, aOpen, aShut]) H locs → lv_has ls 8 [(0, .ref (q 26)), (1, .int p1), (2, .int p2), (3, .int p3), (4, .int (z.1)), (5, .int (z.2.1)), (6, .int (z.2.2))] → W p l e R s m args below meth c H locs 0 0 Q (F0 m 10 ls [])) ?_ fu _ eL5 H locs ls hG (lv_sub hl [3, 4, 5, 6, 2, 1, 0] rfl)
  intro z rr5 hb5 hin5 hout5
  obtain ⟨x4_1, x5_2, x6_3⟩ := z
  intro H locs ls hG hl
  have hb5 : f0_meeting_b1 p3 p1 gUps p2 gDowns x4_1 x5_2 x6_3 = some rr5 := hb5
  have hG : GH D cI cZ layB q s ([iReadings, iAlterations, iRankings, iLetters, iCurrent, iDue, iSize, iLsize], [], [gCosts, gWorths, gMiddles, gApart, gApartWithout, gNeeded, gUps, gDowns, gKeys, gNexts, gShutKeys, aCodes, aPbegins, aPends, aPlengths, aBegins, aEnds, aLengths, aRanks, aRoadsByRank, aRow, aRanksBefore, aBusy, aOpen, aShut]) H locs := hG
  have hl : lv_has ls 8 [(0, .ref (q 26)), (1, .int p1), (2, .int p2), (3, .int p3), (4, .int x4_1), (5, .int x5_2), (6, .int x6_3)] := hl
  unfold f0_meeting_b1 at hb5
  refine lv_iload hx hb dX0_meeting_10 (lv_at hl 6 rfl) ?_
  refine lv_iload_n hx hb dX0_meeting_12 rfl (lv_at hl 3 rfl) ?_
  refine lv_icmp_ge (tgt := 60) hx hb dX0_meeting_13 (by decide) (fun cb6 => ?_) (fun cb6 => ?_)
  · have hb5 := ite_t cb6 hb5
    have eo := hout5 _ (Option.some.inj hb5).symm
    cases eo
    exact JX5 H locs ls hG (lv_sub hl [4] rfl)
  · have hb5 := ite_f cb6 hb5
    refine lv_aload_n hx hb dX0_meeting_16 rfl (lv_at hl 0 rfl) ?_
    refine g_get (v := .ref (q 6)) X hT hG fl_X0_12 26 rfl rfl rfl dX0_meeting_17 ?_
    refine lv_iload_n hx hb dX0_meeting_20 rfl (lv_at hl 1 rfl) ?_
    refine lv_iload hx hb dX0_meeting_21 (lv_at hl 6 rfl) ?_
    obtain ⟨r_7, ec8, hb5⟩ := bnd1_some hb5
    refine g_callVr [.int p1, .int x6_3] [] 6 X hT hG ml_X0_30 (c_X1_get_6 hq ec8) rfl rfl rfl rfl rfl hl.1 (Nat.le_of_ble_eq_true rfl) (by rw [hR]; exact ⟨Nat.le_of_ble_eq_true rfl, Nat.le_of_ble_eq_true rfl⟩) dX0_meeting_23 (fun H locs hG => ?_)
    refine lv_aload_n hx hb dX0_meeting_26 rfl (lv_at hl 0 rfl) ?_
    refine g_get (v := .ref (q 7)) X hT hG fl_X0_18 26 rfl rfl rfl dX0_meeting_27 ?_
    refine lv_iload hx hb dX0_meeting_30 (lv_at hl 6 rfl) ?_
    refine lv_iload_n hx hb dX0_meeting_32 rfl (lv_at hl 2 rfl) ?_
    obtain ⟨r_9, ec10, hb5⟩ := bnd1_some hb5
    refine g_callVr [.int x6_3, .int p2] [.int r_7] 7 X hT hG ml_X0_30 (c_X1_get_7 hq ec10) rfl rfl rfl rfl rfl hl.1 (Nat.le_of_ble_eq_true rfl) (by rw [hR]; exact ⟨Nat.le_of_ble_eq_true rfl, Nat.le_of_ble_eq_true rfl⟩) dX0_meeting_33 (fun H locs hG => ?_)
    refine lv_iadd hx hb dX0_meeting_36 ?_
    refine lv_topi (fun x7_11 ex7_11 => ?_)
    have hb5 := bd_e ex7_11 hb5
    refine lv_istore (lv' := [(7, .int x7_11), (0, .ref (q 26)), (1, .int p1), (2, .int p2), (3, .int p3), (4, .int x4_1), (5, .int x5_2), (6, .int x6_3)]) hx hb dX0_meeting_37 hl (by decide) rfl (fun ls hl => ?_)
    refine lv_iload hx hb dX0_meeting_39 (lv_at hl 0 rfl) ?_
    refine lv_iload hx hb dX0_meeting_41 (lv_at hl 6 rfl) ?_
    obtain ⟨x4_12, x5_13, er14, hb5⟩ := bnd2_some hb5
    have J14 : ∀ (H : Heap) (locs : List Loc) (ls : Array Slot), GH D cI cZ layB q s ([iReadings, iAlterations, iRankings, iLetters, iCurrent, iDue, iSize, iLsize], [], [gCosts, gWorths, gMiddles, gApart, gApartWithout, gNeeded, gUps, gDowns, gKeys, gNexts, gShutKeys, aCodes, aPbegins, aPends, aPlengths, aBegins, aEnds, aLengths, aRanks, aRoadsByRank, aRow, aRanksBefore, aBusy, aOpen, aShut]) H locs → lv_has ls 8 [(0, .ref (q 26)), (1, .int p1), (2, .int p2), (3, .int p3), (4, .int x4_12), (5, .int x5_13), (6, .int x6_3)] → W p l e R s m args below meth c H locs 0 0 Q (F0 m 54 ls []) := by
      intro H locs ls hG hl
      obtain ⟨x6_16, ex6_16⟩ : ∃ z : Int32, z = x6_3 + 1 := ⟨_, rfl⟩
      have hb5 := bd_e ex6_16 hb5
      refine lv_iinc (v := x6_16) (lv' := [(6, .int x6_16), (0, .ref (q 26)), (1, .int p1), (2, .int p2), (3, .int p3), (4, .int x4_12), (5, .int x5_13)]) hx hb dX0_meeting_54 hl (k := 6) rfl (by rw [ex6_16]; rfl) (by decide) rfl (fun ls hl => ?_)
      refine lv_goto (tgt := 10) hx hb dX0_meeting_57 (by decide) ?_
      exact hin5 _ (Option.some.inj hb5).symm H locs ls hG (lv_sub hl [1, 2, 3, 4, 5, 6, 0] rfl)
    refine lv_icmp_ge (tgt := 54) hx hb dX0_meeting_43 (by decide) (fun cb15 => ?_) (fun cb15 => ?_)
    · have er14 := ite_t cb15 er14
      cases er14
      exact J14 H locs ls hG (lv_sub hl [1, 2, 3, 4, 5, 6, 7] rfl)
    · have er14 := ite_f cb15 er14
      refine lv_iload hx hb dX0_meeting_46 (lv_at hl 7 rfl) ?_
      refine lv_istore (lv' := [(4, .int x6_3), (7, .int x7_11), (0, .ref (q 26)), (1, .int p1), (2, .int p2), (3, .int p3), (5, .int x5_2), (6, .int x6_3)]) hx hb dX0_meeting_48 hl (by decide) rfl (fun ls hl => ?_)
      refine lv_iload hx hb dX0_meeting_50 (lv_at hl 1 rfl) ?_
      refine lv_istore (lv' := [(5, .int x7_11), (4, .int x6_3), (7, .int x7_11), (0, .ref (q 26)), (1, .int p1), (2, .int p2), (3, .int p3), (6, .int x6_3)]) hx hb dX0_meeting_52 hl (by decide) rfl (fun ls hl => ?_)
      cases er14
      exact J14 H locs ls hG (lv_sub hl [3, 4, 5, 6, 1, 0, 7] rfl)
def f7_meet (fu : Nat) (p1 : Int32) (iSize : Int32) (p2 : Int32) (gUps : (Nat → Int32)) (gDowns : (Nat → Int32)) : Option (Int32) :=
  bnd1 (f3_hasBoth p1 iSize p2) fun (r_1 : Int32) => bnd1 (if r_1 = 0 then (some (-101)) else bnd1 (f0_meeting fu iSize p1 gUps p2 gDowns) fun (r_6 : Int32) => some r_6) fun (y_3 : Int32) => some y_3
set_option maxHeartbeats 4000000 in
set_option maxRecDepth 100000 in
theorem c_X7_meet (hq : gJ layB q) {fu : Nat} {p1 : Int32} {p2 : Int32} {o_r : Int32} (h : f7_meet fu p1 iSize p2 gUps gDowns = some o_r) :
    GM l yX7_meet cX7_meet 3 (some .int) 2 49 D cI cZ layB q [.ref (q 22), .int p1, .int p2] ([iReadings, iAlterations, iRankings, iLetters, iCurrent, iDue, iSize, iLsize], [], [gCosts, gWorths, gMiddles, gApart, gApartWithout, gNeeded, gUps, gDowns, gKeys, gNexts, gShutKeys, aCodes, aPbegins, aPends, aPlengths, aBegins, aEnds, aLengths, aRanks, aRoadsByRank, aRow, aRanksBefore, aBusy, aOpen, aShut]) (some (.int o_r)) ([iReadings, iAlterations, iRankings, iLetters, iCurrent, iDue, iSize, iLsize], [], [gCosts, gWorths, gMiddles, gApart, gApartWithout, gNeeded, gUps, gDowns, gKeys, gNexts, gShutKeys, aCodes, aPbegins, aPends, aPlengths, aBegins, aEnds, aLengths, aRanks, aRoadsByRank, aRow, aRanksBefore, aBusy, aOpen, aShut]) := by
  refine GM.go RX7 (by decide) rfl (Nat.le_of_ble_eq_true rfl) ?_
  intro p e s m args below meth c ls R Q H locs X hr hlk hT hG hl hR hQ
  have hx := X.1
  have hb := X.2.1
  have hl : lv_has ls 3 [(0, .ref (q 22)), (1, .int p1), (2, .int p2)] := hl
  unfold f7_meet at h
  refine lv_aload_n hx hb dX7_meet_0 rfl (lv_at hl 0 rfl) ?_
  refine g_get (v := .ref (q 24)) X hT hG fl_X7_19 22 rfl rfl rfl dX7_meet_1 ?_
  refine lv_iload_n hx hb dX7_meet_4 rfl (lv_at hl 1 rfl) ?_
  refine lv_iload_n hx hb dX7_meet_5 rfl (lv_at hl 2 rfl) ?_
  obtain ⟨r_1, ec2, h⟩ := bnd1_some h
  refine g_callVr [.int p1, .int p2] [] 24 X hT hG ml_X7_95 (c_X3_hasBoth hq ec2) rfl rfl rfl rfl rfl hl.1 (Nat.le_of_ble_eq_true rfl) (by rw [hR]; exact ⟨Nat.le_of_ble_eq_true rfl, Nat.le_of_ble_eq_true rfl⟩) dX7_meet_6 (fun H locs hG => ?_)
  obtain ⟨y_3, er4, h⟩ := bnd1_some h
  have J4 : ∀ (H : Heap) (locs : List Loc) (ls : Array Slot), GH D cI cZ layB q s ([iReadings, iAlterations, iRankings, iLetters, iCurrent, iDue, iSize, iLsize], [], [gCosts, gWorths, gMiddles, gApart, gApartWithout, gNeeded, gUps, gDowns, gKeys, gNexts, gShutKeys, aCodes, aPbegins, aPends, aPlengths, aBegins, aEnds, aLengths, aRanks, aRoadsByRank, aRow, aRanksBefore, aBusy, aOpen, aShut]) H locs → lv_has ls 3 [] → W p l e R s m args below meth c H locs 0 0 Q (F0 m 33 ls [.int y_3]) := by
    intro H locs ls hG hl
    cases h
    rw [hQ]
    exact g_iret X hT hG hr hlk dX7_meet_33
  refine lv_if_eq (tgt := 31) hx hb dX7_meet_9 (by decide) (fun cb5 => ?_) (fun cb5 => ?_)
  · have er4 := ite_t cb5 er4
    refine lv_bipush (v := (-101)) hx hb dX7_meet_31 (by decide) ?_
    cases er4
    exact J4 H locs ls hG (lv_sub hl [] rfl)
  · have er4 := ite_f cb5 er4
    refine lv_aload_n hx hb dX7_meet_12 rfl (lv_at hl 0 rfl) ?_
    refine g_get (v := .ref (q 26)) X hT hG fl_X7_33 22 rfl rfl rfl dX7_meet_13 ?_
    refine lv_iload_n hx hb dX7_meet_16 rfl (lv_at hl 1 rfl) ?_
    refine lv_iload_n hx hb dX7_meet_17 rfl (lv_at hl 2 rfl) ?_
    refine lv_aload_n hx hb dX7_meet_18 rfl (lv_at hl 0 rfl) ?_
    refine g_get (v := .ref (q 24)) X hT hG fl_X7_19 22 rfl rfl rfl dX7_meet_19 ?_
    refine g_get (v := .int iSize) X hT hG fl_X7_81 24 rfl rfl rfl dX7_meet_22 ?_
    obtain ⟨r_6, ec7, er4⟩ := bnd1_some er4
    refine g_callVr [.int p1, .int p2, .int iSize] [] 26 X hT hG ml_X7_196 (c_X0_meeting hq ec7) rfl rfl rfl rfl rfl hl.1 (Nat.le_of_ble_eq_true rfl) (by rw [hR]; exact ⟨Nat.le_of_ble_eq_true rfl, Nat.le_of_ble_eq_true rfl⟩) dX7_meet_25 (fun H locs hG => ?_)
    refine lv_goto (tgt := 33) hx hb dX7_meet_28 (by decide) ?_
    cases er4
    exact J4 H locs ls hG (lv_sub hl [] rfl)
def f7_route (p1 : Int32) (p2 : Int32) (aOpen : (Nat → Int32)) : Option (Int32) :=
  bnd1 (f7_isPlace p1) fun (r_1 : Int32) => if r_1 = 0 then (some (-101)) else bnd1 (f7_isPlace p2) fun (r_4 : Int32) => if r_4 = 0 then (some (-101)) else bnd1 (if p1 = p2 then (some (-103)) else ckin ((p1 * 8) + p2) 64 (bnd1 (f7_orNone (aOpen ((p1 * 8) + p2).toNatClampNeg)) fun (r_11 : Int32) => some r_11)) fun (y_7 : Int32) => some y_7
set_option maxHeartbeats 4000000 in
set_option maxRecDepth 100000 in
theorem c_X7_route (hq : gJ layB q) {p1 : Int32} {p2 : Int32} {o_r : Int32} (h : f7_route p1 p2 aOpen = some o_r) :
    GM l yX7_route cX7_route 3 (some .int) 1 20 D cI cZ layB q [.ref (q 22), .int p1, .int p2] ([iReadings, iAlterations, iRankings, iLetters, iCurrent, iDue, iSize, iLsize], [], [gCosts, gWorths, gMiddles, gApart, gApartWithout, gNeeded, gUps, gDowns, gKeys, gNexts, gShutKeys, aCodes, aPbegins, aPends, aPlengths, aBegins, aEnds, aLengths, aRanks, aRoadsByRank, aRow, aRanksBefore, aBusy, aOpen, aShut]) (some (.int o_r)) ([iReadings, iAlterations, iRankings, iLetters, iCurrent, iDue, iSize, iLsize], [], [gCosts, gWorths, gMiddles, gApart, gApartWithout, gNeeded, gUps, gDowns, gKeys, gNexts, gShutKeys, aCodes, aPbegins, aPends, aPlengths, aBegins, aEnds, aLengths, aRanks, aRoadsByRank, aRow, aRanksBefore, aBusy, aOpen, aShut]) := by
  refine GM.go RX7 (by decide) rfl (Nat.le_of_ble_eq_true rfl) ?_
  intro p e s m args below meth c ls R Q H locs X hr hlk hT hG hl hR hQ
  have hx := X.1
  have hb := X.2.1
  have hl : lv_has ls 3 [(0, .ref (q 22)), (1, .int p1), (2, .int p2)] := hl
  unfold f7_route at h
  refine lv_iload_n hx hb dX7_route_0 rfl (lv_at hl 1 rfl) ?_
  obtain ⟨r_1, ec2, h⟩ := bnd1_some h
  refine g_callSr [.int p1] [] X hT hG ml_X7_199 (c_X7_isPlace hq ec2) rfl rfl hl.1 (Nat.le_of_ble_eq_true rfl) (by rw [hR]; exact ⟨Nat.le_of_ble_eq_true rfl, Nat.le_of_ble_eq_true rfl⟩) dX7_route_1 (fun H locs hG => ?_)
  refine lv_if_eq (tgt := 14) hx hb dX7_route_4 (by decide) (fun cb3 => ?_) (fun cb3 => ?_)
  · have h := ite_t cb3 h
    refine lv_bipush (v := (-101)) hx hb dX7_route_14 (by decide) ?_
    cases h
    rw [hQ]
    exact g_iret X hT hG hr hlk dX7_route_16
  · have h := ite_f cb3 h
    refine lv_iload_n hx hb dX7_route_7 rfl (lv_at hl 2 rfl) ?_
    obtain ⟨r_4, ec5, h⟩ := bnd1_some h
    refine g_callSr [.int p2] [] X hT hG ml_X7_199 (c_X7_isPlace hq ec5) rfl rfl hl.1 (Nat.le_of_ble_eq_true rfl) (by rw [hR]; exact ⟨Nat.le_of_ble_eq_true rfl, Nat.le_of_ble_eq_true rfl⟩) dX7_route_8 (fun H locs hG => ?_)
    refine lv_if_ne (tgt := 17) hx hb dX7_route_11 (by decide) (fun cb6 => ?_) (fun cb6 => ?_)
    · have h := ite_f cb6 h
      refine lv_iload_n hx hb dX7_route_17 rfl (lv_at hl 1 rfl) ?_
      refine lv_iload_n hx hb dX7_route_18 rfl (lv_at hl 2 rfl) ?_
      obtain ⟨y_7, er8, h⟩ := bnd1_some h
      have J8 : ∀ (H : Heap) (locs : List Loc) (ls : Array Slot), GH D cI cZ layB q s ([iReadings, iAlterations, iRankings, iLetters, iCurrent, iDue, iSize, iLsize], [], [gCosts, gWorths, gMiddles, gApart, gApartWithout, gNeeded, gUps, gDowns, gKeys, gNexts, gShutKeys, aCodes, aPbegins, aPends, aPlengths, aBegins, aEnds, aLengths, aRanks, aRoadsByRank, aRow, aRanksBefore, aBusy, aOpen, aShut]) H locs → lv_has ls 3 [] → W p l e R s m args below meth c H locs 0 0 Q (F0 m 44 ls [.int y_7]) := by
        intro H locs ls hG hl
        cases h
        rw [hQ]
        exact g_iret X hT hG hr hlk dX7_route_44
      refine lv_icmp_ne (tgt := 27) hx hb dX7_route_19 (by decide) (fun cb9 => ?_) (fun cb9 => ?_)
      · have er8 := ite_f cb9 er8
        refine lv_aload_n hx hb dX7_route_27 rfl (lv_at hl 0 rfl) ?_
        refine g_get (v := .ref (q 28)) X hT hG fl_X7_47 22 rfl rfl rfl dX7_route_28 ?_
        refine g_get (v := .ref (q 41)) X hT hG fl_X7_202 28 rfl rfl rfl dX7_route_31 ?_
        refine lv_iload_n hx hb dX7_route_34 rfl (lv_at hl 1 rfl) ?_
        refine lv_bipush (v := 8) hx hb dX7_route_35 (by decide) ?_
        refine lv_imul hx hb dX7_route_37 ?_
        refine lv_iload_n hx hb dX7_route_38 rfl (lv_at hl 2 rfl) ?_
        refine lv_iadd hx hb dX7_route_39 ?_
        obtain ⟨hi10, er8⟩ := ckin_some er8
        refine g_ald (f := aOpen) X hT hG 41 rfl rfl hi10 dX7_route_40 ?_
        obtain ⟨r_11, ec12, er8⟩ := bnd1_some er8
        refine g_callSr [.int (aOpen ((p1 * 8) + p2).toNatClampNeg)] [] X hT hG ml_X7_190 (c_X7_orNone hq ec12) rfl rfl hl.1 (Nat.le_of_ble_eq_true rfl) (by rw [hR]; exact ⟨Nat.le_of_ble_eq_true rfl, Nat.le_of_ble_eq_true rfl⟩) dX7_route_41 (fun H locs hG => ?_)
        cases er8
        exact J8 H locs ls hG (lv_sub hl [] rfl)
      · have er8 := ite_t cb9 er8
        refine lv_bipush (v := (-103)) hx hb dX7_route_22 (by decide) ?_
        refine lv_goto (tgt := 44) hx hb dX7_route_24 (by decide) ?_
        cases er8
        exact J8 H locs ls hG (lv_sub hl [] rfl)
    · have h := ite_t cb6 h
      refine lv_bipush (v := (-101)) hx hb dX7_route_14 (by decide) ?_
      cases h
      rw [hQ]
      exact g_iret X hT hG hr hlk dX7_route_16
set_option maxHeartbeats 4000000 in
set_option maxRecDepth 100000 in
theorem c_X1_set_10 (hq : gJ layB q) {p1 : Int32} {p2 : Int32} {p3 : Int32} {o_gShutKeys : (Nat → Int32)} (h : f1_set p1 p2 gShutKeys p3 = some o_gShutKeys) :
    GM l yX1_set cX1_set 4 none 0 0 D cI cZ layB q [.ref (q 10), .int p1, .int p2, .int p3] ([iReadings, iAlterations, iRankings, iLetters, iCurrent, iDue, iSize, iLsize], [], [gCosts, gWorths, gMiddles, gApart, gApartWithout, gNeeded, gUps, gDowns, gKeys, gNexts, gShutKeys, aCodes, aPbegins, aPends, aPlengths, aBegins, aEnds, aLengths, aRanks, aRoadsByRank, aRow, aRanksBefore, aBusy, aOpen, aShut]) none ([iReadings, iAlterations, iRankings, iLetters, iCurrent, iDue, iSize, iLsize], [], [gCosts, gWorths, gMiddles, gApart, gApartWithout, gNeeded, gUps, gDowns, gKeys, gNexts, o_gShutKeys, aCodes, aPbegins, aPends, aPlengths, aBegins, aEnds, aLengths, aRanks, aRoadsByRank, aRow, aRanksBefore, aBusy, aOpen, aShut]) := by
  refine GM.go RX1 (by decide) rfl (Nat.le_of_ble_eq_true rfl) ?_
  intro p e s m args below meth c ls R Q H locs X hr hlk hT hG hl hR hQ
  have hx := X.1
  have hb := X.2.1
  have hl : lv_has ls 4 [(0, .ref (q 10)), (1, .int p1), (2, .int p2), (3, .int p3)] := hl
  unfold f1_set at h
  refine lv_aload_n hx hb dX1_set_0 rfl (lv_at hl 0 rfl) ?_
  refine g_get (v := .ref (q 21)) X hT hG fl_X1_9 10 rfl rfl rfl dX1_set_1 ?_
  refine lv_iload_n hx hb dX1_set_4 rfl (lv_at hl 1 rfl) ?_
  refine lv_bipush (v := 12) hx hb dX1_set_5 (by decide) ?_
  refine lv_imul hx hb dX1_set_7 ?_
  refine lv_iload_n hx hb dX1_set_8 rfl (lv_at hl 2 rfl) ?_
  refine lv_iadd hx hb dX1_set_9 ?_
  refine lv_iload_n hx hb dX1_set_10 rfl (lv_at hl 3 rfl) ?_
  obtain ⟨hi1, h⟩ := ckin_some h
  obtain ⟨gShutKeys_2, egShutKeys_2⟩ : ∃ z : Nat → Int32, z = upd gShutKeys ((p1 * 12) + p2).toNatClampNeg p3 := ⟨_, rfl⟩
  have h := bd_e egShutKeys_2 h
  refine g_ast (w' := ([iReadings, iAlterations, iRankings, iLetters, iCurrent, iDue, iSize, iLsize], [], [gCosts, gWorths, gMiddles, gApart, gApartWithout, gNeeded, gUps, gDowns, gKeys, gNexts, gShutKeys_2, aCodes, aPbegins, aPends, aPlengths, aBegins, aEnds, aLengths, aRanks, aRoadsByRank, aRow, aRanksBefore, aBusy, aOpen, aShut])) X hT hq hG 21 rfl ga_B_gShutKeys (Nat.le_of_ble_eq_true rfl) hi1 (by subst egShutKeys_2; rfl) dX1_set_11 (fun H locs hG => ?_)
  cases h
  rw [hQ]
  exact g_vret X hT hG hr hlk dX1_set_12
set_option maxHeartbeats 4000000 in
set_option maxRecDepth 100000 in
theorem c_X1_get_10 (hq : gJ layB q) {p1 : Int32} {p2 : Int32} {o_r : Int32} (h : f1_get p1 p2 gShutKeys = some o_r) :
    GM l yX1_get cX1_get 3 (some .int) 0 0 D cI cZ layB q [.ref (q 10), .int p1, .int p2] ([iReadings, iAlterations, iRankings, iLetters, iCurrent, iDue, iSize, iLsize], [], [gCosts, gWorths, gMiddles, gApart, gApartWithout, gNeeded, gUps, gDowns, gKeys, gNexts, gShutKeys, aCodes, aPbegins, aPends, aPlengths, aBegins, aEnds, aLengths, aRanks, aRoadsByRank, aRow, aRanksBefore, aBusy, aOpen, aShut]) (some (.int o_r)) ([iReadings, iAlterations, iRankings, iLetters, iCurrent, iDue, iSize, iLsize], [], [gCosts, gWorths, gMiddles, gApart, gApartWithout, gNeeded, gUps, gDowns, gKeys, gNexts, gShutKeys, aCodes, aPbegins, aPends, aPlengths, aBegins, aEnds, aLengths, aRanks, aRoadsByRank, aRow, aRanksBefore, aBusy, aOpen, aShut]) := by
  refine GM.go RX1 (by decide) rfl (Nat.le_of_ble_eq_true rfl) ?_
  intro p e s m args below meth c ls R Q H locs X hr hlk hT hG hl hR hQ
  have hx := X.1
  have hb := X.2.1
  have hl : lv_has ls 3 [(0, .ref (q 10)), (1, .int p1), (2, .int p2)] := hl
  unfold f1_get at h
  refine lv_aload_n hx hb dX1_get_0 rfl (lv_at hl 0 rfl) ?_
  refine g_get (v := .ref (q 21)) X hT hG fl_X1_9 10 rfl rfl rfl dX1_get_1 ?_
  refine lv_iload_n hx hb dX1_get_4 rfl (lv_at hl 1 rfl) ?_
  refine lv_bipush (v := 12) hx hb dX1_get_5 (by decide) ?_
  refine lv_imul hx hb dX1_get_7 ?_
  refine lv_iload_n hx hb dX1_get_8 rfl (lv_at hl 2 rfl) ?_
  refine lv_iadd hx hb dX1_get_9 ?_
  obtain ⟨hi1, h⟩ := ckin_some h
  refine g_ald (f := gShutKeys) X hT hG 21 rfl rfl hi1 dX1_get_10 ?_
  cases h
  rw [hQ]
  exact g_iret X hT hG hr hlk dX1_get_11
set_option maxHeartbeats 4000000 in
set_option maxRecDepth 100000 in
theorem c_X1_shortenRow_10 (hq : gJ layB q) {fu : Nat} {p1 : Int32} {p2 : Int32} {p3 : Int32} {p4 : Int32} {o_gShutKeys : (Nat → Int32)} (h : f1_shortenRow fu p1 p2 p4 p3 gShutKeys = some o_gShutKeys) :
    GM l yX1_shortenRow cX1_shortenRow 9 none 0 0 D cI cZ layB q [.ref (q 10), .int p1, .int p2, .int p3, .int p4] ([iReadings, iAlterations, iRankings, iLetters, iCurrent, iDue, iSize, iLsize], [], [gCosts, gWorths, gMiddles, gApart, gApartWithout, gNeeded, gUps, gDowns, gKeys, gNexts, gShutKeys, aCodes, aPbegins, aPends, aPlengths, aBegins, aEnds, aLengths, aRanks, aRoadsByRank, aRow, aRanksBefore, aBusy, aOpen, aShut]) none ([iReadings, iAlterations, iRankings, iLetters, iCurrent, iDue, iSize, iLsize], [], [gCosts, gWorths, gMiddles, gApart, gApartWithout, gNeeded, gUps, gDowns, gKeys, gNexts, o_gShutKeys, aCodes, aPbegins, aPends, aPlengths, aBegins, aEnds, aLengths, aRanks, aRoadsByRank, aRow, aRanksBefore, aBusy, aOpen, aShut]) := by
  refine GM.go RX1 (by decide) rfl (Nat.le_of_ble_eq_true rfl) ?_
  intro p e s m args below meth c ls R Q H locs X hr hlk hT hG hl hR hQ
  have hx := X.1
  have hb := X.2.1
  have hl : lv_has ls 9 [(0, .ref (q 10)), (1, .int p1), (2, .int p2), (3, .int p3), (4, .int p4)] := hl
  unfold f1_shortenRow at h
  refine lv_iload_n hx hb dX1_shortenRow_0 rfl (lv_at hl 1 rfl) ?_
  refine lv_bipush (v := 12) hx hb dX1_shortenRow_1 (by decide) ?_
  refine lv_imul hx hb dX1_shortenRow_3 ?_
  refine lv_topi (fun x5_1 ex5_1 => ?_)
  have h := bd_e ex5_1 h
  refine lv_istore (lv' := [(5, .int x5_1), (0, .ref (q 10)), (1, .int p1), (2, .int p2), (3, .int p3), (4, .int p4)]) hx hb dX1_shortenRow_4 hl (by decide) rfl (fun ls hl => ?_)
  refine lv_iload_n hx hb dX1_shortenRow_6 rfl (lv_at hl 3 rfl) ?_
  refine lv_bipush (v := 12) hx hb dX1_shortenRow_7 (by decide) ?_
  refine lv_imul hx hb dX1_shortenRow_9 ?_
  refine lv_topi (fun x6_2 ex6_2 => ?_)
  have h := bd_e ex6_2 h
  refine lv_istore (lv' := [(6, .int x6_2), (5, .int x5_1), (0, .ref (q 10)), (1, .int p1), (2, .int p2), (3, .int p3), (4, .int p4)]) hx hb dX1_shortenRow_10 hl (by decide) rfl (fun ls hl => ?_)
  refine lv_iconst (v := 0) hx hb dX1_shortenRow_12 (by decide) ?_
  refine lv_istore (lv' := [(7, .int 0), (6, .int x6_2), (5, .int x5_1), (0, .ref (q 10)), (1, .int p1), (2, .int p2), (3, .int p3), (4, .int p4)]) hx hb dX1_shortenRow_13 hl (by decide) rfl (fun ls hl => ?_)
  obtain ⟨gShutKeys_5, eL6, h⟩ := bnd1_some h
  have JX6 : ∀ (H : Heap) (locs : List Loc) (ls : Array Slot), GH D cI cZ layB q s ([iReadings, iAlterations, iRankings, iLetters, iCurrent, iDue, iSize, iLsize], [], [gCosts, gWorths, gMiddles, gApart, gApartWithout, gNeeded, gUps, gDowns, gKeys, gNexts, gShutKeys_5, aCodes, aPbegins, aPends, aPlengths, aBegins, aEnds, aLengths, aRanks, aRoadsByRank, aRow, aRanksBefore, aBusy, aOpen, aShut]) H locs → lv_has ls 9 [] → W p l e R s m args below meth c H locs 0 0 Q (F0 m 69 ls []) := by
    intro H locs ls hG hl
    cases h
    rw [hQ]
    exact g_vret X hT hG hr hlk dX1_shortenRow_69
  refine lpG_W (Wh := fun z => ∀ (H : Heap) (locs : List Loc) (ls : Array Slot), GH D cI cZ layB q s ([iReadings, iAlterations, iRankings, iLetters, iCurrent, iDue, iSize, iLsize], [], [gCosts, gWorths, gMiddles, gApart, gApartWithout, gNeeded, gUps, gDowns, gKeys, gNexts, z.2, aCodes, aPbegins, aPends, aPlengths, aBegins, aEnds, aLengths, aRanks, aRoadsByRank, aRow, aRanksBefore, aBusy, aOpen, aShut]) H locs → lv_has ls 9 [(0, .ref (q 10)), (3, .int p3), (4, .int p4), (5, .int x5_1), (6, .int x6_2), (7, .int (z.1))] → W p l e R s m args below meth c H locs 0 0 Q (F0 m 15 ls [])) ?_ fu _ eL6 H locs ls hG (lv_sub hl [3, 6, 7, 2, 1, 0] rfl)
  intro z rr6 hb6 hin6 hout6
  obtain ⟨x7_3, gShutKeys_4⟩ := z
  intro H locs ls hG hl
  have hb6 : f1_shortenRow_b1 p4 x6_2 p3 x5_1 x7_3 gShutKeys_4 = some rr6 := hb6
  have hG : GH D cI cZ layB q s ([iReadings, iAlterations, iRankings, iLetters, iCurrent, iDue, iSize, iLsize], [], [gCosts, gWorths, gMiddles, gApart, gApartWithout, gNeeded, gUps, gDowns, gKeys, gNexts, gShutKeys_4, aCodes, aPbegins, aPends, aPlengths, aBegins, aEnds, aLengths, aRanks, aRoadsByRank, aRow, aRanksBefore, aBusy, aOpen, aShut]) H locs := hG
  have hl : lv_has ls 9 [(0, .ref (q 10)), (3, .int p3), (4, .int p4), (5, .int x5_1), (6, .int x6_2), (7, .int x7_3)] := hl
  unfold f1_shortenRow_b1 at hb6
  refine lv_iload hx hb dX1_shortenRow_15 (lv_at hl 5 rfl) ?_
  refine lv_iload hx hb dX1_shortenRow_17 (lv_at hl 2 rfl) ?_
  refine lv_icmp_ge (tgt := 69) hx hb dX1_shortenRow_19 (by decide) (fun cb7 => ?_) (fun cb7 => ?_)
  · have hb6 := ite_t cb7 hb6
    have eo := hout6 _ (Option.some.inj hb6).symm
    cases eo
    exact JX6 H locs ls hG (lv_sub hl [] rfl)
  · have hb6 := ite_f cb7 hb6
    refine lv_iload_n hx hb dX1_shortenRow_22 rfl (lv_at hl 1 rfl) ?_
    refine lv_aload_n hx hb dX1_shortenRow_23 rfl (lv_at hl 0 rfl) ?_
    refine g_get (v := .ref (q 21)) X hT hG fl_X1_9 10 rfl rfl rfl dX1_shortenRow_24 ?_
    refine lv_iload hx hb dX1_shortenRow_27 (lv_at hl 4 rfl) ?_
    refine lv_iload hx hb dX1_shortenRow_29 (lv_at hl 5 rfl) ?_
    refine lv_iadd hx hb dX1_shortenRow_31 ?_
    obtain ⟨hi8, hb6⟩ := ckin_some hb6
    refine g_ald (f := gShutKeys_4) X hT hG 21 rfl rfl hi8 dX1_shortenRow_32 ?_
    refine lv_iadd hx hb dX1_shortenRow_33 ?_
    refine lv_topi (fun x8_9 ex8_9 => ?_)
    have hb6 := bd_e ex8_9 hb6
    refine lv_istore (lv' := [(8, .int x8_9), (0, .ref (q 10)), (3, .int p3), (4, .int p4), (5, .int x5_1), (6, .int x6_2), (7, .int x7_3)]) hx hb dX1_shortenRow_34 hl (by decide) rfl (fun ls hl => ?_)
    refine lv_iload hx hb dX1_shortenRow_36 (lv_at hl 0 rfl) ?_
    refine lv_aload_n hx hb dX1_shortenRow_38 rfl (lv_at hl 1 rfl) ?_
    refine g_get (v := .ref (q 21)) X hT hG fl_X1_9 10 rfl rfl rfl dX1_shortenRow_39 ?_
    refine lv_iload hx hb dX1_shortenRow_42 (lv_at hl 4 rfl) ?_
    refine lv_iload hx hb dX1_shortenRow_44 (lv_at hl 6 rfl) ?_
    refine lv_iadd hx hb dX1_shortenRow_46 ?_
    obtain ⟨hi10, hb6⟩ := ckin_some hb6
    refine g_ald (f := gShutKeys_4) X hT hG 21 rfl rfl hi10 dX1_shortenRow_47 ?_
    obtain ⟨gShutKeys_11, er12, hb6⟩ := bnd1_some hb6
    have J12 : ∀ (H : Heap) (locs : List Loc) (ls : Array Slot), GH D cI cZ layB q s ([iReadings, iAlterations, iRankings, iLetters, iCurrent, iDue, iSize, iLsize], [], [gCosts, gWorths, gMiddles, gApart, gApartWithout, gNeeded, gUps, gDowns, gKeys, gNexts, gShutKeys_11, aCodes, aPbegins, aPends, aPlengths, aBegins, aEnds, aLengths, aRanks, aRoadsByRank, aRow, aRanksBefore, aBusy, aOpen, aShut]) H locs → lv_has ls 9 [(0, .ref (q 10)), (3, .int p3), (4, .int p4), (5, .int x5_1), (6, .int x6_2), (7, .int x7_3)] → W p l e R s m args below meth c H locs 0 0 Q (F0 m 63 ls []) := by
      intro H locs ls hG hl
      obtain ⟨x7_16, ex7_16⟩ : ∃ z : Int32, z = x7_3 + 1 := ⟨_, rfl⟩
      have hb6 := bd_e ex7_16 hb6
      refine lv_iinc (v := x7_16) (lv' := [(7, .int x7_16), (0, .ref (q 10)), (3, .int p3), (4, .int p4), (5, .int x5_1), (6, .int x6_2)]) hx hb dX1_shortenRow_63 hl (k := 5) rfl (by rw [ex7_16]; rfl) (by decide) rfl (fun ls hl => ?_)
      refine lv_goto (tgt := 15) hx hb dX1_shortenRow_66 (by decide) ?_
      exact hin6 _ (Option.some.inj hb6).symm H locs ls hG (lv_sub hl [1, 2, 3, 4, 5, 0] rfl)
    refine lv_icmp_ge (tgt := 63) hx hb dX1_shortenRow_48 (by decide) (fun cb13 => ?_) (fun cb13 => ?_)
    · have er12 := ite_t cb13 er12
      cases er12
      exact J12 H locs ls hG (lv_sub hl [1, 2, 3, 4, 5, 6] rfl)
    · have er12 := ite_f cb13 er12
      refine lv_aload_n hx hb dX1_shortenRow_51 rfl (lv_at hl 1 rfl) ?_
      refine g_get (v := .ref (q 21)) X hT hG fl_X1_9 10 rfl rfl rfl dX1_shortenRow_52 ?_
      refine lv_iload hx hb dX1_shortenRow_55 (lv_at hl 4 rfl) ?_
      refine lv_iload hx hb dX1_shortenRow_57 (lv_at hl 6 rfl) ?_
      refine lv_iadd hx hb dX1_shortenRow_59 ?_
      refine lv_iload hx hb dX1_shortenRow_60 (lv_at hl 0 rfl) ?_
      obtain ⟨hi14, er12⟩ := ckin_some er12
      obtain ⟨gShutKeys_15, egShutKeys_15⟩ : ∃ z : Nat → Int32, z = upd gShutKeys_4 (x5_1 + x7_3).toNatClampNeg x8_9 := ⟨_, rfl⟩
      have er12 := bd_e egShutKeys_15 er12
      refine g_ast (w' := ([iReadings, iAlterations, iRankings, iLetters, iCurrent, iDue, iSize, iLsize], [], [gCosts, gWorths, gMiddles, gApart, gApartWithout, gNeeded, gUps, gDowns, gKeys, gNexts, gShutKeys_15, aCodes, aPbegins, aPends, aPlengths, aBegins, aEnds, aLengths, aRanks, aRoadsByRank, aRow, aRanksBefore, aBusy, aOpen, aShut])) X hT hq hG 21 rfl ga_B_gShutKeys (Nat.le_of_ble_eq_true rfl) hi14 (by subst egShutKeys_15; rfl) dX1_shortenRow_62 (fun H locs hG => ?_)
      cases er12
      exact J12 H locs ls hG (lv_sub hl [1, 2, 3, 4, 5, 6] rfl)
set_option maxHeartbeats 4000000 in
set_option maxRecDepth 100000 in
theorem c_X1_shorten_10 (hq : gJ layB q) {fu : Nat} {p1 : Int32} {o_gShutKeys : (Nat → Int32)} (h : f1_shorten fu p1 gShutKeys = some o_gShutKeys) :
    GM l yX1_shorten cX1_shorten 5 none 1 28 D cI cZ layB q [.ref (q 10), .int p1] ([iReadings, iAlterations, iRankings, iLetters, iCurrent, iDue, iSize, iLsize], [], [gCosts, gWorths, gMiddles, gApart, gApartWithout, gNeeded, gUps, gDowns, gKeys, gNexts, gShutKeys, aCodes, aPbegins, aPends, aPlengths, aBegins, aEnds, aLengths, aRanks, aRoadsByRank, aRow, aRanksBefore, aBusy, aOpen, aShut]) none ([iReadings, iAlterations, iRankings, iLetters, iCurrent, iDue, iSize, iLsize], [], [gCosts, gWorths, gMiddles, gApart, gApartWithout, gNeeded, gUps, gDowns, gKeys, gNexts, o_gShutKeys, aCodes, aPbegins, aPends, aPlengths, aBegins, aEnds, aLengths, aRanks, aRoadsByRank, aRow, aRanksBefore, aBusy, aOpen, aShut]) := by
  refine GM.go RX1 (by decide) rfl (Nat.le_of_ble_eq_true rfl) ?_
  intro p e s m args below meth c ls R Q H locs X hr hlk hT hG hl hR hQ
  have hx := X.1
  have hb := X.2.1
  have hl : lv_has ls 5 [(0, .ref (q 10)), (1, .int p1)] := hl
  unfold f1_shorten at h
  refine lv_iconst (v := 0) hx hb dX1_shorten_0 (by decide) ?_
  refine lv_istore_n (lv' := [(2, .int 0), (0, .ref (q 10)), (1, .int p1)]) hx hb dX1_shorten_1 rfl hl (by decide) rfl (fun ls hl => ?_)
  obtain ⟨gShutKeys_3, eL4, h⟩ := bnd1_some h
  have JX4 : ∀ (H : Heap) (locs : List Loc) (ls : Array Slot), GH D cI cZ layB q s ([iReadings, iAlterations, iRankings, iLetters, iCurrent, iDue, iSize, iLsize], [], [gCosts, gWorths, gMiddles, gApart, gApartWithout, gNeeded, gUps, gDowns, gKeys, gNexts, gShutKeys_3, aCodes, aPbegins, aPends, aPlengths, aBegins, aEnds, aLengths, aRanks, aRoadsByRank, aRow, aRanksBefore, aBusy, aOpen, aShut]) H locs → lv_has ls 5 [] → W p l e R s m args below meth c H locs 0 0 Q (F0 m 50 ls []) := by
    intro H locs ls hG hl
    cases h
    rw [hQ]
    exact g_vret X hT hG hr hlk dX1_shorten_50
  refine lpG_W (Wh := fun z => ∀ (H : Heap) (locs : List Loc) (ls : Array Slot), GH D cI cZ layB q s ([iReadings, iAlterations, iRankings, iLetters, iCurrent, iDue, iSize, iLsize], [], [gCosts, gWorths, gMiddles, gApart, gApartWithout, gNeeded, gUps, gDowns, gKeys, gNexts, z.2, aCodes, aPbegins, aPends, aPlengths, aBegins, aEnds, aLengths, aRanks, aRoadsByRank, aRow, aRanksBefore, aBusy, aOpen, aShut]) H locs → lv_has ls 5 [(0, .ref (q 10)), (1, .int p1), (2, .int (z.1))] → W p l e R s m args below meth c H locs 0 0 Q (F0 m 2 ls [])) ?_ fu _ eL4 H locs ls hG (lv_sub hl [1, 2, 0] rfl)
  intro z rr4 hb4 hin4 hout4
  obtain ⟨x2_1, gShutKeys_2⟩ := z
  intro H locs ls hG hl
  have hb4 : f1_shorten_b1 fu p1 x2_1 gShutKeys_2 = some rr4 := hb4
  have hG : GH D cI cZ layB q s ([iReadings, iAlterations, iRankings, iLetters, iCurrent, iDue, iSize, iLsize], [], [gCosts, gWorths, gMiddles, gApart, gApartWithout, gNeeded, gUps, gDowns, gKeys, gNexts, gShutKeys_2, aCodes, aPbegins, aPends, aPlengths, aBegins, aEnds, aLengths, aRanks, aRoadsByRank, aRow, aRanksBefore, aBusy, aOpen, aShut]) H locs := hG
  have hl : lv_has ls 5 [(0, .ref (q 10)), (1, .int p1), (2, .int x2_1)] := hl
  unfold f1_shorten_b1 at hb4
  refine lv_iload_n hx hb dX1_shorten_2 rfl (lv_at hl 2 rfl) ?_
  refine lv_iload_n hx hb dX1_shorten_3 rfl (lv_at hl 1 rfl) ?_
  refine lv_icmp_ge (tgt := 50) hx hb dX1_shorten_4 (by decide) (fun cb5 => ?_) (fun cb5 => ?_)
  · have hb4 := ite_t cb5 hb4
    have eo := hout4 _ (Option.some.inj hb4).symm
    cases eo
    exact JX4 H locs ls hG (lv_sub hl [] rfl)
  · have hb4 := ite_f cb5 hb4
    refine lv_iconst (v := 0) hx hb dX1_shorten_7 (by decide) ?_
    refine lv_istore_n (lv' := [(3, .int 0), (0, .ref (q 10)), (1, .int p1), (2, .int x2_1)]) hx hb dX1_shorten_8 rfl hl (by decide) rfl (fun ls hl => ?_)
    obtain ⟨gShutKeys_8, eL9, hb4⟩ := bnd1_some hb4
    have JX9 : ∀ (H : Heap) (locs : List Loc) (ls : Array Slot), GH D cI cZ layB q s ([iReadings, iAlterations, iRankings, iLetters, iCurrent, iDue, iSize, iLsize], [], [gCosts, gWorths, gMiddles, gApart, gApartWithout, gNeeded, gUps, gDowns, gKeys, gNexts, gShutKeys_8, aCodes, aPbegins, aPends, aPlengths, aBegins, aEnds, aLengths, aRanks, aRoadsByRank, aRow, aRanksBefore, aBusy, aOpen, aShut]) H locs → lv_has ls 5 [(0, .ref (q 10)), (1, .int p1), (2, .int x2_1)] → W p l e R s m args below meth c H locs 0 0 Q (F0 m 44 ls []) := by
      intro H locs ls hG hl
      obtain ⟨x2_19, ex2_19⟩ : ∃ z : Int32, z = x2_1 + 1 := ⟨_, rfl⟩
      have hb4 := bd_e ex2_19 hb4
      refine lv_iinc (v := x2_19) (lv' := [(2, .int x2_19), (0, .ref (q 10)), (1, .int p1)]) hx hb dX1_shorten_44 hl (k := 2) rfl (by rw [ex2_19]; rfl) (by decide) rfl (fun ls hl => ?_)
      refine lv_goto (tgt := 2) hx hb dX1_shorten_47 (by decide) ?_
      exact hin4 _ (Option.some.inj hb4).symm H locs ls hG (lv_sub hl [1, 2, 0] rfl)
    refine lpG_W (Wh := fun z => ∀ (H : Heap) (locs : List Loc) (ls : Array Slot), GH D cI cZ layB q s ([iReadings, iAlterations, iRankings, iLetters, iCurrent, iDue, iSize, iLsize], [], [gCosts, gWorths, gMiddles, gApart, gApartWithout, gNeeded, gUps, gDowns, gKeys, gNexts, z.2, aCodes, aPbegins, aPends, aPlengths, aBegins, aEnds, aLengths, aRanks, aRoadsByRank, aRow, aRanksBefore, aBusy, aOpen, aShut]) H locs → lv_has ls 5 [(0, .ref (q 10)), (1, .int p1), (2, .int x2_1), (3, .int (z.1))] → W p l e R s m args below meth c H locs 0 0 Q (F0 m 9 ls [])) ?_ fu _ eL9 H locs ls hG (lv_sub hl [1, 2, 3, 0] rfl)
    intro z rr9 hb9 hin9 hout9
    obtain ⟨x3_6, gShutKeys_7⟩ := z
    intro H locs ls hG hl
    have hb9 : f1_shorten_b2 fu p1 x2_1 x3_6 gShutKeys_7 = some rr9 := hb9
    have hG : GH D cI cZ layB q s ([iReadings, iAlterations, iRankings, iLetters, iCurrent, iDue, iSize, iLsize], [], [gCosts, gWorths, gMiddles, gApart, gApartWithout, gNeeded, gUps, gDowns, gKeys, gNexts, gShutKeys_7, aCodes, aPbegins, aPends, aPlengths, aBegins, aEnds, aLengths, aRanks, aRoadsByRank, aRow, aRanksBefore, aBusy, aOpen, aShut]) H locs := hG
    have hl : lv_has ls 5 [(0, .ref (q 10)), (1, .int p1), (2, .int x2_1), (3, .int x3_6)] := hl
    unfold f1_shorten_b2 at hb9
    refine lv_iload_n hx hb dX1_shorten_9 rfl (lv_at hl 3 rfl) ?_
    refine lv_iload_n hx hb dX1_shorten_10 rfl (lv_at hl 1 rfl) ?_
    refine lv_icmp_ge (tgt := 44) hx hb dX1_shorten_11 (by decide) (fun cb10 => ?_) (fun cb10 => ?_)
    · have hb9 := ite_t cb10 hb9
      have eo := hout9 _ (Option.some.inj hb9).symm
      cases eo
      exact JX9 H locs ls hG (lv_sub hl [0, 1, 2] rfl)
    · have hb9 := ite_f cb10 hb9
      refine lv_aload_n hx hb dX1_shorten_14 rfl (lv_at hl 0 rfl) ?_
      refine lv_iload_n hx hb dX1_shorten_15 rfl (lv_at hl 3 rfl) ?_
      refine lv_iload_n hx hb dX1_shorten_16 rfl (lv_at hl 2 rfl) ?_
      obtain ⟨r_11, ec12, hb9⟩ := bnd1_some hb9
      refine g_callVr [.int x3_6, .int x2_1] [] 10 X hT hG ml_X1_15 (c_X1_get_10 hq ec12) rfl rfl rfl rfl rfl hl.1 (Nat.le_of_ble_eq_true rfl) (by rw [hR]; exact ⟨Nat.le_of_ble_eq_true rfl, Nat.le_of_ble_eq_true rfl⟩) dX1_shorten_17 (fun H locs hG => ?_)
      refine lv_istore (lv' := [(4, .int r_11), (0, .ref (q 10)), (1, .int p1), (2, .int x2_1), (3, .int x3_6)]) hx hb dX1_shorten_20 hl (by decide) rfl (fun ls hl => ?_)
      refine lv_iload hx hb dX1_shorten_22 (lv_at hl 0 rfl) ?_
      refine lv_ldc (v := 268435456) hx hb X.2.2.2.1 (X.2.2.2.2 _ cn_X1_19) dX1_shorten_24 ?_
      obtain ⟨gShutKeys_13, er14, hb9⟩ := bnd1_some hb9
      have J14 : ∀ (H : Heap) (locs : List Loc) (ls : Array Slot), GH D cI cZ layB q s ([iReadings, iAlterations, iRankings, iLetters, iCurrent, iDue, iSize, iLsize], [], [gCosts, gWorths, gMiddles, gApart, gApartWithout, gNeeded, gUps, gDowns, gKeys, gNexts, gShutKeys_13, aCodes, aPbegins, aPends, aPlengths, aBegins, aEnds, aLengths, aRanks, aRoadsByRank, aRow, aRanksBefore, aBusy, aOpen, aShut]) H locs → lv_has ls 5 [(0, .ref (q 10)), (1, .int p1), (2, .int x2_1), (3, .int x3_6)] → W p l e R s m args below meth c H locs 0 0 Q (F0 m 38 ls []) := by
        intro H locs ls hG hl
        obtain ⟨x3_18, ex3_18⟩ : ∃ z : Int32, z = x3_6 + 1 := ⟨_, rfl⟩
        have hb9 := bd_e ex3_18 hb9
        refine lv_iinc (v := x3_18) (lv' := [(3, .int x3_18), (0, .ref (q 10)), (1, .int p1), (2, .int x2_1)]) hx hb dX1_shorten_38 hl (k := 3) rfl (by rw [ex3_18]; rfl) (by decide) rfl (fun ls hl => ?_)
        refine lv_goto (tgt := 9) hx hb dX1_shorten_41 (by decide) ?_
        exact hin9 _ (Option.some.inj hb9).symm H locs ls hG (lv_sub hl [1, 2, 3, 0] rfl)
      refine lv_icmp_ge (tgt := 38) hx hb dX1_shorten_26 (by decide) (fun cb15 => ?_) (fun cb15 => ?_)
      · have er14 := ite_t cb15 er14
        cases er14
        exact J14 H locs ls hG (lv_sub hl [1, 2, 3, 4] rfl)
      · have er14 := ite_f cb15 er14
        refine lv_aload_n hx hb dX1_shorten_29 rfl (lv_at hl 1 rfl) ?_
        refine lv_iload_n hx hb dX1_shorten_30 rfl (lv_at hl 4 rfl) ?_
        refine lv_iload_n hx hb dX1_shorten_31 rfl (lv_at hl 3 rfl) ?_
        refine lv_iload hx hb dX1_shorten_32 (lv_at hl 0 rfl) ?_
        refine lv_iload_n hx hb dX1_shorten_34 rfl (lv_at hl 2 rfl) ?_
        obtain ⟨gShutKeys_16, ec17, er14⟩ := bnd1_some er14
        refine g_callVv [.int x3_6, .int x2_1, .int r_11, .int p1] [] 10 X hT hG ml_X1_20 (c_X1_shortenRow_10 hq ec17) rfl rfl rfl rfl rfl hl.1 (Nat.le_of_ble_eq_true rfl) (by rw [hR]; exact ⟨Nat.le_of_ble_eq_true rfl, Nat.le_of_ble_eq_true rfl⟩) dX1_shorten_35 (fun H locs hG => ?_)
        have hG : GH D cI cZ layB q s ([iReadings, iAlterations, iRankings, iLetters, iCurrent, iDue, iSize, iLsize], [], [gCosts, gWorths, gMiddles, gApart, gApartWithout, gNeeded, gUps, gDowns, gKeys, gNexts, gShutKeys_16, aCodes, aPbegins, aPends, aPlengths, aBegins, aEnds, aLengths, aRanks, aRoadsByRank, aRow, aRanksBefore, aBusy, aOpen, aShut]) H locs := hG
        cases er14
        exact J14 H locs ls hG (lv_sub hl [1, 2, 3, 4] rfl)
set_option maxHeartbeats 4000000 in
set_option maxRecDepth 100000 in
theorem c_X3_fillLeastKeys_24_10 (hq : gJ layB q) {fu : Nat} {p1 : Int32} {o_gShutKeys : (Nat → Int32)} (h : f3_fillLeastKeys fu iSize p1 gCosts aLengths gShutKeys = some o_gShutKeys) :
    GM l yX3_fillLeastKeys cX3_fillLeastKeys 6 none 3 67 D cI cZ layB q [.ref (q 24), .ref (q 10), .int p1] ([iReadings, iAlterations, iRankings, iLetters, iCurrent, iDue, iSize, iLsize], [], [gCosts, gWorths, gMiddles, gApart, gApartWithout, gNeeded, gUps, gDowns, gKeys, gNexts, gShutKeys, aCodes, aPbegins, aPends, aPlengths, aBegins, aEnds, aLengths, aRanks, aRoadsByRank, aRow, aRanksBefore, aBusy, aOpen, aShut]) none ([iReadings, iAlterations, iRankings, iLetters, iCurrent, iDue, iSize, iLsize], [], [gCosts, gWorths, gMiddles, gApart, gApartWithout, gNeeded, gUps, gDowns, gKeys, gNexts, o_gShutKeys, aCodes, aPbegins, aPends, aPlengths, aBegins, aEnds, aLengths, aRanks, aRoadsByRank, aRow, aRanksBefore, aBusy, aOpen, aShut]) := by
  refine GM.go RX3 (by decide) rfl (Nat.le_of_ble_eq_true rfl) ?_
  intro p e s m args below meth c ls R Q H locs X hr hlk hT hG hl hR hQ
  have hx := X.1
  have hb := X.2.1
  have hl : lv_has ls 6 [(0, .ref (q 24)), (1, .ref (q 10)), (2, .int p1)] := hl
  unfold f3_fillLeastKeys at h
  refine lv_iconst (v := 0) hx hb dX3_fillLeastKeys_0 (by decide) ?_
  refine lv_istore_n (lv' := [(3, .int 0), (0, .ref (q 24)), (1, .ref (q 10)), (2, .int p1)]) hx hb dX3_fillLeastKeys_1 rfl hl (by decide) rfl (fun ls hl => ?_)
  obtain ⟨gShutKeys_3, eL4, h⟩ := bnd1_some h
  have JX4 : ∀ (H : Heap) (locs : List Loc) (ls : Array Slot), GH D cI cZ layB q s ([iReadings, iAlterations, iRankings, iLetters, iCurrent, iDue, iSize, iLsize], [], [gCosts, gWorths, gMiddles, gApart, gApartWithout, gNeeded, gUps, gDowns, gKeys, gNexts, gShutKeys_3, aCodes, aPbegins, aPends, aPlengths, aBegins, aEnds, aLengths, aRanks, aRoadsByRank, aRow, aRanksBefore, aBusy, aOpen, aShut]) H locs → lv_has ls 6 [(0, .ref (q 24)), (1, .ref (q 10))] → W p l e R s m args below meth c H locs 0 0 Q (F0 m 83 ls []) := by
    intro H locs ls hG hl
    refine lv_aload_n hx hb dX3_fillLeastKeys_83 rfl (lv_at hl 1 rfl) ?_
    refine lv_aload_n hx hb dX3_fillLeastKeys_84 rfl (lv_at hl 0 rfl) ?_
    refine g_get (v := .int iSize) X hT hG fl_X3_34 24 rfl rfl rfl dX3_fillLeastKeys_85 ?_
    obtain ⟨gShutKeys_26, ec27, h⟩ := bnd1_some h
    refine g_callVv [.int iSize] [] 10 X hT hG ml_X3_73 (c_X1_shorten_10 hq ec27) rfl rfl rfl rfl rfl hl.1 (Nat.le_of_ble_eq_true rfl) (by rw [hR]; exact ⟨Nat.le_of_ble_eq_true rfl, Nat.le_of_ble_eq_true rfl⟩) dX3_fillLeastKeys_88 (fun H locs hG => ?_)
    have hG : GH D cI cZ layB q s ([iReadings, iAlterations, iRankings, iLetters, iCurrent, iDue, iSize, iLsize], [], [gCosts, gWorths, gMiddles, gApart, gApartWithout, gNeeded, gUps, gDowns, gKeys, gNexts, gShutKeys_26, aCodes, aPbegins, aPends, aPlengths, aBegins, aEnds, aLengths, aRanks, aRoadsByRank, aRow, aRanksBefore, aBusy, aOpen, aShut]) H locs := hG
    cases h
    rw [hQ]
    exact g_vret X hT hG hr hlk dX3_fillLeastKeys_91
  refine lpG_W (Wh := fun z => ∀ (H : Heap) (locs : List Loc) (ls : Array Slot), GH D cI cZ layB q s ([iReadings, iAlterations, iRankings, iLetters, iCurrent, iDue, iSize, iLsize], [], [gCosts, gWorths, gMiddles, gApart, gApartWithout, gNeeded, gUps, gDowns, gKeys, gNexts, z.2, aCodes, aPbegins, aPends, aPlengths, aBegins, aEnds, aLengths, aRanks, aRoadsByRank, aRow, aRanksBefore, aBusy, aOpen, aShut]) H locs → lv_has ls 6 [(0, .ref (q 24)), (1, .ref (q 10)), (2, .int p1), (3, .int (z.1))] → W p l e R s m args below meth c H locs 0 0 Q (F0 m 2 ls [])) ?_ fu _ eL4 H locs ls hG (lv_sub hl [1, 2, 3, 0] rfl)
  intro z rr4 hb4 hin4 hout4
  obtain ⟨x3_1, gShutKeys_2⟩ := z
  intro H locs ls hG hl
  have hb4 : f3_fillLeastKeys_b1 fu iSize p1 gCosts aLengths x3_1 gShutKeys_2 = some rr4 := hb4
  have hG : GH D cI cZ layB q s ([iReadings, iAlterations, iRankings, iLetters, iCurrent, iDue, iSize, iLsize], [], [gCosts, gWorths, gMiddles, gApart, gApartWithout, gNeeded, gUps, gDowns, gKeys, gNexts, gShutKeys_2, aCodes, aPbegins, aPends, aPlengths, aBegins, aEnds, aLengths, aRanks, aRoadsByRank, aRow, aRanksBefore, aBusy, aOpen, aShut]) H locs := hG
  have hl : lv_has ls 6 [(0, .ref (q 24)), (1, .ref (q 10)), (2, .int p1), (3, .int x3_1)] := hl
  unfold f3_fillLeastKeys_b1 at hb4
  refine lv_iload_n hx hb dX3_fillLeastKeys_2 rfl (lv_at hl 3 rfl) ?_
  refine lv_aload_n hx hb dX3_fillLeastKeys_3 rfl (lv_at hl 0 rfl) ?_
  refine g_get (v := .int iSize) X hT hG fl_X3_34 24 rfl rfl rfl dX3_fillLeastKeys_4 ?_
  refine lv_icmp_ge (tgt := 83) hx hb dX3_fillLeastKeys_7 (by decide) (fun cb5 => ?_) (fun cb5 => ?_)
  · have hb4 := ite_t cb5 hb4
    have eo := hout4 _ (Option.some.inj hb4).symm
    cases eo
    exact JX4 H locs ls hG (lv_sub hl [0, 1] rfl)
  · have hb4 := ite_f cb5 hb4
    refine lv_iconst (v := 0) hx hb dX3_fillLeastKeys_10 (by decide) ?_
    refine lv_istore (lv' := [(4, .int 0), (0, .ref (q 24)), (1, .ref (q 10)), (2, .int p1), (3, .int x3_1)]) hx hb dX3_fillLeastKeys_11 hl (by decide) rfl (fun ls hl => ?_)
    obtain ⟨gShutKeys_8, eL9, hb4⟩ := bnd1_some hb4
    have JX9 : ∀ (H : Heap) (locs : List Loc) (ls : Array Slot), GH D cI cZ layB q s ([iReadings, iAlterations, iRankings, iLetters, iCurrent, iDue, iSize, iLsize], [], [gCosts, gWorths, gMiddles, gApart, gApartWithout, gNeeded, gUps, gDowns, gKeys, gNexts, gShutKeys_8, aCodes, aPbegins, aPends, aPlengths, aBegins, aEnds, aLengths, aRanks, aRoadsByRank, aRow, aRanksBefore, aBusy, aOpen, aShut]) H locs → lv_has ls 6 [(0, .ref (q 24)), (1, .ref (q 10)), (2, .int p1), (3, .int x3_1)] → W p l e R s m args below meth c H locs 0 0 Q (F0 m 70 ls []) := by
      intro H locs ls hG hl
      refine lv_aload_n hx hb dX3_fillLeastKeys_70 rfl (lv_at hl 1 rfl) ?_
      refine lv_iload_n hx hb dX3_fillLeastKeys_71 rfl (lv_at hl 3 rfl) ?_
      refine lv_iload_n hx hb dX3_fillLeastKeys_72 rfl (lv_at hl 3 rfl) ?_
      refine lv_iconst (v := 0) hx hb dX3_fillLeastKeys_73 (by decide) ?_
      obtain ⟨gShutKeys_23, ec24, hb4⟩ := bnd1_some hb4
      refine g_callVv [.int x3_1, .int x3_1, .int 0] [] 10 X hT hG ml_X3_51 (c_X1_set_10 hq ec24) rfl rfl rfl rfl rfl hl.1 (Nat.le_of_ble_eq_true rfl) (by rw [hR]; exact ⟨Nat.le_of_ble_eq_true rfl, Nat.le_of_ble_eq_true rfl⟩) dX3_fillLeastKeys_74 (fun H locs hG => ?_)
      have hG : GH D cI cZ layB q s ([iReadings, iAlterations, iRankings, iLetters, iCurrent, iDue, iSize, iLsize], [], [gCosts, gWorths, gMiddles, gApart, gApartWithout, gNeeded, gUps, gDowns, gKeys, gNexts, gShutKeys_23, aCodes, aPbegins, aPends, aPlengths, aBegins, aEnds, aLengths, aRanks, aRoadsByRank, aRow, aRanksBefore, aBusy, aOpen, aShut]) H locs := hG
      obtain ⟨x3_25, ex3_25⟩ : ∃ z : Int32, z = x3_1 + 1 := ⟨_, rfl⟩
      have hb4 := bd_e ex3_25 hb4
      refine lv_iinc (v := x3_25) (lv' := [(3, .int x3_25), (0, .ref (q 24)), (1, .ref (q 10)), (2, .int p1)]) hx hb dX3_fillLeastKeys_77 hl (k := 3) rfl (by rw [ex3_25]; rfl) (by decide) rfl (fun ls hl => ?_)
      refine lv_goto (tgt := 2) hx hb dX3_fillLeastKeys_80 (by decide) ?_
      exact hin4 _ (Option.some.inj hb4).symm H locs ls hG (lv_sub hl [1, 2, 3, 0] rfl)
    refine lpG_W (Wh := fun z => ∀ (H : Heap) (locs : List Loc) (ls : Array Slot), GH D cI cZ layB q s ([iReadings, iAlterations, iRankings, iLetters, iCurrent, iDue, iSize, iLsize], [], [gCosts, gWorths, gMiddles, gApart, gApartWithout, gNeeded, gUps, gDowns, gKeys, gNexts, z.2, aCodes, aPbegins, aPends, aPlengths, aBegins, aEnds, aLengths, aRanks, aRoadsByRank, aRow, aRanksBefore, aBusy, aOpen, aShut]) H locs → lv_has ls 6 [(0, .ref (q 24)), (1, .ref (q 10)), (2, .int p1), (3, .int x3_1), (4, .int (z.1))] → W p l e R s m args below meth c H locs 0 0 Q (F0 m 13 ls [])) ?_ fu _ eL9 H locs ls hG (lv_sub hl [1, 2, 3, 4, 0] rfl)
    intro z rr9 hb9 hin9 hout9
    obtain ⟨x4_6, gShutKeys_7⟩ := z
    intro H locs ls hG hl
    have hb9 : f3_fillLeastKeys_b2 iSize x3_1 p1 gCosts aLengths x4_6 gShutKeys_7 = some rr9 := hb9
    have hG : GH D cI cZ layB q s ([iReadings, iAlterations, iRankings, iLetters, iCurrent, iDue, iSize, iLsize], [], [gCosts, gWorths, gMiddles, gApart, gApartWithout, gNeeded, gUps, gDowns, gKeys, gNexts, gShutKeys_7, aCodes, aPbegins, aPends, aPlengths, aBegins, aEnds, aLengths, aRanks, aRoadsByRank, aRow, aRanksBefore, aBusy, aOpen, aShut]) H locs := hG
    have hl : lv_has ls 6 [(0, .ref (q 24)), (1, .ref (q 10)), (2, .int p1), (3, .int x3_1), (4, .int x4_6)] := hl
    unfold f3_fillLeastKeys_b2 at hb9
    refine lv_iload hx hb dX3_fillLeastKeys_13 (lv_at hl 4 rfl) ?_
    refine lv_aload_n hx hb dX3_fillLeastKeys_15 rfl (lv_at hl 0 rfl) ?_
    refine g_get (v := .int iSize) X hT hG fl_X3_34 24 rfl rfl rfl dX3_fillLeastKeys_16 ?_
    refine lv_icmp_ge (tgt := 70) hx hb dX3_fillLeastKeys_19 (by decide) (fun cb10 => ?_) (fun cb10 => ?_)
    · have hb9 := ite_t cb10 hb9
      have eo := hout9 _ (Option.some.inj hb9).symm
      cases eo
      exact JX9 H locs ls hG (lv_sub hl [0, 1, 2, 3] rfl)
    · have hb9 := ite_f cb10 hb9
      refine lv_iload_n hx hb dX3_fillLeastKeys_22 rfl (lv_at hl 3 rfl) ?_
      refine lv_iload_n hx hb dX3_fillLeastKeys_23 rfl (lv_at hl 2 rfl) ?_
      obtain ⟨y_11, er12, hb9⟩ := bnd1_some hb9
      have J12 : ∀ (H : Heap) (locs : List Loc) (ls : Array Slot), GH D cI cZ layB q s ([iReadings, iAlterations, iRankings, iLetters, iCurrent, iDue, iSize, iLsize], [], [gCosts, gWorths, gMiddles, gApart, gApartWithout, gNeeded, gUps, gDowns, gKeys, gNexts, gShutKeys_7, aCodes, aPbegins, aPends, aPlengths, aBegins, aEnds, aLengths, aRanks, aRoadsByRank, aRow, aRanksBefore, aBusy, aOpen, aShut]) H locs → lv_has ls 6 [(0, .ref (q 24)), (1, .ref (q 10)), (2, .int p1), (3, .int x3_1), (4, .int x4_6)] → W p l e R s m args below meth c H locs 0 0 Q (F0 m 38 ls [.int y_11]) := by
        intro H locs ls hG hl
        refine lv_istore (lv' := [(5, .int y_11), (0, .ref (q 24)), (1, .ref (q 10)), (2, .int p1), (3, .int x3_1), (4, .int x4_6)]) hx hb dX3_fillLeastKeys_38 hl (by decide) rfl (fun ls hl => ?_)
        refine lv_aload_n hx hb dX3_fillLeastKeys_40 rfl (lv_at hl 2 rfl) ?_
        refine lv_iload_n hx hb dX3_fillLeastKeys_41 rfl (lv_at hl 4 rfl) ?_
        refine lv_iload hx hb dX3_fillLeastKeys_42 (lv_at hl 5 rfl) ?_
        refine lv_iload hx hb dX3_fillLeastKeys_44 (lv_at hl 0 rfl) ?_
        obtain ⟨y_15, er16, hb9⟩ := bnd1_some hb9
        have J16 : ∀ (H : Heap) (locs : List Loc) (ls : Array Slot), GH D cI cZ layB q s ([iReadings, iAlterations, iRankings, iLetters, iCurrent, iDue, iSize, iLsize], [], [gCosts, gWorths, gMiddles, gApart, gApartWithout, gNeeded, gUps, gDowns, gKeys, gNexts, gShutKeys_7, aCodes, aPbegins, aPends, aPlengths, aBegins, aEnds, aLengths, aRanks, aRoadsByRank, aRow, aRanksBefore, aBusy, aOpen, aShut]) H locs → lv_has ls 6 [(0, .ref (q 24)), (1, .ref (q 10)), (2, .int p1), (3, .int x3_1), (4, .int x4_6)] → W p l e R s m args below meth c H locs 0 0 Q (F0 m 61 ls [.int y_15, .int x4_6, .int x3_1, .ref (q 10)]) := by
          intro H locs ls hG hl
          obtain ⟨gShutKeys_20, ec21, hb9⟩ := bnd1_some hb9
          refine g_callVv [.int x3_1, .int x4_6, .int y_15] [] 10 X hT hG ml_X3_51 (c_X1_set_10 hq ec21) rfl rfl rfl rfl rfl hl.1 (Nat.le_of_ble_eq_true rfl) (by rw [hR]; exact ⟨Nat.le_of_ble_eq_true rfl, Nat.le_of_ble_eq_true rfl⟩) dX3_fillLeastKeys_61 (fun H locs hG => ?_)
          have hG : GH D cI cZ layB q s ([iReadings, iAlterations, iRankings, iLetters, iCurrent, iDue, iSize, iLsize], [], [gCosts, gWorths, gMiddles, gApart, gApartWithout, gNeeded, gUps, gDowns, gKeys, gNexts, gShutKeys_20, aCodes, aPbegins, aPends, aPlengths, aBegins, aEnds, aLengths, aRanks, aRoadsByRank, aRow, aRanksBefore, aBusy, aOpen, aShut]) H locs := hG
          obtain ⟨x4_22, ex4_22⟩ : ∃ z : Int32, z = x4_6 + 1 := ⟨_, rfl⟩
          have hb9 := bd_e ex4_22 hb9
          refine lv_iinc (v := x4_22) (lv' := [(4, .int x4_22), (0, .ref (q 24)), (1, .ref (q 10)), (2, .int p1), (3, .int x3_1)]) hx hb dX3_fillLeastKeys_64 hl (k := 4) rfl (by rw [ex4_22]; rfl) (by decide) rfl (fun ls hl => ?_)
          refine lv_goto (tgt := 13) hx hb dX3_fillLeastKeys_67 (by decide) ?_
          exact hin9 _ (Option.some.inj hb9).symm H locs ls hG (lv_sub hl [1, 2, 3, 4, 0] rfl)
        refine lv_if_eq (tgt := 59) hx hb dX3_fillLeastKeys_46 (by decide) (fun cb17 => ?_) (fun cb17 => ?_)
        · have er16 := ite_t cb17 er16
          refine lv_ldc (v := 268435456) hx hb X.2.2.2.1 (X.2.2.2.2 _ cn_X3_62) dX3_fillLeastKeys_59 ?_
          cases er16
          exact J16 H locs ls hG (lv_sub hl [1, 2, 3, 4, 5] rfl)
        · have er16 := ite_f cb17 er16
          refine lv_aload_n hx hb dX3_fillLeastKeys_49 rfl (lv_at hl 1 rfl) ?_
          refine lv_iload_n hx hb dX3_fillLeastKeys_50 rfl (lv_at hl 4 rfl) ?_
          refine lv_iload hx hb dX3_fillLeastKeys_51 (lv_at hl 5 rfl) ?_
          obtain ⟨r_18, ec19, er16⟩ := bnd1_some er16
          refine g_callVr [.int x3_1, .int x4_6] [.int x4_6, .int x3_1, .ref (q 10)] 24 X hT hG ml_X3_70 (c_X3_stepKey hq ec19) rfl rfl rfl rfl rfl hl.1 (Nat.le_of_ble_eq_true rfl) (by rw [hR]; exact ⟨Nat.le_of_ble_eq_true rfl, Nat.le_of_ble_eq_true rfl⟩) dX3_fillLeastKeys_53 (fun H locs hG => ?_)
          refine lv_goto (tgt := 61) hx hb dX3_fillLeastKeys_56 (by decide) ?_
          cases er16
          exact J16 H locs ls hG (lv_sub hl [1, 2, 3, 4, 5] rfl)
      refine lv_icmp_eq (tgt := 37) hx hb dX3_fillLeastKeys_24 (by decide) (fun cb13 => ?_) (fun cb13 => ?_)
      · have er12 := ite_t cb13 er12
        refine lv_iconst (v := 0) hx hb dX3_fillLeastKeys_37 (by decide) ?_
        cases er12
        exact J12 H locs ls hG (lv_sub hl [0, 1, 2, 3, 4] rfl)
      · have er12 := ite_f cb13 er12
        refine lv_iload hx hb dX3_fillLeastKeys_27 (lv_at hl 4 rfl) ?_
        refine lv_iload_n hx hb dX3_fillLeastKeys_29 rfl (lv_at hl 2 rfl) ?_
        refine lv_icmp_eq (tgt := 37) hx hb dX3_fillLeastKeys_30 (by decide) (fun cb14 => ?_) (fun cb14 => ?_)
        · have er12 := ite_t cb14 er12
          refine lv_iconst (v := 0) hx hb dX3_fillLeastKeys_37 (by decide) ?_
          cases er12
          exact J12 H locs ls hG (lv_sub hl [0, 1, 2, 3, 4] rfl)
        · have er12 := ite_f cb14 er12
          refine lv_iconst (v := 1) hx hb dX3_fillLeastKeys_33 (by decide) ?_
          refine lv_goto (tgt := 38) hx hb dX3_fillLeastKeys_34 (by decide) ?_
          cases er12
          exact J12 H locs ls hG (lv_sub hl [0, 1, 2, 3, 4] rfl)
set_option maxHeartbeats 4000000 in
set_option maxRecDepth 100000 in
theorem c_J7_fill_53178_42 (hq : gJ layB q) {fu : Nat} {p1 : Int32} {o_aShut : (Nat → Int32)} (h : fJ7_fill_64 fu p1 aShut = some o_aShut) :
    GM l yJ7_fill_53178 cJ7_fill_53178 4 none 0 0 D cI cZ layB q [.ref (q 42), .int p1] ([iReadings, iAlterations, iRankings, iLetters, iCurrent, iDue, iSize, iLsize], [], [gCosts, gWorths, gMiddles, gApart, gApartWithout, gNeeded, gUps, gDowns, gKeys, gNexts, gShutKeys, aCodes, aPbegins, aPends, aPlengths, aBegins, aEnds, aLengths, aRanks, aRoadsByRank, aRow, aRanksBefore, aBusy, aOpen, aShut]) none ([iReadings, iAlterations, iRankings, iLetters, iCurrent, iDue, iSize, iLsize], [], [gCosts, gWorths, gMiddles, gApart, gApartWithout, gNeeded, gUps, gDowns, gKeys, gNexts, gShutKeys, aCodes, aPbegins, aPends, aPlengths, aBegins, aEnds, aLengths, aRanks, aRoadsByRank, aRow, aRanksBefore, aBusy, aOpen, o_aShut]) := by
  refine GM.go RJ7 (by decide) rfl (Nat.le_of_ble_eq_true rfl) ?_
  intro p e s m args below meth c ls R Q H locs X hr hlk hT hG hl hR hQ
  have hx := X.1
  have hb := X.2.1
  have hl : lv_has ls 4 [(0, .ref (q 42)), (1, .int p1)] := hl
  unfold fJ7_fill_64 at h
  refine lv_iconst (v := 0) hx hb dJ7_fill_53178_0 (by decide) ?_
  refine lv_istore_n (lv' := [(2, .int 0), (0, .ref (q 42)), (1, .int p1)]) hx hb dJ7_fill_53178_1 rfl hl (by decide) rfl (fun ls hl => ?_)
  refine lv_aload_n hx hb dJ7_fill_53178_2 rfl (lv_at hl 1 rfl) ?_
  refine g_alen (v := 64) X hT hG 42 rfl (by decide) dJ7_fill_53178_3 ?_
  refine lv_istore_n (lv' := [(3, .int 64), (2, .int 0), (0, .ref (q 42)), (1, .int p1)]) hx hb dJ7_fill_53178_4 rfl hl (by decide) rfl (fun ls hl => ?_)
  obtain ⟨aShut_3, eL4, h⟩ := bnd1_some h
  have JX4 : ∀ (H : Heap) (locs : List Loc) (ls : Array Slot), GH D cI cZ layB q s ([iReadings, iAlterations, iRankings, iLetters, iCurrent, iDue, iSize, iLsize], [], [gCosts, gWorths, gMiddles, gApart, gApartWithout, gNeeded, gUps, gDowns, gKeys, gNexts, gShutKeys, aCodes, aPbegins, aPends, aPlengths, aBegins, aEnds, aLengths, aRanks, aRoadsByRank, aRow, aRanksBefore, aBusy, aOpen, aShut_3]) H locs → lv_has ls 4 [] → W p l e R s m args below meth c H locs 0 0 Q (F0 m 20 ls []) := by
    intro H locs ls hG hl
    cases h
    rw [hQ]
    exact g_vret X hT hG hr hlk dJ7_fill_53178_20
  refine lpG_W (Wh := fun z => ∀ (H : Heap) (locs : List Loc) (ls : Array Slot), GH D cI cZ layB q s ([iReadings, iAlterations, iRankings, iLetters, iCurrent, iDue, iSize, iLsize], [], [gCosts, gWorths, gMiddles, gApart, gApartWithout, gNeeded, gUps, gDowns, gKeys, gNexts, gShutKeys, aCodes, aPbegins, aPends, aPlengths, aBegins, aEnds, aLengths, aRanks, aRoadsByRank, aRow, aRanksBefore, aBusy, aOpen, z.2]) H locs → lv_has ls 4 [(0, .ref (q 42)), (1, .int p1), (2, .int (z.1)), (3, .int 64)] → W p l e R s m args below meth c H locs 0 0 Q (F0 m 5 ls [])) ?_ fu _ eL4 H locs ls hG (lv_sub hl [2, 3, 1, 0] rfl)
  intro z rr4 hb4 hin4 hout4
  obtain ⟨x2_1, aShut_2⟩ := z
  intro H locs ls hG hl
  have hb4 : fJ7_fill_64_b1 p1 x2_1 aShut_2 = some rr4 := hb4
  have hG : GH D cI cZ layB q s ([iReadings, iAlterations, iRankings, iLetters, iCurrent, iDue, iSize, iLsize], [], [gCosts, gWorths, gMiddles, gApart, gApartWithout, gNeeded, gUps, gDowns, gKeys, gNexts, gShutKeys, aCodes, aPbegins, aPends, aPlengths, aBegins, aEnds, aLengths, aRanks, aRoadsByRank, aRow, aRanksBefore, aBusy, aOpen, aShut_2]) H locs := hG
  have hl : lv_has ls 4 [(0, .ref (q 42)), (1, .int p1), (2, .int x2_1), (3, .int 64)] := hl
  unfold fJ7_fill_64_b1 at hb4
  refine lv_iload_n hx hb dJ7_fill_53178_5 rfl (lv_at hl 2 rfl) ?_
  refine lv_iload_n hx hb dJ7_fill_53178_6 rfl (lv_at hl 3 rfl) ?_
  refine lv_icmp_ge (tgt := 20) hx hb dJ7_fill_53178_7 (by decide) (fun cb5 => ?_) (fun cb5 => ?_)
  · have hb4 := ite_t cb5 hb4
    have eo := hout4 _ (Option.some.inj hb4).symm
    cases eo
    exact JX4 H locs ls hG (lv_sub hl [] rfl)
  · have hb4 := ite_f cb5 hb4
    refine lv_aload_n hx hb dJ7_fill_53178_10 rfl (lv_at hl 0 rfl) ?_
    refine lv_iload_n hx hb dJ7_fill_53178_11 rfl (lv_at hl 2 rfl) ?_
    refine lv_iload_n hx hb dJ7_fill_53178_12 rfl (lv_at hl 1 rfl) ?_
    obtain ⟨hi6, hb4⟩ := ckin_some hb4
    obtain ⟨aShut_7, eaShut_7⟩ : ∃ z : Nat → Int32, z = upd aShut_2 x2_1.toNatClampNeg p1 := ⟨_, rfl⟩
    have hb4 := bd_e eaShut_7 hb4
    refine g_ast (w' := ([iReadings, iAlterations, iRankings, iLetters, iCurrent, iDue, iSize, iLsize], [], [gCosts, gWorths, gMiddles, gApart, gApartWithout, gNeeded, gUps, gDowns, gKeys, gNexts, gShutKeys, aCodes, aPbegins, aPends, aPlengths, aBegins, aEnds, aLengths, aRanks, aRoadsByRank, aRow, aRanksBefore, aBusy, aOpen, aShut_7])) X hT hq hG 42 rfl ga_B_aShut (Nat.le_of_ble_eq_true rfl) hi6 (by subst eaShut_7; rfl) dJ7_fill_53178_13 (fun H locs hG => ?_)
    obtain ⟨x2_8, ex2_8⟩ : ∃ z : Int32, z = x2_1 + 1 := ⟨_, rfl⟩
    have hb4 := bd_e ex2_8 hb4
    refine lv_iinc (v := x2_8) (lv' := [(2, .int x2_8), (0, .ref (q 42)), (1, .int p1), (3, .int 64)]) hx hb dJ7_fill_53178_14 hl (k := 2) rfl (by rw [ex2_8]; rfl) (by decide) rfl (fun ls hl => ?_)
    refine lv_goto (tgt := 5) hx hb dJ7_fill_53178_17 (by decide) ?_
    exact hin4 _ (Option.some.inj hb4).symm H locs ls hG (lv_sub hl [1, 2, 0, 3] rfl)
set_option maxHeartbeats 4000000 in
set_option maxRecDepth 100000 in
theorem c_X5_fillWith_42_24_10 (hq : gJ layB q) {fu : Nat} {p1 : Int32} {o_aShut : (Nat → Int32)} (h : f5_fillWith fu aShut iSize gShutKeys aBegins aEnds p1 aLengths = some o_aShut) :
    GM l yX5_fillWith cX5_fillWith 8 none 1 23 D cI cZ layB q [.ref (q 42), .ref (q 24), .ref (q 10), .int p1] ([iReadings, iAlterations, iRankings, iLetters, iCurrent, iDue, iSize, iLsize], [], [gCosts, gWorths, gMiddles, gApart, gApartWithout, gNeeded, gUps, gDowns, gKeys, gNexts, gShutKeys, aCodes, aPbegins, aPends, aPlengths, aBegins, aEnds, aLengths, aRanks, aRoadsByRank, aRow, aRanksBefore, aBusy, aOpen, aShut]) none ([iReadings, iAlterations, iRankings, iLetters, iCurrent, iDue, iSize, iLsize], [], [gCosts, gWorths, gMiddles, gApart, gApartWithout, gNeeded, gUps, gDowns, gKeys, gNexts, gShutKeys, aCodes, aPbegins, aPends, aPlengths, aBegins, aEnds, aLengths, aRanks, aRoadsByRank, aRow, aRanksBefore, aBusy, aOpen, o_aShut]) := by
  refine GM.go RX5 (by decide) rfl (Nat.le_of_ble_eq_true rfl) ?_
  intro p e s m args below meth c ls R Q H locs X hr hlk hT hG hl hR hQ
  have hx := X.1
  have hb := X.2.1
  have hl : lv_has ls 8 [(0, .ref (q 42)), (1, .ref (q 24)), (2, .ref (q 10)), (3, .int p1)] := hl
  unfold f5_fillWith at h
  refine lv_aload_n hx hb dX5_fillWith_0 rfl (lv_at hl 0 rfl) ?_
  refine lv_ldc (v := 268435456) hx hb X.2.2.2.1 (X.2.2.2.2 _ cn_X5_25) dX5_fillWith_1 ?_
  obtain ⟨aShut_1, ec2, h⟩ := bnd1_some h
  refine g_callSv [.ref (q 42), .int 268435456] [] X hT hG ml_X5_26 (c_J7_fill_53178_42 hq ec2) rfl rfl hl.1 (Nat.le_of_ble_eq_true rfl) (by rw [hR]; exact ⟨Nat.le_of_ble_eq_true rfl, Nat.le_of_ble_eq_true rfl⟩) dX5_fillWith_3 (fun H locs hG => ?_)
  have hG : GH D cI cZ layB q s ([iReadings, iAlterations, iRankings, iLetters, iCurrent, iDue, iSize, iLsize], [], [gCosts, gWorths, gMiddles, gApart, gApartWithout, gNeeded, gUps, gDowns, gKeys, gNexts, gShutKeys, aCodes, aPbegins, aPends, aPlengths, aBegins, aEnds, aLengths, aRanks, aRoadsByRank, aRow, aRanksBefore, aBusy, aOpen, aShut_1]) H locs := hG
  refine lv_iconst (v := 0) hx hb dX5_fillWith_6 (by decide) ?_
  refine lv_istore (lv' := [(4, .int 0), (0, .ref (q 42)), (1, .ref (q 24)), (2, .ref (q 10)), (3, .int p1)]) hx hb dX5_fillWith_7 hl (by decide) rfl (fun ls hl => ?_)
  obtain ⟨aShut_5, eL6, h⟩ := bnd1_some h
  have JX6 : ∀ (H : Heap) (locs : List Loc) (ls : Array Slot), GH D cI cZ layB q s ([iReadings, iAlterations, iRankings, iLetters, iCurrent, iDue, iSize, iLsize], [], [gCosts, gWorths, gMiddles, gApart, gApartWithout, gNeeded, gUps, gDowns, gKeys, gNexts, gShutKeys, aCodes, aPbegins, aPends, aPlengths, aBegins, aEnds, aLengths, aRanks, aRoadsByRank, aRow, aRanksBefore, aBusy, aOpen, aShut_5]) H locs → lv_has ls 8 [] → W p l e R s m args below meth c H locs 0 0 Q (F0 m 132 ls []) := by
    intro H locs ls hG hl
    cases h
    rw [hQ]
    exact g_vret X hT hG hr hlk dX5_fillWith_132
  refine lpG_W (Wh := fun z => ∀ (H : Heap) (locs : List Loc) (ls : Array Slot), GH D cI cZ layB q s ([iReadings, iAlterations, iRankings, iLetters, iCurrent, iDue, iSize, iLsize], [], [gCosts, gWorths, gMiddles, gApart, gApartWithout, gNeeded, gUps, gDowns, gKeys, gNexts, gShutKeys, aCodes, aPbegins, aPends, aPlengths, aBegins, aEnds, aLengths, aRanks, aRoadsByRank, aRow, aRanksBefore, aBusy, aOpen, z.2]) H locs → lv_has ls 8 [(0, .ref (q 42)), (1, .ref (q 24)), (2, .ref (q 10)), (3, .int p1), (4, .int (z.1))] → W p l e R s m args below meth c H locs 0 0 Q (F0 m 9 ls [])) ?_ fu _ eL6 H locs ls hG (lv_sub hl [1, 2, 3, 4, 0] rfl)
  intro z rr6 hb6 hin6 hout6
  obtain ⟨x4_3, aShut_4⟩ := z
  intro H locs ls hG hl
  have hb6 : f5_fillWith_b1 fu iSize gShutKeys aBegins aEnds p1 aLengths x4_3 aShut_4 = some rr6 := hb6
  have hG : GH D cI cZ layB q s ([iReadings, iAlterations, iRankings, iLetters, iCurrent, iDue, iSize, iLsize], [], [gCosts, gWorths, gMiddles, gApart, gApartWithout, gNeeded, gUps, gDowns, gKeys, gNexts, gShutKeys, aCodes, aPbegins, aPends, aPlengths, aBegins, aEnds, aLengths, aRanks, aRoadsByRank, aRow, aRanksBefore, aBusy, aOpen, aShut_4]) H locs := hG
  have hl : lv_has ls 8 [(0, .ref (q 42)), (1, .ref (q 24)), (2, .ref (q 10)), (3, .int p1), (4, .int x4_3)] := hl
  unfold f5_fillWith_b1 at hb6
  refine lv_iload hx hb dX5_fillWith_9 (lv_at hl 4 rfl) ?_
  refine lv_aload_n hx hb dX5_fillWith_11 rfl (lv_at hl 1 rfl) ?_
  refine g_get (v := .int iSize) X hT hG fl_X5_36 24 rfl rfl rfl dX5_fillWith_12 ?_
  refine lv_icmp_ge (tgt := 132) hx hb dX5_fillWith_15 (by decide) (fun cb7 => ?_) (fun cb7 => ?_)
  · have hb6 := ite_t cb7 hb6
    have eo := hout6 _ (Option.some.inj hb6).symm
    cases eo
    exact JX6 H locs ls hG (lv_sub hl [] rfl)
  · have hb6 := ite_f cb7 hb6
    refine lv_iconst (v := 0) hx hb dX5_fillWith_18 (by decide) ?_
    refine lv_istore (lv' := [(5, .int 0), (0, .ref (q 42)), (1, .ref (q 24)), (2, .ref (q 10)), (3, .int p1), (4, .int x4_3)]) hx hb dX5_fillWith_19 hl (by decide) rfl (fun ls hl => ?_)
    obtain ⟨aShut_10, eL11, hb6⟩ := bnd1_some hb6
    have JX11 : ∀ (H : Heap) (locs : List Loc) (ls : Array Slot), GH D cI cZ layB q s ([iReadings, iAlterations, iRankings, iLetters, iCurrent, iDue, iSize, iLsize], [], [gCosts, gWorths, gMiddles, gApart, gApartWithout, gNeeded, gUps, gDowns, gKeys, gNexts, gShutKeys, aCodes, aPbegins, aPends, aPlengths, aBegins, aEnds, aLengths, aRanks, aRoadsByRank, aRow, aRanksBefore, aBusy, aOpen, aShut_10]) H locs → lv_has ls 8 [(0, .ref (q 42)), (1, .ref (q 24)), (2, .ref (q 10)), (3, .int p1), (4, .int x4_3)] → W p l e R s m args below meth c H locs 0 0 Q (F0 m 126 ls []) := by
      intro H locs ls hG hl
      obtain ⟨x4_31, ex4_31⟩ : ∃ z : Int32, z = x4_3 + 1 := ⟨_, rfl⟩
      have hb6 := bd_e ex4_31 hb6
      refine lv_iinc (v := x4_31) (lv' := [(4, .int x4_31), (0, .ref (q 42)), (1, .ref (q 24)), (2, .ref (q 10)), (3, .int p1)]) hx hb dX5_fillWith_126 hl (k := 4) rfl (by rw [ex4_31]; rfl) (by decide) rfl (fun ls hl => ?_)
      refine lv_goto (tgt := 9) hx hb dX5_fillWith_129 (by decide) ?_
      exact hin6 _ (Option.some.inj hb6).symm H locs ls hG (lv_sub hl [1, 2, 3, 4, 0] rfl)
    refine lpG_W (Wh := fun z => ∀ (H : Heap) (locs : List Loc) (ls : Array Slot), GH D cI cZ layB q s ([iReadings, iAlterations, iRankings, iLetters, iCurrent, iDue, iSize, iLsize], [], [gCosts, gWorths, gMiddles, gApart, gApartWithout, gNeeded, gUps, gDowns, gKeys, gNexts, gShutKeys, aCodes, aPbegins, aPends, aPlengths, aBegins, aEnds, aLengths, aRanks, aRoadsByRank, aRow, aRanksBefore, aBusy, aOpen, z.2]) H locs → lv_has ls 8 [(0, .ref (q 42)), (1, .ref (q 24)), (2, .ref (q 10)), (3, .int p1), (4, .int x4_3), (5, .int (z.1))] → W p l e R s m args below meth c H locs 0 0 Q (F0 m 21 ls [])) ?_ fu _ eL11 H locs ls hG (lv_sub hl [1, 2, 3, 4, 5, 0] rfl)
    intro z rr11 hb11 hin11 hout11
    obtain ⟨x5_8, aShut_9⟩ := z
    intro H locs ls hG hl
    have hb11 : f5_fillWith_b2 iSize x4_3 gShutKeys aBegins aEnds p1 aLengths x5_8 aShut_9 = some rr11 := hb11
    have hG : GH D cI cZ layB q s ([iReadings, iAlterations, iRankings, iLetters, iCurrent, iDue, iSize, iLsize], [], [gCosts, gWorths, gMiddles, gApart, gApartWithout, gNeeded, gUps, gDowns, gKeys, gNexts, gShutKeys, aCodes, aPbegins, aPends, aPlengths, aBegins, aEnds, aLengths, aRanks, aRoadsByRank, aRow, aRanksBefore, aBusy, aOpen, aShut_9]) H locs := hG
    have hl : lv_has ls 8 [(0, .ref (q 42)), (1, .ref (q 24)), (2, .ref (q 10)), (3, .int p1), (4, .int x4_3), (5, .int x5_8)] := hl
    unfold f5_fillWith_b2 at hb11
    refine lv_iload hx hb dX5_fillWith_21 (lv_at hl 5 rfl) ?_
    refine lv_aload_n hx hb dX5_fillWith_23 rfl (lv_at hl 1 rfl) ?_
    refine g_get (v := .int iSize) X hT hG fl_X5_36 24 rfl rfl rfl dX5_fillWith_24 ?_
    refine lv_icmp_ge (tgt := 126) hx hb dX5_fillWith_27 (by decide) (fun cb12 => ?_) (fun cb12 => ?_)
    · have hb11 := ite_t cb12 hb11
      have eo := hout11 _ (Option.some.inj hb11).symm
      cases eo
      exact JX11 H locs ls hG (lv_sub hl [0, 1, 2, 3, 4] rfl)
    · have hb11 := ite_f cb12 hb11
      refine lv_aload_n hx hb dX5_fillWith_30 rfl (lv_at hl 2 rfl) ?_
      refine lv_iload hx hb dX5_fillWith_31 (lv_at hl 4 rfl) ?_
      refine lv_iload hx hb dX5_fillWith_33 (lv_at hl 5 rfl) ?_
      obtain ⟨r_13, ec14, hb11⟩ := bnd1_some hb11
      refine g_callVr [.int x4_3, .int x5_8] [] 10 X hT hG ml_X5_42 (c_X1_get_10 hq ec14) rfl rfl rfl rfl rfl hl.1 (Nat.le_of_ble_eq_true rfl) (by rw [hR]; exact ⟨Nat.le_of_ble_eq_true rfl, Nat.le_of_ble_eq_true rfl⟩) dX5_fillWith_35 (fun H locs hG => ?_)
      refine lv_istore (lv' := [(6, .int r_13), (0, .ref (q 42)), (1, .ref (q 24)), (2, .ref (q 10)), (3, .int p1), (4, .int x4_3), (5, .int x5_8)]) hx hb dX5_fillWith_38 hl (by decide) rfl (fun ls hl => ?_)
      refine lv_aload_n hx hb dX5_fillWith_40 rfl (lv_at hl 2 rfl) ?_
      refine g_get (v := .ref (q 33)) X hT hG fl_X5_46 24 rfl rfl rfl dX5_fillWith_41 ?_
      refine lv_iload hx hb dX5_fillWith_44 (lv_at hl 5 rfl) ?_
      obtain ⟨hi15, hb11⟩ := ckin_some hb11
      refine g_ald (f := aBegins) X hT hG 33 rfl rfl hi15 dX5_fillWith_46 ?_
      refine lv_bipush (v := 8) hx hb dX5_fillWith_47 (by decide) ?_
      refine lv_imul hx hb dX5_fillWith_49 ?_
      refine lv_aload_n hx hb dX5_fillWith_50 rfl (lv_at hl 2 rfl) ?_
      refine g_get (v := .ref (q 34)) X hT hG fl_X5_49 24 rfl rfl rfl dX5_fillWith_51 ?_
      refine lv_iload hx hb dX5_fillWith_54 (lv_at hl 6 rfl) ?_
      obtain ⟨hi16, hb11⟩ := ckin_some hb11
      refine g_ald (f := aEnds) X hT hG 34 rfl rfl hi16 dX5_fillWith_56 ?_
      refine lv_iadd hx hb dX5_fillWith_57 ?_
      refine lv_topi (fun x7_17 ex7_17 => ?_)
      have hb11 := bd_e ex7_17 hb11
      refine lv_istore (lv' := [(7, .int x7_17), (6, .int r_13), (0, .ref (q 42)), (1, .ref (q 24)), (2, .ref (q 10)), (3, .int p1), (4, .int x4_3), (5, .int x5_8)]) hx hb dX5_fillWith_58 hl (by decide) rfl (fun ls hl => ?_)
      refine lv_iload hx hb dX5_fillWith_60 (lv_at hl 1 rfl) ?_
      refine lv_ldc (v := 268435456) hx hb X.2.2.2.1 (X.2.2.2.2 _ cn_X5_25) dX5_fillWith_62 ?_
      obtain ⟨aShut_18, er19, hb11⟩ := bnd1_some hb11
      have J19 : ∀ (H : Heap) (locs : List Loc) (ls : Array Slot), GH D cI cZ layB q s ([iReadings, iAlterations, iRankings, iLetters, iCurrent, iDue, iSize, iLsize], [], [gCosts, gWorths, gMiddles, gApart, gApartWithout, gNeeded, gUps, gDowns, gKeys, gNexts, gShutKeys, aCodes, aPbegins, aPends, aPlengths, aBegins, aEnds, aLengths, aRanks, aRoadsByRank, aRow, aRanksBefore, aBusy, aOpen, aShut_18]) H locs → lv_has ls 8 [(0, .ref (q 42)), (1, .ref (q 24)), (2, .ref (q 10)), (3, .int p1), (4, .int x4_3), (5, .int x5_8)] → W p l e R s m args below meth c H locs 0 0 Q (F0 m 120 ls []) := by
        intro H locs ls hG hl
        obtain ⟨x5_30, ex5_30⟩ : ∃ z : Int32, z = x5_8 + 1 := ⟨_, rfl⟩
        have hb11 := bd_e ex5_30 hb11
        refine lv_iinc (v := x5_30) (lv' := [(5, .int x5_30), (0, .ref (q 42)), (1, .ref (q 24)), (2, .ref (q 10)), (3, .int p1), (4, .int x4_3)]) hx hb dX5_fillWith_120 hl (k := 5) rfl (by rw [ex5_30]; rfl) (by decide) rfl (fun ls hl => ?_)
        refine lv_goto (tgt := 21) hx hb dX5_fillWith_123 (by decide) ?_
        exact hin11 _ (Option.some.inj hb11).symm H locs ls hG (lv_sub hl [1, 2, 3, 4, 5, 0] rfl)
      refine lv_icmp_ge (tgt := 120) hx hb dX5_fillWith_64 (by decide) (fun cb20 => ?_) (fun cb20 => ?_)
      · have er19 := ite_t cb20 er19
        cases er19
        exact J19 H locs ls hG (lv_sub hl [2, 3, 4, 5, 6, 7] rfl)
      · have er19 := ite_f cb20 er19
        refine lv_iload hx hb dX5_fillWith_67 (lv_at hl 6 rfl) ?_
        refine lv_iload_n hx hb dX5_fillWith_69 rfl (lv_at hl 5 rfl) ?_
        refine lv_icmp_eq (tgt := 120) hx hb dX5_fillWith_70 (by decide) (fun cb21 => ?_) (fun cb21 => ?_)
        · have er19 := ite_t cb21 er19
          cases er19
          exact J19 H locs ls hG (lv_sub hl [2, 3, 4, 5, 6, 7] rfl)
        · have er19 := ite_f cb21 er19
          refine lv_iload hx hb dX5_fillWith_73 (lv_at hl 7 rfl) ?_
          refine lv_iload_n hx hb dX5_fillWith_75 rfl (lv_at hl 5 rfl) ?_
          refine lv_icmp_eq (tgt := 120) hx hb dX5_fillWith_76 (by decide) (fun cb22 => ?_) (fun cb22 => ?_)
          · have er19 := ite_t cb22 er19
            cases er19
            exact J19 H locs ls hG (lv_sub hl [2, 3, 4, 5, 6, 7] rfl)
          · have er19 := ite_f cb22 er19
            refine lv_aload_n hx hb dX5_fillWith_79 rfl (lv_at hl 3 rfl) ?_
            refine g_get (v := .ref (q 33)) X hT hG fl_X5_46 24 rfl rfl rfl dX5_fillWith_80 ?_
            refine lv_iload hx hb dX5_fillWith_83 (lv_at hl 6 rfl) ?_
            obtain ⟨hi23, er19⟩ := ckin_some er19
            refine g_ald (f := aBegins) X hT hG 33 rfl rfl hi23 dX5_fillWith_85 ?_
            refine lv_aload_n hx hb dX5_fillWith_86 rfl (lv_at hl 3 rfl) ?_
            refine g_get (v := .ref (q 34)) X hT hG fl_X5_49 24 rfl rfl rfl dX5_fillWith_87 ?_
            refine lv_iload hx hb dX5_fillWith_90 (lv_at hl 7 rfl) ?_
            obtain ⟨hi24, er19⟩ := ckin_some er19
            refine g_ald (f := aEnds) X hT hG 34 rfl rfl hi24 dX5_fillWith_92 ?_
            refine lv_icmp_eq (tgt := 120) hx hb dX5_fillWith_93 (by decide) (fun cb25 => ?_) (fun cb25 => ?_)
            · have er19 := ite_t cb25 er19
              cases er19
              exact J19 H locs ls hG (lv_sub hl [2, 3, 4, 5, 6, 7] rfl)
            · have er19 := ite_f cb25 er19
              refine lv_aload_n hx hb dX5_fillWith_96 rfl (lv_at hl 2 rfl) ?_
              refine lv_iload hx hb dX5_fillWith_97 (lv_at hl 0 rfl) ?_
              refine lv_aload_n hx hb dX5_fillWith_99 rfl (lv_at hl 2 rfl) ?_
              refine lv_iload hx hb dX5_fillWith_100 (lv_at hl 0 rfl) ?_
              obtain ⟨hi26, er19⟩ := ckin_some er19
              refine g_ald (f := aShut_9) X hT hG 42 rfl rfl hi26 dX5_fillWith_102 ?_
              refine lv_aload_n hx hb dX5_fillWith_103 rfl (lv_at hl 3 rfl) ?_
              refine g_get (v := .ref (q 35)) X hT hG fl_X5_52 24 rfl rfl rfl dX5_fillWith_104 ?_
              refine lv_iload hx hb dX5_fillWith_107 (lv_at hl 6 rfl) ?_
              obtain ⟨hi27, er19⟩ := ckin_some er19
              refine g_ald (f := aLengths) X hT hG 35 rfl rfl hi27 dX5_fillWith_109 ?_
              refine lv_iload hx hb dX5_fillWith_110 (lv_at hl 1 rfl) ?_
              refine lv_bipush (v := 64) hx hb dX5_fillWith_112 (by decide) ?_
              refine lv_idiv hx hb dX5_fillWith_114 (by decide) ?_
              refine lv_iadd hx hb dX5_fillWith_115 ?_
              refine g_mmin X mm_X5_55 hl.1 (by rw [hR]; exact Nat.le_of_ble_eq_true rfl) (by rw [hR]; exact Nat.le_of_ble_eq_true rfl) dX5_fillWith_116 ?_
              obtain ⟨hi28, er19⟩ := ckin_some er19
              obtain ⟨aShut_29, eaShut_29⟩ : ∃ z : Nat → Int32, z = upd aShut_9 x7_17.toNatClampNeg (if ((aLengths x4_3.toNatClampNeg) + (r_13 / 64)) < (aShut_9 x7_17.toNatClampNeg) then ((aLengths x4_3.toNatClampNeg) + (r_13 / 64)) else (aShut_9 x7_17.toNatClampNeg)) := ⟨_, rfl⟩
              have er19 := bd_e eaShut_29 er19
              refine g_ast (w' := ([iReadings, iAlterations, iRankings, iLetters, iCurrent, iDue, iSize, iLsize], [], [gCosts, gWorths, gMiddles, gApart, gApartWithout, gNeeded, gUps, gDowns, gKeys, gNexts, gShutKeys, aCodes, aPbegins, aPends, aPlengths, aBegins, aEnds, aLengths, aRanks, aRoadsByRank, aRow, aRanksBefore, aBusy, aOpen, aShut_29])) X hT hq hG 42 rfl ga_B_aShut (Nat.le_of_ble_eq_true rfl) hi28 (by subst eaShut_29; rfl) dX5_fillWith_119 (fun H locs hG => ?_)
              cases er19
              exact J19 H locs ls hG (lv_sub hl [2, 3, 4, 5, 6, 7] rfl)
def f5_lossWithout_b1 (aOpen : (Nat → Int32)) (aShut_3 : (Nat → Int32)) (p2 : Int32) (x4_5 : Int32) (x5_6 : Int32) : Option ((Int32 × Int32) ⊕ (Int32)) :=
  if 64 ≤ x5_6 then (some (.inr x4_5)) else ckin x5_6 64 (bnd1 (if 268435456 ≤ (aOpen x5_6.toNatClampNeg) then (some x4_5) else ckin x5_6 64 (bnd1 (if 268435456 ≤ (aShut_3 x5_6.toNatClampNeg) then (some p2) else ckin x5_6 64 (ckin x5_6 64 (some ((aShut_3 x5_6.toNatClampNeg) - (aOpen x5_6.toNatClampNeg))))) fun (y_15 : Int32) => bd ((x4_5 + y_15)) fun x4_20 => some x4_20)) fun (x4_11 : Int32) => bd (x5_6 + 1) fun x5_21 => some (.inl (x4_11, x5_21)))
def f5_lossWithout (fu : Nat) (iSize : Int32) (p1 : Int32) (gCosts : (Nat → Int32)) (aLengths : (Nat → Int32)) (gShutKeys : (Nat → Int32)) (aShut : (Nat → Int32)) (aBegins : (Nat → Int32)) (aEnds : (Nat → Int32)) (aOpen : (Nat → Int32)) (p2 : Int32) : Option (Int32 × (Nat → Int32) × (Nat → Int32)) :=
  bnd1 (f3_fillLeastKeys fu iSize p1 gCosts aLengths gShutKeys) fun (gShutKeys_1 : (Nat → Int32)) => bnd1 (f5_fillWith fu aShut iSize gShutKeys_1 aBegins aEnds p1 aLengths) fun (aShut_3 : (Nat → Int32)) => bnd1 (lpG (fun z => f5_lossWithout_b1 aOpen aShut_3 p2 z.1 z.2) fu ((0 : Int32), (0 : Int32))) fun (x4_7 : Int32) => some (x4_7, gShutKeys_1, aShut_3)
set_option maxHeartbeats 4000000 in
set_option maxRecDepth 100000 in
theorem c_X5_lossWithout_28_24 (hq : gJ layB q) {fu : Nat} {p1 : Int32} {p2 : Int32} {o_r : Int32} {o_gShutKeys : (Nat → Int32)} {o_aShut : (Nat → Int32)} (h : f5_lossWithout fu iSize p1 gCosts aLengths gShutKeys aShut aBegins aEnds aOpen p2 = some (o_r, o_gShutKeys, o_aShut)) :
    GM l yX5_lossWithout cX5_lossWithout 6 (some .int) 4 92 D cI cZ layB q [.ref (q 28), .ref (q 24), .int p1, .int p2] ([iReadings, iAlterations, iRankings, iLetters, iCurrent, iDue, iSize, iLsize], [], [gCosts, gWorths, gMiddles, gApart, gApartWithout, gNeeded, gUps, gDowns, gKeys, gNexts, gShutKeys, aCodes, aPbegins, aPends, aPlengths, aBegins, aEnds, aLengths, aRanks, aRoadsByRank, aRow, aRanksBefore, aBusy, aOpen, aShut]) (some (.int o_r)) ([iReadings, iAlterations, iRankings, iLetters, iCurrent, iDue, iSize, iLsize], [], [gCosts, gWorths, gMiddles, gApart, gApartWithout, gNeeded, gUps, gDowns, gKeys, gNexts, o_gShutKeys, aCodes, aPbegins, aPends, aPlengths, aBegins, aEnds, aLengths, aRanks, aRoadsByRank, aRow, aRanksBefore, aBusy, aOpen, o_aShut]) := by
  refine GM.go RX5 (by decide) rfl (Nat.le_of_ble_eq_true rfl) ?_
  intro p e s m args below meth c ls R Q H locs X hr hlk hT hG hl hR hQ
  have hx := X.1
  have hb := X.2.1
  have hl : lv_has ls 6 [(0, .ref (q 28)), (1, .ref (q 24)), (2, .int p1), (3, .int p2)] := hl
  unfold f5_lossWithout at h
  refine lv_aload_n hx hb dX5_lossWithout_0 rfl (lv_at hl 1 rfl) ?_
  refine lv_aload_n hx hb dX5_lossWithout_1 rfl (lv_at hl 0 rfl) ?_
  refine g_get (v := .ref (q 10)) X hT hG fl_X5_21 28 rfl rfl rfl dX5_lossWithout_2 ?_
  refine lv_iload_n hx hb dX5_lossWithout_5 rfl (lv_at hl 2 rfl) ?_
  obtain ⟨gShutKeys_1, ec2, h⟩ := bnd1_some h
  refine g_callVv [.ref (q 10), .int p1] [] 24 X hT hG ml_X5_60 (c_X3_fillLeastKeys_24_10 hq ec2) rfl rfl rfl rfl rfl hl.1 (Nat.le_of_ble_eq_true rfl) (by rw [hR]; exact ⟨Nat.le_of_ble_eq_true rfl, Nat.le_of_ble_eq_true rfl⟩) dX5_lossWithout_6 (fun H locs hG => ?_)
  have hG : GH D cI cZ layB q s ([iReadings, iAlterations, iRankings, iLetters, iCurrent, iDue, iSize, iLsize], [], [gCosts, gWorths, gMiddles, gApart, gApartWithout, gNeeded, gUps, gDowns, gKeys, gNexts, gShutKeys_1, aCodes, aPbegins, aPends, aPlengths, aBegins, aEnds, aLengths, aRanks, aRoadsByRank, aRow, aRanksBefore, aBusy, aOpen, aShut]) H locs := hG
  refine lv_aload_n hx hb dX5_lossWithout_9 rfl (lv_at hl 0 rfl) ?_
  refine g_get (v := .ref (q 42)) X hT hG fl_X5_15 28 rfl rfl rfl dX5_lossWithout_10 ?_
  refine lv_aload_n hx hb dX5_lossWithout_13 rfl (lv_at hl 1 rfl) ?_
  refine lv_aload_n hx hb dX5_lossWithout_14 rfl (lv_at hl 0 rfl) ?_
  refine g_get (v := .ref (q 10)) X hT hG fl_X5_21 28 rfl rfl rfl dX5_lossWithout_15 ?_
  refine lv_iload_n hx hb dX5_lossWithout_18 rfl (lv_at hl 2 rfl) ?_
  obtain ⟨aShut_3, ec4, h⟩ := bnd1_some h
  refine g_callSv [.ref (q 42), .ref (q 24), .ref (q 10), .int p1] [] X hT hG ml_X5_32 (c_X5_fillWith_42_24_10 hq ec4) rfl rfl hl.1 (Nat.le_of_ble_eq_true rfl) (by rw [hR]; exact ⟨Nat.le_of_ble_eq_true rfl, Nat.le_of_ble_eq_true rfl⟩) dX5_lossWithout_19 (fun H locs hG => ?_)
  have hG : GH D cI cZ layB q s ([iReadings, iAlterations, iRankings, iLetters, iCurrent, iDue, iSize, iLsize], [], [gCosts, gWorths, gMiddles, gApart, gApartWithout, gNeeded, gUps, gDowns, gKeys, gNexts, gShutKeys_1, aCodes, aPbegins, aPends, aPlengths, aBegins, aEnds, aLengths, aRanks, aRoadsByRank, aRow, aRanksBefore, aBusy, aOpen, aShut_3]) H locs := hG
  refine lv_iconst (v := 0) hx hb dX5_lossWithout_22 (by decide) ?_
  refine lv_istore (lv' := [(4, .int 0), (0, .ref (q 28)), (1, .ref (q 24)), (2, .int p1), (3, .int p2)]) hx hb dX5_lossWithout_23 hl (by decide) rfl (fun ls hl => ?_)
  refine lv_iconst (v := 0) hx hb dX5_lossWithout_25 (by decide) ?_
  refine lv_istore (lv' := [(5, .int 0), (4, .int 0), (0, .ref (q 28)), (1, .ref (q 24)), (2, .int p1), (3, .int p2)]) hx hb dX5_lossWithout_26 hl (by decide) rfl (fun ls hl => ?_)
  obtain ⟨x4_7, eL8, h⟩ := bnd1_some h
  have JX8 : ∀ (H : Heap) (locs : List Loc) (ls : Array Slot), GH D cI cZ layB q s ([iReadings, iAlterations, iRankings, iLetters, iCurrent, iDue, iSize, iLsize], [], [gCosts, gWorths, gMiddles, gApart, gApartWithout, gNeeded, gUps, gDowns, gKeys, gNexts, gShutKeys_1, aCodes, aPbegins, aPends, aPlengths, aBegins, aEnds, aLengths, aRanks, aRoadsByRank, aRow, aRanksBefore, aBusy, aOpen, aShut_3]) H locs → lv_has ls 6 [(4, .int x4_7)] → W p l e R s m args below meth c H locs 0 0 Q (F0 m 89 ls []) := by
    intro H locs ls hG hl
    refine lv_iload hx hb dX5_lossWithout_89 (lv_at hl 0 rfl) ?_
    cases h
    rw [hQ]
    exact g_iret X hT hG hr hlk dX5_lossWithout_91
  refine lpG_W (Wh := fun z => ∀ (H : Heap) (locs : List Loc) (ls : Array Slot), GH D cI cZ layB q s ([iReadings, iAlterations, iRankings, iLetters, iCurrent, iDue, iSize, iLsize], [], [gCosts, gWorths, gMiddles, gApart, gApartWithout, gNeeded, gUps, gDowns, gKeys, gNexts, gShutKeys_1, aCodes, aPbegins, aPends, aPlengths, aBegins, aEnds, aLengths, aRanks, aRoadsByRank, aRow, aRanksBefore, aBusy, aOpen, aShut_3]) H locs → lv_has ls 6 [(0, .ref (q 28)), (3, .int p2), (4, .int (z.1)), (5, .int (z.2))] → W p l e R s m args below meth c H locs 0 0 Q (F0 m 28 ls [])) ?_ fu _ eL8 H locs ls hG (lv_sub hl [2, 5, 1, 0] rfl)
  intro z rr8 hb8 hin8 hout8
  obtain ⟨x4_5, x5_6⟩ := z
  intro H locs ls hG hl
  have hb8 : f5_lossWithout_b1 aOpen aShut_3 p2 x4_5 x5_6 = some rr8 := hb8
  have hG : GH D cI cZ layB q s ([iReadings, iAlterations, iRankings, iLetters, iCurrent, iDue, iSize, iLsize], [], [gCosts, gWorths, gMiddles, gApart, gApartWithout, gNeeded, gUps, gDowns, gKeys, gNexts, gShutKeys_1, aCodes, aPbegins, aPends, aPlengths, aBegins, aEnds, aLengths, aRanks, aRoadsByRank, aRow, aRanksBefore, aBusy, aOpen, aShut_3]) H locs := hG
  have hl : lv_has ls 6 [(0, .ref (q 28)), (3, .int p2), (4, .int x4_5), (5, .int x5_6)] := hl
  unfold f5_lossWithout_b1 at hb8
  refine lv_iload hx hb dX5_lossWithout_28 (lv_at hl 3 rfl) ?_
  refine lv_bipush (v := 64) hx hb dX5_lossWithout_30 (by decide) ?_
  refine lv_icmp_ge (tgt := 89) hx hb dX5_lossWithout_32 (by decide) (fun cb9 => ?_) (fun cb9 => ?_)
  · have hb8 := ite_t cb9 hb8
    have eo := hout8 _ (Option.some.inj hb8).symm
    cases eo
    exact JX8 H locs ls hG (lv_sub hl [2] rfl)
  · have hb8 := ite_f cb9 hb8
    refine lv_aload_n hx hb dX5_lossWithout_35 rfl (lv_at hl 0 rfl) ?_
    refine g_get (v := .ref (q 41)) X hT hG fl_X5_9 28 rfl rfl rfl dX5_lossWithout_36 ?_
    refine lv_iload hx hb dX5_lossWithout_39 (lv_at hl 3 rfl) ?_
    obtain ⟨hi10, hb8⟩ := ckin_some hb8
    refine g_ald (f := aOpen) X hT hG 41 rfl rfl hi10 dX5_lossWithout_41 ?_
    refine lv_ldc (v := 268435456) hx hb X.2.2.2.1 (X.2.2.2.2 _ cn_X5_25) dX5_lossWithout_42 ?_
    obtain ⟨x4_11, er12, hb8⟩ := bnd1_some hb8
    have J12 : ∀ (H : Heap) (locs : List Loc) (ls : Array Slot), GH D cI cZ layB q s ([iReadings, iAlterations, iRankings, iLetters, iCurrent, iDue, iSize, iLsize], [], [gCosts, gWorths, gMiddles, gApart, gApartWithout, gNeeded, gUps, gDowns, gKeys, gNexts, gShutKeys_1, aCodes, aPbegins, aPends, aPlengths, aBegins, aEnds, aLengths, aRanks, aRoadsByRank, aRow, aRanksBefore, aBusy, aOpen, aShut_3]) H locs → lv_has ls 6 [(0, .ref (q 28)), (3, .int p2), (4, .int x4_11), (5, .int x5_6)] → W p l e R s m args below meth c H locs 0 0 Q (F0 m 83 ls []) := by
      intro H locs ls hG hl
      obtain ⟨x5_21, ex5_21⟩ : ∃ z : Int32, z = x5_6 + 1 := ⟨_, rfl⟩
      have hb8 := bd_e ex5_21 hb8
      refine lv_iinc (v := x5_21) (lv' := [(5, .int x5_21), (0, .ref (q 28)), (3, .int p2), (4, .int x4_11)]) hx hb dX5_lossWithout_83 hl (k := 3) rfl (by rw [ex5_21]; rfl) (by decide) rfl (fun ls hl => ?_)
      refine lv_goto (tgt := 28) hx hb dX5_lossWithout_86 (by decide) ?_
      exact hin8 _ (Option.some.inj hb8).symm H locs ls hG (lv_sub hl [1, 2, 3, 0] rfl)
    refine lv_icmp_ge (tgt := 83) hx hb dX5_lossWithout_44 (by decide) (fun cb13 => ?_) (fun cb13 => ?_)
    · have er12 := ite_t cb13 er12
      cases er12
      exact J12 H locs ls hG (lv_sub hl [0, 1, 2, 3] rfl)
    · have er12 := ite_f cb13 er12
      refine lv_iload hx hb dX5_lossWithout_47 (lv_at hl 2 rfl) ?_
      refine lv_aload_n hx hb dX5_lossWithout_49 rfl (lv_at hl 0 rfl) ?_
      refine g_get (v := .ref (q 42)) X hT hG fl_X5_15 28 rfl rfl rfl dX5_lossWithout_50 ?_
      refine lv_iload hx hb dX5_lossWithout_53 (lv_at hl 3 rfl) ?_
      obtain ⟨hi14, er12⟩ := ckin_some er12
      refine g_ald (f := aShut_3) X hT hG 42 rfl rfl hi14 dX5_lossWithout_55 ?_
      refine lv_ldc (v := 268435456) hx hb X.2.2.2.1 (X.2.2.2.2 _ cn_X5_25) dX5_lossWithout_56 ?_
      obtain ⟨y_15, er16, er12⟩ := bnd1_some er12
      have J16 : ∀ (H : Heap) (locs : List Loc) (ls : Array Slot), GH D cI cZ layB q s ([iReadings, iAlterations, iRankings, iLetters, iCurrent, iDue, iSize, iLsize], [], [gCosts, gWorths, gMiddles, gApart, gApartWithout, gNeeded, gUps, gDowns, gKeys, gNexts, gShutKeys_1, aCodes, aPbegins, aPends, aPlengths, aBegins, aEnds, aLengths, aRanks, aRoadsByRank, aRow, aRanksBefore, aBusy, aOpen, aShut_3]) H locs → lv_has ls 6 [(0, .ref (q 28)), (3, .int p2), (5, .int x5_6)] → W p l e R s m args below meth c H locs 0 0 Q (F0 m 80 ls [.int y_15, .int x4_5]) := by
        intro H locs ls hG hl
        refine lv_iadd hx hb dX5_lossWithout_80 ?_
        refine lv_topi (fun x4_20 ex4_20 => ?_)
        have er12 := bd_e ex4_20 er12
        refine lv_istore (lv' := [(4, .int x4_20), (0, .ref (q 28)), (3, .int p2), (5, .int x5_6)]) hx hb dX5_lossWithout_81 hl (by decide) rfl (fun ls hl => ?_)
        cases er12
        exact J12 H locs ls hG (lv_sub hl [1, 2, 0, 3] rfl)
      refine lv_icmp_ge (tgt := 79) hx hb dX5_lossWithout_58 (by decide) (fun cb17 => ?_) (fun cb17 => ?_)
      · have er16 := ite_t cb17 er16
        refine lv_iload_n hx hb dX5_lossWithout_79 rfl (lv_at hl 1 rfl) ?_
        cases er16
        exact J16 H locs ls hG (lv_sub hl [0, 1, 3] rfl)
      · have er16 := ite_f cb17 er16
        refine lv_aload_n hx hb dX5_lossWithout_61 rfl (lv_at hl 0 rfl) ?_
        refine g_get (v := .ref (q 42)) X hT hG fl_X5_15 28 rfl rfl rfl dX5_lossWithout_62 ?_
        refine lv_iload hx hb dX5_lossWithout_65 (lv_at hl 3 rfl) ?_
        obtain ⟨hi18, er16⟩ := ckin_some er16
        refine g_ald (f := aShut_3) X hT hG 42 rfl rfl hi18 dX5_lossWithout_67 ?_
        refine lv_aload_n hx hb dX5_lossWithout_68 rfl (lv_at hl 0 rfl) ?_
        refine g_get (v := .ref (q 41)) X hT hG fl_X5_9 28 rfl rfl rfl dX5_lossWithout_69 ?_
        refine lv_iload hx hb dX5_lossWithout_72 (lv_at hl 3 rfl) ?_
        obtain ⟨hi19, er16⟩ := ckin_some er16
        refine g_ald (f := aOpen) X hT hG 41 rfl rfl hi19 dX5_lossWithout_74 ?_
        refine lv_isub hx hb dX5_lossWithout_75 ?_
        refine lv_goto (tgt := 80) hx hb dX5_lossWithout_76 (by decide) ?_
        cases er16
        exact J16 H locs ls hG (lv_sub hl [0, 1, 3] rfl)
def f7_loss (fu : Nat) (p1 : Int32) (iSize : Int32) (gShutKeys : (Nat → Int32)) (aShut : (Nat → Int32)) (p2 : Int32) (gCosts : (Nat → Int32)) (aLengths : (Nat → Int32)) (aBegins : (Nat → Int32)) (aEnds : (Nat → Int32)) (aOpen : (Nat → Int32)) : Option (Int32 × (Nat → Int32) × (Nat → Int32)) :=
  bnd1 (f3_has p1 iSize) fun (r_1 : Int32) => if r_1 = 0 then (some ((-101), gShutKeys, aShut)) else if p2 < 0 then (some ((-102), gShutKeys, aShut)) else if p2 ≤ 999 then (bnd3 (f5_lossWithout fu iSize p1 gCosts aLengths gShutKeys aShut aBegins aEnds aOpen p2) fun (r_6 : Int32) (gShutKeys_7 : (Nat → Int32)) (aShut_8 : (Nat → Int32)) => some (r_6, gShutKeys_7, aShut_8)) else some ((-102), gShutKeys, aShut)
set_option maxHeartbeats 4000000 in
set_option maxRecDepth 100000 in
theorem c_X7_loss (hq : gJ layB q) {fu : Nat} {p1 : Int32} {p2 : Int32} {o_r : Int32} {o_gShutKeys : (Nat → Int32)} {o_aShut : (Nat → Int32)} (h : f7_loss fu p1 iSize gShutKeys aShut p2 gCosts aLengths aBegins aEnds aOpen = some (o_r, o_gShutKeys, o_aShut)) :
    GM l yX7_loss cX7_loss 3 (some .int) 5 117 D cI cZ layB q [.ref (q 22), .int p1, .int p2] ([iReadings, iAlterations, iRankings, iLetters, iCurrent, iDue, iSize, iLsize], [], [gCosts, gWorths, gMiddles, gApart, gApartWithout, gNeeded, gUps, gDowns, gKeys, gNexts, gShutKeys, aCodes, aPbegins, aPends, aPlengths, aBegins, aEnds, aLengths, aRanks, aRoadsByRank, aRow, aRanksBefore, aBusy, aOpen, aShut]) (some (.int o_r)) ([iReadings, iAlterations, iRankings, iLetters, iCurrent, iDue, iSize, iLsize], [], [gCosts, gWorths, gMiddles, gApart, gApartWithout, gNeeded, gUps, gDowns, gKeys, gNexts, o_gShutKeys, aCodes, aPbegins, aPends, aPlengths, aBegins, aEnds, aLengths, aRanks, aRoadsByRank, aRow, aRanksBefore, aBusy, aOpen, o_aShut]) := by
  refine GM.go RX7 (by decide) rfl (Nat.le_of_ble_eq_true rfl) ?_
  intro p e s m args below meth c ls R Q H locs X hr hlk hT hG hl hR hQ
  have hx := X.1
  have hb := X.2.1
  have hl : lv_has ls 3 [(0, .ref (q 22)), (1, .int p1), (2, .int p2)] := hl
  unfold f7_loss at h
  refine lv_aload_n hx hb dX7_loss_0 rfl (lv_at hl 0 rfl) ?_
  refine g_get (v := .ref (q 24)) X hT hG fl_X7_19 22 rfl rfl rfl dX7_loss_1 ?_
  refine lv_iload_n hx hb dX7_loss_4 rfl (lv_at hl 1 rfl) ?_
  obtain ⟨r_1, ec2, h⟩ := bnd1_some h
  refine g_callVr [.int p1] [] 24 X hT hG ml_X7_84 (c_X3_has hq ec2) rfl rfl rfl rfl rfl hl.1 (Nat.le_of_ble_eq_true rfl) (by rw [hR]; exact ⟨Nat.le_of_ble_eq_true rfl, Nat.le_of_ble_eq_true rfl⟩) dX7_loss_5 (fun H locs hG => ?_)
  refine lv_if_ne (tgt := 14) hx hb dX7_loss_8 (by decide) (fun cb3 => ?_) (fun cb3 => ?_)
  · have h := ite_f cb3 h
    refine lv_iload_n hx hb dX7_loss_14 rfl (lv_at hl 2 rfl) ?_
    refine lv_if_lt (tgt := 25) hx hb dX7_loss_15 (by decide) (fun cb4 => ?_) (fun cb4 => ?_)
    · have h := ite_t cb4 h
      refine lv_bipush (v := (-102)) hx hb dX7_loss_25 (by decide) ?_
      cases h
      rw [hQ]
      exact g_iret X hT hG hr hlk dX7_loss_27
    · have h := ite_f cb4 h
      refine lv_iload_n hx hb dX7_loss_18 rfl (lv_at hl 2 rfl) ?_
      refine lv_sipush (v := 999) hx hb dX7_loss_19 (by decide) ?_
      refine lv_icmp_le (tgt := 28) hx hb dX7_loss_22 (by decide) (fun cb5 => ?_) (fun cb5 => ?_)
      · have h := ite_t cb5 h
        refine lv_aload_n hx hb dX7_loss_28 rfl (lv_at hl 0 rfl) ?_
        refine g_get (v := .ref (q 28)) X hT hG fl_X7_47 22 rfl rfl rfl dX7_loss_29 ?_
        refine lv_aload_n hx hb dX7_loss_32 rfl (lv_at hl 0 rfl) ?_
        refine g_get (v := .ref (q 24)) X hT hG fl_X7_19 22 rfl rfl rfl dX7_loss_33 ?_
        refine lv_iload_n hx hb dX7_loss_36 rfl (lv_at hl 1 rfl) ?_
        refine lv_iload_n hx hb dX7_loss_37 rfl (lv_at hl 2 rfl) ?_
        obtain ⟨r_6, gShutKeys_7, aShut_8, ec9, h⟩ := bnd3_some h
        refine g_callVr [.ref (q 24), .int p1, .int p2] [] 28 X hT hG ml_X7_205 (c_X5_lossWithout_28_24 hq ec9) rfl rfl rfl rfl rfl hl.1 (Nat.le_of_ble_eq_true rfl) (by rw [hR]; exact ⟨Nat.le_of_ble_eq_true rfl, Nat.le_of_ble_eq_true rfl⟩) dX7_loss_38 (fun H locs hG => ?_)
        have hG : GH D cI cZ layB q s ([iReadings, iAlterations, iRankings, iLetters, iCurrent, iDue, iSize, iLsize], [], [gCosts, gWorths, gMiddles, gApart, gApartWithout, gNeeded, gUps, gDowns, gKeys, gNexts, gShutKeys_7, aCodes, aPbegins, aPends, aPlengths, aBegins, aEnds, aLengths, aRanks, aRoadsByRank, aRow, aRanksBefore, aBusy, aOpen, aShut_8]) H locs := hG
        cases h
        rw [hQ]
        exact g_iret X hT hG hr hlk dX7_loss_41
      · have h := ite_f cb5 h
        refine lv_bipush (v := (-102)) hx hb dX7_loss_25 (by decide) ?_
        cases h
        rw [hQ]
        exact g_iret X hT hG hr hlk dX7_loss_27
  · have h := ite_t cb3 h
    refine lv_bipush (v := (-101)) hx hb dX7_loss_11 (by decide) ?_
    cases h
    rw [hQ]
    exact g_iret X hT hG hr hlk dX7_loss_13
def f6_busiest_b1 (p1 : Int32) (aBusy : (Nat → Int32)) (x2_1 : Int32) (x3_2 : Int32) : Option ((Int32 × Int32) ⊕ (Int32)) :=
  if p1 ≤ x3_2 then (some (.inr x2_1)) else bnd1 (if x2_1 = (-1) then (some x3_2) else ckin x3_2 12 (ckin x2_1 12 (if (aBusy x3_2.toNatClampNeg) ≤ (aBusy x2_1.toNatClampNeg) then (some x2_1) else some x3_2))) fun (x2_6 : Int32) => bd (x3_2 + 1) fun x3_12 => some (.inl (x2_6, x3_12))
def f6_busiest (fu : Nat) (p1 : Int32) (aBusy : (Nat → Int32)) : Option (Int32) :=
  bnd1 (lpG (fun z => f6_busiest_b1 p1 aBusy z.1 z.2) fu (((-1) : Int32), (0 : Int32))) fun (x2_3 : Int32) => some x2_3
set_option maxHeartbeats 4000000 in
set_option maxRecDepth 100000 in
theorem c_X6_busiest (hq : gJ layB q) {fu : Nat} {p1 : Int32} {o_r : Int32} (h : f6_busiest fu p1 aBusy = some o_r) :
    GM l yX6_busiest cX6_busiest 4 (some .int) 0 0 D cI cZ layB q [.ref (q 27), .int p1] ([iReadings, iAlterations, iRankings, iLetters, iCurrent, iDue, iSize, iLsize], [], [gCosts, gWorths, gMiddles, gApart, gApartWithout, gNeeded, gUps, gDowns, gKeys, gNexts, gShutKeys, aCodes, aPbegins, aPends, aPlengths, aBegins, aEnds, aLengths, aRanks, aRoadsByRank, aRow, aRanksBefore, aBusy, aOpen, aShut]) (some (.int o_r)) ([iReadings, iAlterations, iRankings, iLetters, iCurrent, iDue, iSize, iLsize], [], [gCosts, gWorths, gMiddles, gApart, gApartWithout, gNeeded, gUps, gDowns, gKeys, gNexts, gShutKeys, aCodes, aPbegins, aPends, aPlengths, aBegins, aEnds, aLengths, aRanks, aRoadsByRank, aRow, aRanksBefore, aBusy, aOpen, aShut]) := by
  refine GM.go RX6 (by decide) rfl (Nat.le_of_ble_eq_true rfl) ?_
  intro p e s m args below meth c ls R Q H locs X hr hlk hT hG hl hR hQ
  have hx := X.1
  have hb := X.2.1
  have hl : lv_has ls 4 [(0, .ref (q 27)), (1, .int p1)] := hl
  unfold f6_busiest at h
  refine lv_iconst (v := (-1)) hx hb dX6_busiest_0 (by decide) ?_
  refine lv_istore_n (lv' := [(2, .int (-1)), (0, .ref (q 27)), (1, .int p1)]) hx hb dX6_busiest_1 rfl hl (by decide) rfl (fun ls hl => ?_)
  refine lv_iconst (v := 0) hx hb dX6_busiest_2 (by decide) ?_
  refine lv_istore_n (lv' := [(3, .int 0), (2, .int (-1)), (0, .ref (q 27)), (1, .int p1)]) hx hb dX6_busiest_3 rfl hl (by decide) rfl (fun ls hl => ?_)
  obtain ⟨x2_3, eL4, h⟩ := bnd1_some h
  have JX4 : ∀ (H : Heap) (locs : List Loc) (ls : Array Slot), GH D cI cZ layB q s ([iReadings, iAlterations, iRankings, iLetters, iCurrent, iDue, iSize, iLsize], [], [gCosts, gWorths, gMiddles, gApart, gApartWithout, gNeeded, gUps, gDowns, gKeys, gNexts, gShutKeys, aCodes, aPbegins, aPends, aPlengths, aBegins, aEnds, aLengths, aRanks, aRoadsByRank, aRow, aRanksBefore, aBusy, aOpen, aShut]) H locs → lv_has ls 4 [(2, .int x2_3)] → W p l e R s m args below meth c H locs 0 0 Q (F0 m 37 ls []) := by
    intro H locs ls hG hl
    refine lv_iload_n hx hb dX6_busiest_37 rfl (lv_at hl 0 rfl) ?_
    cases h
    rw [hQ]
    exact g_iret X hT hG hr hlk dX6_busiest_38
  refine lpG_W (Wh := fun z => ∀ (H : Heap) (locs : List Loc) (ls : Array Slot), GH D cI cZ layB q s ([iReadings, iAlterations, iRankings, iLetters, iCurrent, iDue, iSize, iLsize], [], [gCosts, gWorths, gMiddles, gApart, gApartWithout, gNeeded, gUps, gDowns, gKeys, gNexts, gShutKeys, aCodes, aPbegins, aPends, aPlengths, aBegins, aEnds, aLengths, aRanks, aRoadsByRank, aRow, aRanksBefore, aBusy, aOpen, aShut]) H locs → lv_has ls 4 [(0, .ref (q 27)), (1, .int p1), (2, .int (z.1)), (3, .int (z.2))] → W p l e R s m args below meth c H locs 0 0 Q (F0 m 4 ls [])) ?_ fu _ eL4 H locs ls hG (lv_sub hl [2, 3, 1, 0] rfl)
  intro z rr4 hb4 hin4 hout4
  obtain ⟨x2_1, x3_2⟩ := z
  intro H locs ls hG hl
  have hb4 : f6_busiest_b1 p1 aBusy x2_1 x3_2 = some rr4 := hb4
  have hG : GH D cI cZ layB q s ([iReadings, iAlterations, iRankings, iLetters, iCurrent, iDue, iSize, iLsize], [], [gCosts, gWorths, gMiddles, gApart, gApartWithout, gNeeded, gUps, gDowns, gKeys, gNexts, gShutKeys, aCodes, aPbegins, aPends, aPlengths, aBegins, aEnds, aLengths, aRanks, aRoadsByRank, aRow, aRanksBefore, aBusy, aOpen, aShut]) H locs := hG
  have hl : lv_has ls 4 [(0, .ref (q 27)), (1, .int p1), (2, .int x2_1), (3, .int x3_2)] := hl
  unfold f6_busiest_b1 at hb4
  refine lv_iload_n hx hb dX6_busiest_4 rfl (lv_at hl 3 rfl) ?_
  refine lv_iload_n hx hb dX6_busiest_5 rfl (lv_at hl 1 rfl) ?_
  refine lv_icmp_ge (tgt := 37) hx hb dX6_busiest_6 (by decide) (fun cb5 => ?_) (fun cb5 => ?_)
  · have hb4 := ite_t cb5 hb4
    have eo := hout4 _ (Option.some.inj hb4).symm
    cases eo
    exact JX4 H locs ls hG (lv_sub hl [2] rfl)
  · have hb4 := ite_f cb5 hb4
    refine lv_iload_n hx hb dX6_busiest_9 rfl (lv_at hl 2 rfl) ?_
    refine lv_iconst (v := (-1)) hx hb dX6_busiest_10 (by decide) ?_
    obtain ⟨x2_6, er7, hb4⟩ := bnd1_some hb4
    have J7 : ∀ (H : Heap) (locs : List Loc) (ls : Array Slot), GH D cI cZ layB q s ([iReadings, iAlterations, iRankings, iLetters, iCurrent, iDue, iSize, iLsize], [], [gCosts, gWorths, gMiddles, gApart, gApartWithout, gNeeded, gUps, gDowns, gKeys, gNexts, gShutKeys, aCodes, aPbegins, aPends, aPlengths, aBegins, aEnds, aLengths, aRanks, aRoadsByRank, aRow, aRanksBefore, aBusy, aOpen, aShut]) H locs → lv_has ls 4 [(0, .ref (q 27)), (1, .int p1), (2, .int x2_6), (3, .int x3_2)] → W p l e R s m args below meth c H locs 0 0 Q (F0 m 31 ls []) := by
      intro H locs ls hG hl
      obtain ⟨x3_12, ex3_12⟩ : ∃ z : Int32, z = x3_2 + 1 := ⟨_, rfl⟩
      have hb4 := bd_e ex3_12 hb4
      refine lv_iinc (v := x3_12) (lv' := [(3, .int x3_12), (0, .ref (q 27)), (1, .int p1), (2, .int x2_6)]) hx hb dX6_busiest_31 hl (k := 3) rfl (by rw [ex3_12]; rfl) (by decide) rfl (fun ls hl => ?_)
      refine lv_goto (tgt := 4) hx hb dX6_busiest_34 (by decide) ?_
      exact hin4 _ (Option.some.inj hb4).symm H locs ls hG (lv_sub hl [1, 2, 3, 0] rfl)
    refine lv_icmp_eq (tgt := 29) hx hb dX6_busiest_11 (by decide) (fun cb8 => ?_) (fun cb8 => ?_)
    · have er7 := ite_t cb8 er7
      refine lv_iload_n hx hb dX6_busiest_29 rfl (lv_at hl 3 rfl) ?_
      refine lv_istore_n (lv' := [(2, .int x3_2), (0, .ref (q 27)), (1, .int p1), (3, .int x3_2)]) hx hb dX6_busiest_30 rfl hl (by decide) rfl (fun ls hl => ?_)
      cases er7
      exact J7 H locs ls hG (lv_sub hl [1, 2, 0, 3] rfl)
    · have er7 := ite_f cb8 er7
      refine lv_aload_n hx hb dX6_busiest_14 rfl (lv_at hl 0 rfl) ?_
      refine g_get (v := .ref (q 40)) X hT hG fl_X6_21 27 rfl rfl rfl dX6_busiest_15 ?_
      refine lv_iload_n hx hb dX6_busiest_18 rfl (lv_at hl 3 rfl) ?_
      obtain ⟨hi9, er7⟩ := ckin_some er7
      refine g_ald (f := aBusy) X hT hG 40 rfl rfl hi9 dX6_busiest_19 ?_
      refine lv_aload_n hx hb dX6_busiest_20 rfl (lv_at hl 0 rfl) ?_
      refine g_get (v := .ref (q 40)) X hT hG fl_X6_21 27 rfl rfl rfl dX6_busiest_21 ?_
      refine lv_iload_n hx hb dX6_busiest_24 rfl (lv_at hl 2 rfl) ?_
      obtain ⟨hi10, er7⟩ := ckin_some er7
      refine g_ald (f := aBusy) X hT hG 40 rfl rfl hi10 dX6_busiest_25 ?_
      refine lv_icmp_le (tgt := 31) hx hb dX6_busiest_26 (by decide) (fun cb11 => ?_) (fun cb11 => ?_)
      · have er7 := ite_t cb11 er7
        cases er7
        exact J7 H locs ls hG (lv_sub hl [0, 1, 2, 3] rfl)
      · have er7 := ite_f cb11 er7
        refine lv_iload_n hx hb dX6_busiest_29 rfl (lv_at hl 3 rfl) ?_
        refine lv_istore_n (lv' := [(2, .int x3_2), (0, .ref (q 27)), (1, .int p1), (3, .int x3_2)]) hx hb dX6_busiest_30 rfl hl (by decide) rfl (fun ls hl => ?_)
        cases er7
        exact J7 H locs ls hG (lv_sub hl [1, 2, 0, 3] rfl)
def f6_mostBusy (fu : Nat) (p1 : Int32) (aBusy : (Nat → Int32)) : Option (Int32) :=
  bnd1 (f6_busiest fu p1 aBusy) fun (r_1 : Int32) => bnd1 (if r_1 = (-1) then (some 0) else ckin r_1 12 (some (aBusy r_1.toNatClampNeg))) fun (y_3 : Int32) => some y_3
set_option maxHeartbeats 4000000 in
set_option maxRecDepth 100000 in
theorem c_X6_mostBusy (hq : gJ layB q) {fu : Nat} {p1 : Int32} {o_r : Int32} (h : f6_mostBusy fu p1 aBusy = some o_r) :
    GM l yX6_mostBusy cX6_mostBusy 3 (some .int) 1 23 D cI cZ layB q [.ref (q 27), .int p1] ([iReadings, iAlterations, iRankings, iLetters, iCurrent, iDue, iSize, iLsize], [], [gCosts, gWorths, gMiddles, gApart, gApartWithout, gNeeded, gUps, gDowns, gKeys, gNexts, gShutKeys, aCodes, aPbegins, aPends, aPlengths, aBegins, aEnds, aLengths, aRanks, aRoadsByRank, aRow, aRanksBefore, aBusy, aOpen, aShut]) (some (.int o_r)) ([iReadings, iAlterations, iRankings, iLetters, iCurrent, iDue, iSize, iLsize], [], [gCosts, gWorths, gMiddles, gApart, gApartWithout, gNeeded, gUps, gDowns, gKeys, gNexts, gShutKeys, aCodes, aPbegins, aPends, aPlengths, aBegins, aEnds, aLengths, aRanks, aRoadsByRank, aRow, aRanksBefore, aBusy, aOpen, aShut]) := by
  refine GM.go RX6 (by decide) rfl (Nat.le_of_ble_eq_true rfl) ?_
  intro p e s m args below meth c ls R Q H locs X hr hlk hT hG hl hR hQ
  have hx := X.1
  have hb := X.2.1
  have hl : lv_has ls 3 [(0, .ref (q 27)), (1, .int p1)] := hl
  unfold f6_mostBusy at h
  refine lv_aload_n hx hb dX6_mostBusy_0 rfl (lv_at hl 0 rfl) ?_
  refine lv_iload_n hx hb dX6_mostBusy_1 rfl (lv_at hl 1 rfl) ?_
  obtain ⟨r_1, ec2, h⟩ := bnd1_some h
  refine g_callVr [.int p1] [] 27 X hT hG ml_X6_69 (c_X6_busiest hq ec2) rfl rfl rfl rfl rfl hl.1 (Nat.le_of_ble_eq_true rfl) (by rw [hR]; exact ⟨Nat.le_of_ble_eq_true rfl, Nat.le_of_ble_eq_true rfl⟩) dX6_mostBusy_2 (fun H locs hG => ?_)
  refine lv_istore_n (lv' := [(2, .int r_1), (0, .ref (q 27)), (1, .int p1)]) hx hb dX6_mostBusy_5 rfl hl (by decide) rfl (fun ls hl => ?_)
  refine lv_iload_n hx hb dX6_mostBusy_6 rfl (lv_at hl 0 rfl) ?_
  refine lv_iconst (v := (-1)) hx hb dX6_mostBusy_7 (by decide) ?_
  obtain ⟨y_3, er4, h⟩ := bnd1_some h
  have J4 : ∀ (H : Heap) (locs : List Loc) (ls : Array Slot), GH D cI cZ layB q s ([iReadings, iAlterations, iRankings, iLetters, iCurrent, iDue, iSize, iLsize], [], [gCosts, gWorths, gMiddles, gApart, gApartWithout, gNeeded, gUps, gDowns, gKeys, gNexts, gShutKeys, aCodes, aPbegins, aPends, aPlengths, aBegins, aEnds, aLengths, aRanks, aRoadsByRank, aRow, aRanksBefore, aBusy, aOpen, aShut]) H locs → lv_has ls 3 [] → W p l e R s m args below meth c H locs 0 0 Q (F0 m 21 ls [.int y_3]) := by
    intro H locs ls hG hl
    cases h
    rw [hQ]
    exact g_iret X hT hG hr hlk dX6_mostBusy_21
  refine lv_icmp_ne (tgt := 15) hx hb dX6_mostBusy_8 (by decide) (fun cb5 => ?_) (fun cb5 => ?_)
  · have er4 := ite_f cb5 er4
    refine lv_aload_n hx hb dX6_mostBusy_15 rfl (lv_at hl 1 rfl) ?_
    refine g_get (v := .ref (q 40)) X hT hG fl_X6_21 27 rfl rfl rfl dX6_mostBusy_16 ?_
    refine lv_iload_n hx hb dX6_mostBusy_19 rfl (lv_at hl 0 rfl) ?_
    obtain ⟨hi6, er4⟩ := ckin_some er4
    refine g_ald (f := aBusy) X hT hG 40 rfl rfl hi6 dX6_mostBusy_20 ?_
    cases er4
    exact J4 H locs ls hG (lv_sub hl [] rfl)
  · have er4 := ite_t cb5 er4
    refine lv_iconst (v := 0) hx hb dX6_mostBusy_11 (by decide) ?_
    refine lv_goto (tgt := 21) hx hb dX6_mostBusy_12 (by decide) ?_
    cases er4
    exact J4 H locs ls hG (lv_sub hl [] rfl)
def f2_countArcs_b2 (iLsize : Int32) (x2_2 : Int32) (gWorths : (Nat → Int32)) (x1_6 : Int32) (x3_7 : Int32) : Option ((Int32 × Int32) ⊕ (Int32)) :=
  if iLsize ≤ x3_7 then (some (.inr x1_6)) else bnd1 (f2_hasArc x2_2 x3_7 gWorths) fun (r_11 : Int32) => bnd1 (if r_11 = 0 then (some 0) else some 1) fun (y_13 : Int32) => bd ((x1_6 + y_13)) fun x1_16 => bd (x3_7 + 1) fun x3_17 => some (.inl (x1_16, x3_17))
def f2_countArcs_b1 (fu : Nat) (iLsize : Int32) (gWorths : (Nat → Int32)) (x1_1 : Int32) (x2_2 : Int32) : Option ((Int32 × Int32) ⊕ (Int32)) :=
  if iLsize ≤ x2_2 then (some (.inr x1_1)) else bnd1 (lpG (fun z => f2_countArcs_b2 iLsize x2_2 gWorths z.1 z.2) fu (x1_1, (0 : Int32))) fun (x1_8 : Int32) => bd (x2_2 + 1) fun x2_18 => some (.inl (x1_8, x2_18))
def f2_countArcs (fu : Nat) (iLsize : Int32) (gWorths : (Nat → Int32)) : Option (Int32) :=
  bnd1 (lpG (fun z => f2_countArcs_b1 fu iLsize gWorths z.1 z.2) fu ((0 : Int32), (0 : Int32))) fun (x1_3 : Int32) => some x1_3
set_option maxHeartbeats 4000000 in
set_option maxRecDepth 100000 in
theorem c_X2_countArcs (hq : gJ layB q) {fu : Nat} {o_r : Int32} (h : f2_countArcs fu iLsize gWorths = some o_r) :
    GM l yX2_countArcs cX2_countArcs 4 (some .int) 2 44 D cI cZ layB q [.ref (q 25)] ([iReadings, iAlterations, iRankings, iLetters, iCurrent, iDue, iSize, iLsize], [], [gCosts, gWorths, gMiddles, gApart, gApartWithout, gNeeded, gUps, gDowns, gKeys, gNexts, gShutKeys, aCodes, aPbegins, aPends, aPlengths, aBegins, aEnds, aLengths, aRanks, aRoadsByRank, aRow, aRanksBefore, aBusy, aOpen, aShut]) (some (.int o_r)) ([iReadings, iAlterations, iRankings, iLetters, iCurrent, iDue, iSize, iLsize], [], [gCosts, gWorths, gMiddles, gApart, gApartWithout, gNeeded, gUps, gDowns, gKeys, gNexts, gShutKeys, aCodes, aPbegins, aPends, aPlengths, aBegins, aEnds, aLengths, aRanks, aRoadsByRank, aRow, aRanksBefore, aBusy, aOpen, aShut]) := by
  refine GM.go RX2 (by decide) rfl (Nat.le_of_ble_eq_true rfl) ?_
  intro p e s m args below meth c ls R Q H locs X hr hlk hT hG hl hR hQ
  have hx := X.1
  have hb := X.2.1
  have hl : lv_has ls 4 [(0, .ref (q 25))] := hl
  unfold f2_countArcs at h
  refine lv_iconst (v := 0) hx hb dX2_countArcs_0 (by decide) ?_
  refine lv_istore_n (lv' := [(1, .int 0), (0, .ref (q 25))]) hx hb dX2_countArcs_1 rfl hl (by decide) rfl (fun ls hl => ?_)
  refine lv_iconst (v := 0) hx hb dX2_countArcs_2 (by decide) ?_
  refine lv_istore_n (lv' := [(2, .int 0), (1, .int 0), (0, .ref (q 25))]) hx hb dX2_countArcs_3 rfl hl (by decide) rfl (fun ls hl => ?_)
  obtain ⟨x1_3, eL4, h⟩ := bnd1_some h
  have JX4 : ∀ (H : Heap) (locs : List Loc) (ls : Array Slot), GH D cI cZ layB q s ([iReadings, iAlterations, iRankings, iLetters, iCurrent, iDue, iSize, iLsize], [], [gCosts, gWorths, gMiddles, gApart, gApartWithout, gNeeded, gUps, gDowns, gKeys, gNexts, gShutKeys, aCodes, aPbegins, aPends, aPlengths, aBegins, aEnds, aLengths, aRanks, aRoadsByRank, aRow, aRanksBefore, aBusy, aOpen, aShut]) H locs → lv_has ls 4 [(1, .int x1_3)] → W p l e R s m args below meth c H locs 0 0 Q (F0 m 51 ls []) := by
    intro H locs ls hG hl
    refine lv_iload_n hx hb dX2_countArcs_51 rfl (lv_at hl 0 rfl) ?_
    cases h
    rw [hQ]
    exact g_iret X hT hG hr hlk dX2_countArcs_52
  refine lpG_W (Wh := fun z => ∀ (H : Heap) (locs : List Loc) (ls : Array Slot), GH D cI cZ layB q s ([iReadings, iAlterations, iRankings, iLetters, iCurrent, iDue, iSize, iLsize], [], [gCosts, gWorths, gMiddles, gApart, gApartWithout, gNeeded, gUps, gDowns, gKeys, gNexts, gShutKeys, aCodes, aPbegins, aPends, aPlengths, aBegins, aEnds, aLengths, aRanks, aRoadsByRank, aRow, aRanksBefore, aBusy, aOpen, aShut]) H locs → lv_has ls 4 [(0, .ref (q 25)), (1, .int (z.1)), (2, .int (z.2))] → W p l e R s m args below meth c H locs 0 0 Q (F0 m 4 ls [])) ?_ fu _ eL4 H locs ls hG (lv_sub hl [2, 1, 0] rfl)
  intro z rr4 hb4 hin4 hout4
  obtain ⟨x1_1, x2_2⟩ := z
  intro H locs ls hG hl
  have hb4 : f2_countArcs_b1 fu iLsize gWorths x1_1 x2_2 = some rr4 := hb4
  have hG : GH D cI cZ layB q s ([iReadings, iAlterations, iRankings, iLetters, iCurrent, iDue, iSize, iLsize], [], [gCosts, gWorths, gMiddles, gApart, gApartWithout, gNeeded, gUps, gDowns, gKeys, gNexts, gShutKeys, aCodes, aPbegins, aPends, aPlengths, aBegins, aEnds, aLengths, aRanks, aRoadsByRank, aRow, aRanksBefore, aBusy, aOpen, aShut]) H locs := hG
  have hl : lv_has ls 4 [(0, .ref (q 25)), (1, .int x1_1), (2, .int x2_2)] := hl
  unfold f2_countArcs_b1 at hb4
  refine lv_iload_n hx hb dX2_countArcs_4 rfl (lv_at hl 2 rfl) ?_
  refine lv_aload_n hx hb dX2_countArcs_5 rfl (lv_at hl 0 rfl) ?_
  refine g_get (v := .int iLsize) X hT hG fl_X2_47 25 rfl rfl rfl dX2_countArcs_6 ?_
  refine lv_icmp_ge (tgt := 51) hx hb dX2_countArcs_9 (by decide) (fun cb5 => ?_) (fun cb5 => ?_)
  · have hb4 := ite_t cb5 hb4
    have eo := hout4 _ (Option.some.inj hb4).symm
    cases eo
    exact JX4 H locs ls hG (lv_sub hl [1] rfl)
  · have hb4 := ite_f cb5 hb4
    refine lv_iconst (v := 0) hx hb dX2_countArcs_12 (by decide) ?_
    refine lv_istore_n (lv' := [(3, .int 0), (0, .ref (q 25)), (1, .int x1_1), (2, .int x2_2)]) hx hb dX2_countArcs_13 rfl hl (by decide) rfl (fun ls hl => ?_)
    obtain ⟨x1_8, eL9, hb4⟩ := bnd1_some hb4
    have JX9 : ∀ (H : Heap) (locs : List Loc) (ls : Array Slot), GH D cI cZ layB q s ([iReadings, iAlterations, iRankings, iLetters, iCurrent, iDue, iSize, iLsize], [], [gCosts, gWorths, gMiddles, gApart, gApartWithout, gNeeded, gUps, gDowns, gKeys, gNexts, gShutKeys, aCodes, aPbegins, aPends, aPlengths, aBegins, aEnds, aLengths, aRanks, aRoadsByRank, aRow, aRanksBefore, aBusy, aOpen, aShut]) H locs → lv_has ls 4 [(0, .ref (q 25)), (1, .int x1_8), (2, .int x2_2)] → W p l e R s m args below meth c H locs 0 0 Q (F0 m 45 ls []) := by
      intro H locs ls hG hl
      obtain ⟨x2_18, ex2_18⟩ : ∃ z : Int32, z = x2_2 + 1 := ⟨_, rfl⟩
      have hb4 := bd_e ex2_18 hb4
      refine lv_iinc (v := x2_18) (lv' := [(2, .int x2_18), (0, .ref (q 25)), (1, .int x1_8)]) hx hb dX2_countArcs_45 hl (k := 2) rfl (by rw [ex2_18]; rfl) (by decide) rfl (fun ls hl => ?_)
      refine lv_goto (tgt := 4) hx hb dX2_countArcs_48 (by decide) ?_
      exact hin4 _ (Option.some.inj hb4).symm H locs ls hG (lv_sub hl [1, 2, 0] rfl)
    refine lpG_W (Wh := fun z => ∀ (H : Heap) (locs : List Loc) (ls : Array Slot), GH D cI cZ layB q s ([iReadings, iAlterations, iRankings, iLetters, iCurrent, iDue, iSize, iLsize], [], [gCosts, gWorths, gMiddles, gApart, gApartWithout, gNeeded, gUps, gDowns, gKeys, gNexts, gShutKeys, aCodes, aPbegins, aPends, aPlengths, aBegins, aEnds, aLengths, aRanks, aRoadsByRank, aRow, aRanksBefore, aBusy, aOpen, aShut]) H locs → lv_has ls 4 [(0, .ref (q 25)), (1, .int (z.1)), (2, .int x2_2), (3, .int (z.2))] → W p l e R s m args below meth c H locs 0 0 Q (F0 m 14 ls [])) ?_ fu _ eL9 H locs ls hG (lv_sub hl [1, 2, 3, 0] rfl)
    intro z rr9 hb9 hin9 hout9
    obtain ⟨x1_6, x3_7⟩ := z
    intro H locs ls hG hl
    have hb9 : f2_countArcs_b2 iLsize x2_2 gWorths x1_6 x3_7 = some rr9 := hb9
    have hG : GH D cI cZ layB q s ([iReadings, iAlterations, iRankings, iLetters, iCurrent, iDue, iSize, iLsize], [], [gCosts, gWorths, gMiddles, gApart, gApartWithout, gNeeded, gUps, gDowns, gKeys, gNexts, gShutKeys, aCodes, aPbegins, aPends, aPlengths, aBegins, aEnds, aLengths, aRanks, aRoadsByRank, aRow, aRanksBefore, aBusy, aOpen, aShut]) H locs := hG
    have hl : lv_has ls 4 [(0, .ref (q 25)), (1, .int x1_6), (2, .int x2_2), (3, .int x3_7)] := hl
    unfold f2_countArcs_b2 at hb9
    refine lv_iload_n hx hb dX2_countArcs_14 rfl (lv_at hl 3 rfl) ?_
    refine lv_aload_n hx hb dX2_countArcs_15 rfl (lv_at hl 0 rfl) ?_
    refine g_get (v := .int iLsize) X hT hG fl_X2_47 25 rfl rfl rfl dX2_countArcs_16 ?_
    refine lv_icmp_ge (tgt := 45) hx hb dX2_countArcs_19 (by decide) (fun cb10 => ?_) (fun cb10 => ?_)
    · have hb9 := ite_t cb10 hb9
      have eo := hout9 _ (Option.some.inj hb9).symm
      cases eo
      exact JX9 H locs ls hG (lv_sub hl [0, 1, 2] rfl)
    · have hb9 := ite_f cb10 hb9
      refine lv_iload_n hx hb dX2_countArcs_22 rfl (lv_at hl 1 rfl) ?_
      refine lv_aload_n hx hb dX2_countArcs_23 rfl (lv_at hl 0 rfl) ?_
      refine lv_iload_n hx hb dX2_countArcs_24 rfl (lv_at hl 2 rfl) ?_
      refine lv_iload_n hx hb dX2_countArcs_25 rfl (lv_at hl 3 rfl) ?_
      obtain ⟨r_11, ec12, hb9⟩ := bnd1_some hb9
      refine g_callVr [.int x2_2, .int x3_7] [.int x1_6] 25 X hT hG ml_X2_99 (c_X2_hasArc hq ec12) rfl rfl rfl rfl rfl hl.1 (Nat.le_of_ble_eq_true rfl) (by rw [hR]; exact ⟨Nat.le_of_ble_eq_true rfl, Nat.le_of_ble_eq_true rfl⟩) dX2_countArcs_26 (fun H locs hG => ?_)
      obtain ⟨y_13, er14, hb9⟩ := bnd1_some hb9
      have J14 : ∀ (H : Heap) (locs : List Loc) (ls : Array Slot), GH D cI cZ layB q s ([iReadings, iAlterations, iRankings, iLetters, iCurrent, iDue, iSize, iLsize], [], [gCosts, gWorths, gMiddles, gApart, gApartWithout, gNeeded, gUps, gDowns, gKeys, gNexts, gShutKeys, aCodes, aPbegins, aPends, aPlengths, aBegins, aEnds, aLengths, aRanks, aRoadsByRank, aRow, aRanksBefore, aBusy, aOpen, aShut]) H locs → lv_has ls 4 [(0, .ref (q 25)), (2, .int x2_2), (3, .int x3_7)] → W p l e R s m args below meth c H locs 0 0 Q (F0 m 37 ls [.int y_13, .int x1_6]) := by
        intro H locs ls hG hl
        refine lv_iadd hx hb dX2_countArcs_37 ?_
        refine lv_topi (fun x1_16 ex1_16 => ?_)
        have hb9 := bd_e ex1_16 hb9
        refine lv_istore_n (lv' := [(1, .int x1_16), (0, .ref (q 25)), (2, .int x2_2), (3, .int x3_7)]) hx hb dX2_countArcs_38 rfl hl (by decide) rfl (fun ls hl => ?_)
        obtain ⟨x3_17, ex3_17⟩ : ∃ z : Int32, z = x3_7 + 1 := ⟨_, rfl⟩
        have hb9 := bd_e ex3_17 hb9
        refine lv_iinc (v := x3_17) (lv' := [(3, .int x3_17), (1, .int x1_16), (0, .ref (q 25)), (2, .int x2_2)]) hx hb dX2_countArcs_39 hl (k := 3) rfl (by rw [ex3_17]; rfl) (by decide) rfl (fun ls hl => ?_)
        refine lv_goto (tgt := 14) hx hb dX2_countArcs_42 (by decide) ?_
        exact hin9 _ (Option.some.inj hb9).symm H locs ls hG (lv_sub hl [2, 1, 3, 0] rfl)
      refine lv_if_eq (tgt := 36) hx hb dX2_countArcs_29 (by decide) (fun cb15 => ?_) (fun cb15 => ?_)
      · have er14 := ite_t cb15 er14
        refine lv_iconst (v := 0) hx hb dX2_countArcs_36 (by decide) ?_
        cases er14
        exact J14 H locs ls hG (lv_sub hl [0, 2, 3] rfl)
      · have er14 := ite_f cb15 er14
        refine lv_iconst (v := 1) hx hb dX2_countArcs_32 (by decide) ?_
        refine lv_goto (tgt := 37) hx hb dX2_countArcs_33 (by decide) ?_
        cases er14
        exact J14 H locs ls hG (lv_sub hl [0, 2, 3] rfl)
def f2_countShortcuts_b1 (fu : Nat) (iLsize : Int32) (gMiddles : (Nat → Int32)) (x1_1 : Int32) (x2_2 : Int32) : Option ((Int32 × Int32) ⊕ (Int32)) :=
  if iLsize ≤ x2_2 then (some (.inr x1_1)) else bnd1 (f2_countArcsOver fu iLsize gMiddles x2_2) fun (r_6 : Int32) => bd ((x1_1 + r_6)) fun x1_8 => bd (x2_2 + 1) fun x2_9 => some (.inl (x1_8, x2_9))
def f2_countShortcuts (fu : Nat) (iLsize : Int32) (gMiddles : (Nat → Int32)) : Option (Int32) :=
  bnd1 (lpG (fun z => f2_countShortcuts_b1 fu iLsize gMiddles z.1 z.2) fu ((0 : Int32), (0 : Int32))) fun (x1_3 : Int32) => some x1_3
set_option maxHeartbeats 4000000 in
set_option maxRecDepth 100000 in
theorem c_X2_countShortcuts (hq : gJ layB q) {fu : Nat} {o_r : Int32} (h : f2_countShortcuts fu iLsize gMiddles = some o_r) :
    GM l yX2_countShortcuts cX2_countShortcuts 3 (some .int) 2 46 D cI cZ layB q [.ref (q 25)] ([iReadings, iAlterations, iRankings, iLetters, iCurrent, iDue, iSize, iLsize], [], [gCosts, gWorths, gMiddles, gApart, gApartWithout, gNeeded, gUps, gDowns, gKeys, gNexts, gShutKeys, aCodes, aPbegins, aPends, aPlengths, aBegins, aEnds, aLengths, aRanks, aRoadsByRank, aRow, aRanksBefore, aBusy, aOpen, aShut]) (some (.int o_r)) ([iReadings, iAlterations, iRankings, iLetters, iCurrent, iDue, iSize, iLsize], [], [gCosts, gWorths, gMiddles, gApart, gApartWithout, gNeeded, gUps, gDowns, gKeys, gNexts, gShutKeys, aCodes, aPbegins, aPends, aPlengths, aBegins, aEnds, aLengths, aRanks, aRoadsByRank, aRow, aRanksBefore, aBusy, aOpen, aShut]) := by
  refine GM.go RX2 (by decide) rfl (Nat.le_of_ble_eq_true rfl) ?_
  intro p e s m args below meth c ls R Q H locs X hr hlk hT hG hl hR hQ
  have hx := X.1
  have hb := X.2.1
  have hl : lv_has ls 3 [(0, .ref (q 25))] := hl
  unfold f2_countShortcuts at h
  refine lv_iconst (v := 0) hx hb dX2_countShortcuts_0 (by decide) ?_
  refine lv_istore_n (lv' := [(1, .int 0), (0, .ref (q 25))]) hx hb dX2_countShortcuts_1 rfl hl (by decide) rfl (fun ls hl => ?_)
  refine lv_iconst (v := 0) hx hb dX2_countShortcuts_2 (by decide) ?_
  refine lv_istore_n (lv' := [(2, .int 0), (1, .int 0), (0, .ref (q 25))]) hx hb dX2_countShortcuts_3 rfl hl (by decide) rfl (fun ls hl => ?_)
  obtain ⟨x1_3, eL4, h⟩ := bnd1_some h
  have JX4 : ∀ (H : Heap) (locs : List Loc) (ls : Array Slot), GH D cI cZ layB q s ([iReadings, iAlterations, iRankings, iLetters, iCurrent, iDue, iSize, iLsize], [], [gCosts, gWorths, gMiddles, gApart, gApartWithout, gNeeded, gUps, gDowns, gKeys, gNexts, gShutKeys, aCodes, aPbegins, aPends, aPlengths, aBegins, aEnds, aLengths, aRanks, aRoadsByRank, aRow, aRanksBefore, aBusy, aOpen, aShut]) H locs → lv_has ls 3 [(1, .int x1_3)] → W p l e R s m args below meth c H locs 0 0 Q (F0 m 26 ls []) := by
    intro H locs ls hG hl
    refine lv_iload_n hx hb dX2_countShortcuts_26 rfl (lv_at hl 0 rfl) ?_
    cases h
    rw [hQ]
    exact g_iret X hT hG hr hlk dX2_countShortcuts_27
  refine lpG_W (Wh := fun z => ∀ (H : Heap) (locs : List Loc) (ls : Array Slot), GH D cI cZ layB q s ([iReadings, iAlterations, iRankings, iLetters, iCurrent, iDue, iSize, iLsize], [], [gCosts, gWorths, gMiddles, gApart, gApartWithout, gNeeded, gUps, gDowns, gKeys, gNexts, gShutKeys, aCodes, aPbegins, aPends, aPlengths, aBegins, aEnds, aLengths, aRanks, aRoadsByRank, aRow, aRanksBefore, aBusy, aOpen, aShut]) H locs → lv_has ls 3 [(0, .ref (q 25)), (1, .int (z.1)), (2, .int (z.2))] → W p l e R s m args below meth c H locs 0 0 Q (F0 m 4 ls [])) ?_ fu _ eL4 H locs ls hG (lv_sub hl [2, 1, 0] rfl)
  intro z rr4 hb4 hin4 hout4
  obtain ⟨x1_1, x2_2⟩ := z
  intro H locs ls hG hl
  have hb4 : f2_countShortcuts_b1 fu iLsize gMiddles x1_1 x2_2 = some rr4 := hb4
  have hG : GH D cI cZ layB q s ([iReadings, iAlterations, iRankings, iLetters, iCurrent, iDue, iSize, iLsize], [], [gCosts, gWorths, gMiddles, gApart, gApartWithout, gNeeded, gUps, gDowns, gKeys, gNexts, gShutKeys, aCodes, aPbegins, aPends, aPlengths, aBegins, aEnds, aLengths, aRanks, aRoadsByRank, aRow, aRanksBefore, aBusy, aOpen, aShut]) H locs := hG
  have hl : lv_has ls 3 [(0, .ref (q 25)), (1, .int x1_1), (2, .int x2_2)] := hl
  unfold f2_countShortcuts_b1 at hb4
  refine lv_iload_n hx hb dX2_countShortcuts_4 rfl (lv_at hl 2 rfl) ?_
  refine lv_aload_n hx hb dX2_countShortcuts_5 rfl (lv_at hl 0 rfl) ?_
  refine g_get (v := .int iLsize) X hT hG fl_X2_47 25 rfl rfl rfl dX2_countShortcuts_6 ?_
  refine lv_icmp_ge (tgt := 26) hx hb dX2_countShortcuts_9 (by decide) (fun cb5 => ?_) (fun cb5 => ?_)
  · have hb4 := ite_t cb5 hb4
    have eo := hout4 _ (Option.some.inj hb4).symm
    cases eo
    exact JX4 H locs ls hG (lv_sub hl [1] rfl)
  · have hb4 := ite_f cb5 hb4
    refine lv_iload_n hx hb dX2_countShortcuts_12 rfl (lv_at hl 1 rfl) ?_
    refine lv_aload_n hx hb dX2_countShortcuts_13 rfl (lv_at hl 0 rfl) ?_
    refine lv_iload_n hx hb dX2_countShortcuts_14 rfl (lv_at hl 2 rfl) ?_
    obtain ⟨r_6, ec7, hb4⟩ := bnd1_some hb4
    refine g_callVr [.int x2_2] [.int x1_1] 25 X hT hG ml_X2_110 (c_X2_countArcsOver hq ec7) rfl rfl rfl rfl rfl hl.1 (Nat.le_of_ble_eq_true rfl) (by rw [hR]; exact ⟨Nat.le_of_ble_eq_true rfl, Nat.le_of_ble_eq_true rfl⟩) dX2_countShortcuts_15 (fun H locs hG => ?_)
    refine lv_iadd hx hb dX2_countShortcuts_18 ?_
    refine lv_topi (fun x1_8 ex1_8 => ?_)
    have hb4 := bd_e ex1_8 hb4
    refine lv_istore_n (lv' := [(1, .int x1_8), (0, .ref (q 25)), (2, .int x2_2)]) hx hb dX2_countShortcuts_19 rfl hl (by decide) rfl (fun ls hl => ?_)
    obtain ⟨x2_9, ex2_9⟩ : ∃ z : Int32, z = x2_2 + 1 := ⟨_, rfl⟩
    have hb4 := bd_e ex2_9 hb4
    refine lv_iinc (v := x2_9) (lv' := [(2, .int x2_9), (1, .int x1_8), (0, .ref (q 25))]) hx hb dX2_countShortcuts_20 hl (k := 2) rfl (by rw [ex2_9]; rfl) (by decide) rfl (fun ls hl => ?_)
    refine lv_goto (tgt := 4) hx hb dX2_countShortcuts_23 (by decide) ?_
    exact hin4 _ (Option.some.inj hb4).symm H locs ls hG (lv_sub hl [2, 1, 0] rfl)
def f5_countOpen_b1 (aOpen : (Nat → Int32)) (x1_1 : Int32) (x2_2 : Int32) : Option ((Int32 × Int32) ⊕ (Int32)) :=
  if 64 ≤ x2_2 then (some (.inr x1_1)) else ckin x2_2 64 (bnd1 (if 268435456 ≤ (aOpen x2_2.toNatClampNeg) then (some 0) else some 1) fun (y_7 : Int32) => bd ((x1_1 + y_7)) fun x1_10 => bd (x2_2 + 1) fun x2_11 => some (.inl (x1_10, x2_11)))
def f5_countOpen (fu : Nat) (aOpen : (Nat → Int32)) : Option (Int32) :=
  bnd1 (lpG (fun z => f5_countOpen_b1 aOpen z.1 z.2) fu ((0 : Int32), (0 : Int32))) fun (x1_3 : Int32) => some x1_3
set_option maxHeartbeats 4000000 in
set_option maxRecDepth 100000 in
theorem c_X5_countOpen (hq : gJ layB q) {fu : Nat} {o_r : Int32} (h : f5_countOpen fu aOpen = some o_r) :
    GM l yX5_countOpen cX5_countOpen 3 (some .int) 0 0 D cI cZ layB q [.ref (q 28)] ([iReadings, iAlterations, iRankings, iLetters, iCurrent, iDue, iSize, iLsize], [], [gCosts, gWorths, gMiddles, gApart, gApartWithout, gNeeded, gUps, gDowns, gKeys, gNexts, gShutKeys, aCodes, aPbegins, aPends, aPlengths, aBegins, aEnds, aLengths, aRanks, aRoadsByRank, aRow, aRanksBefore, aBusy, aOpen, aShut]) (some (.int o_r)) ([iReadings, iAlterations, iRankings, iLetters, iCurrent, iDue, iSize, iLsize], [], [gCosts, gWorths, gMiddles, gApart, gApartWithout, gNeeded, gUps, gDowns, gKeys, gNexts, gShutKeys, aCodes, aPbegins, aPends, aPlengths, aBegins, aEnds, aLengths, aRanks, aRoadsByRank, aRow, aRanksBefore, aBusy, aOpen, aShut]) := by
  refine GM.go RX5 (by decide) rfl (Nat.le_of_ble_eq_true rfl) ?_
  intro p e s m args below meth c ls R Q H locs X hr hlk hT hG hl hR hQ
  have hx := X.1
  have hb := X.2.1
  have hl : lv_has ls 3 [(0, .ref (q 28))] := hl
  unfold f5_countOpen at h
  refine lv_iconst (v := 0) hx hb dX5_countOpen_0 (by decide) ?_
  refine lv_istore_n (lv' := [(1, .int 0), (0, .ref (q 28))]) hx hb dX5_countOpen_1 rfl hl (by decide) rfl (fun ls hl => ?_)
  refine lv_iconst (v := 0) hx hb dX5_countOpen_2 (by decide) ?_
  refine lv_istore_n (lv' := [(2, .int 0), (1, .int 0), (0, .ref (q 28))]) hx hb dX5_countOpen_3 rfl hl (by decide) rfl (fun ls hl => ?_)
  obtain ⟨x1_3, eL4, h⟩ := bnd1_some h
  have JX4 : ∀ (H : Heap) (locs : List Loc) (ls : Array Slot), GH D cI cZ layB q s ([iReadings, iAlterations, iRankings, iLetters, iCurrent, iDue, iSize, iLsize], [], [gCosts, gWorths, gMiddles, gApart, gApartWithout, gNeeded, gUps, gDowns, gKeys, gNexts, gShutKeys, aCodes, aPbegins, aPends, aPlengths, aBegins, aEnds, aLengths, aRanks, aRoadsByRank, aRow, aRanksBefore, aBusy, aOpen, aShut]) H locs → lv_has ls 3 [(1, .int x1_3)] → W p l e R s m args below meth c H locs 0 0 Q (F0 m 35 ls []) := by
    intro H locs ls hG hl
    refine lv_iload_n hx hb dX5_countOpen_35 rfl (lv_at hl 0 rfl) ?_
    cases h
    rw [hQ]
    exact g_iret X hT hG hr hlk dX5_countOpen_36
  refine lpG_W (Wh := fun z => ∀ (H : Heap) (locs : List Loc) (ls : Array Slot), GH D cI cZ layB q s ([iReadings, iAlterations, iRankings, iLetters, iCurrent, iDue, iSize, iLsize], [], [gCosts, gWorths, gMiddles, gApart, gApartWithout, gNeeded, gUps, gDowns, gKeys, gNexts, gShutKeys, aCodes, aPbegins, aPends, aPlengths, aBegins, aEnds, aLengths, aRanks, aRoadsByRank, aRow, aRanksBefore, aBusy, aOpen, aShut]) H locs → lv_has ls 3 [(0, .ref (q 28)), (1, .int (z.1)), (2, .int (z.2))] → W p l e R s m args below meth c H locs 0 0 Q (F0 m 4 ls [])) ?_ fu _ eL4 H locs ls hG (lv_sub hl [2, 1, 0] rfl)
  intro z rr4 hb4 hin4 hout4
  obtain ⟨x1_1, x2_2⟩ := z
  intro H locs ls hG hl
  have hb4 : f5_countOpen_b1 aOpen x1_1 x2_2 = some rr4 := hb4
  have hG : GH D cI cZ layB q s ([iReadings, iAlterations, iRankings, iLetters, iCurrent, iDue, iSize, iLsize], [], [gCosts, gWorths, gMiddles, gApart, gApartWithout, gNeeded, gUps, gDowns, gKeys, gNexts, gShutKeys, aCodes, aPbegins, aPends, aPlengths, aBegins, aEnds, aLengths, aRanks, aRoadsByRank, aRow, aRanksBefore, aBusy, aOpen, aShut]) H locs := hG
  have hl : lv_has ls 3 [(0, .ref (q 28)), (1, .int x1_1), (2, .int x2_2)] := hl
  unfold f5_countOpen_b1 at hb4
  refine lv_iload_n hx hb dX5_countOpen_4 rfl (lv_at hl 2 rfl) ?_
  refine lv_bipush (v := 64) hx hb dX5_countOpen_5 (by decide) ?_
  refine lv_icmp_ge (tgt := 35) hx hb dX5_countOpen_7 (by decide) (fun cb5 => ?_) (fun cb5 => ?_)
  · have hb4 := ite_t cb5 hb4
    have eo := hout4 _ (Option.some.inj hb4).symm
    cases eo
    exact JX4 H locs ls hG (lv_sub hl [1] rfl)
  · have hb4 := ite_f cb5 hb4
    refine lv_iload_n hx hb dX5_countOpen_10 rfl (lv_at hl 1 rfl) ?_
    refine lv_aload_n hx hb dX5_countOpen_11 rfl (lv_at hl 0 rfl) ?_
    refine g_get (v := .ref (q 41)) X hT hG fl_X5_9 28 rfl rfl rfl dX5_countOpen_12 ?_
    refine lv_iload_n hx hb dX5_countOpen_15 rfl (lv_at hl 2 rfl) ?_
    obtain ⟨hi6, hb4⟩ := ckin_some hb4
    refine g_ald (f := aOpen) X hT hG 41 rfl rfl hi6 dX5_countOpen_16 ?_
    refine lv_ldc (v := 268435456) hx hb X.2.2.2.1 (X.2.2.2.2 _ cn_X5_25) dX5_countOpen_17 ?_
    obtain ⟨y_7, er8, hb4⟩ := bnd1_some hb4
    have J8 : ∀ (H : Heap) (locs : List Loc) (ls : Array Slot), GH D cI cZ layB q s ([iReadings, iAlterations, iRankings, iLetters, iCurrent, iDue, iSize, iLsize], [], [gCosts, gWorths, gMiddles, gApart, gApartWithout, gNeeded, gUps, gDowns, gKeys, gNexts, gShutKeys, aCodes, aPbegins, aPends, aPlengths, aBegins, aEnds, aLengths, aRanks, aRoadsByRank, aRow, aRanksBefore, aBusy, aOpen, aShut]) H locs → lv_has ls 3 [(0, .ref (q 28)), (2, .int x2_2)] → W p l e R s m args below meth c H locs 0 0 Q (F0 m 27 ls [.int y_7, .int x1_1]) := by
      intro H locs ls hG hl
      refine lv_iadd hx hb dX5_countOpen_27 ?_
      refine lv_topi (fun x1_10 ex1_10 => ?_)
      have hb4 := bd_e ex1_10 hb4
      refine lv_istore_n (lv' := [(1, .int x1_10), (0, .ref (q 28)), (2, .int x2_2)]) hx hb dX5_countOpen_28 rfl hl (by decide) rfl (fun ls hl => ?_)
      obtain ⟨x2_11, ex2_11⟩ : ∃ z : Int32, z = x2_2 + 1 := ⟨_, rfl⟩
      have hb4 := bd_e ex2_11 hb4
      refine lv_iinc (v := x2_11) (lv' := [(2, .int x2_11), (1, .int x1_10), (0, .ref (q 28))]) hx hb dX5_countOpen_29 hl (k := 2) rfl (by rw [ex2_11]; rfl) (by decide) rfl (fun ls hl => ?_)
      refine lv_goto (tgt := 4) hx hb dX5_countOpen_32 (by decide) ?_
      exact hin4 _ (Option.some.inj hb4).symm H locs ls hG (lv_sub hl [2, 1, 0] rfl)
    refine lv_icmp_ge (tgt := 26) hx hb dX5_countOpen_19 (by decide) (fun cb9 => ?_) (fun cb9 => ?_)
    · have er8 := ite_t cb9 er8
      refine lv_iconst (v := 0) hx hb dX5_countOpen_26 (by decide) ?_
      cases er8
      exact J8 H locs ls hG (lv_sub hl [0, 2] rfl)
    · have er8 := ite_f cb9 er8
      refine lv_iconst (v := 1) hx hb dX5_countOpen_22 (by decide) ?_
      refine lv_goto (tgt := 27) hx hb dX5_countOpen_23 (by decide) ?_
      cases er8
      exact J8 H locs ls hG (lv_sub hl [0, 2] rfl)
def f5_sumOpen_b1 (aOpen : (Nat → Int32)) (x1_1 : Int32) (x2_2 : Int32) : Option ((Int32 × Int32) ⊕ (Int32)) :=
  if 64 ≤ x2_2 then (some (.inr x1_1)) else ckin x2_2 64 (bnd1 (if 268435456 ≤ (aOpen x2_2.toNatClampNeg) then (some 0) else ckin x2_2 64 (some (aOpen x2_2.toNatClampNeg))) fun (y_7 : Int32) => bd ((x1_1 + y_7)) fun x1_11 => bd (x2_2 + 1) fun x2_12 => some (.inl (x1_11, x2_12)))
def f5_sumOpen (fu : Nat) (aOpen : (Nat → Int32)) : Option (Int32) :=
  bnd1 (lpG (fun z => f5_sumOpen_b1 aOpen z.1 z.2) fu ((0 : Int32), (0 : Int32))) fun (x1_3 : Int32) => some x1_3
set_option maxHeartbeats 4000000 in
set_option maxRecDepth 100000 in
theorem c_X5_sumOpen (hq : gJ layB q) {fu : Nat} {o_r : Int32} (h : f5_sumOpen fu aOpen = some o_r) :
    GM l yX5_sumOpen cX5_sumOpen 3 (some .int) 0 0 D cI cZ layB q [.ref (q 28)] ([iReadings, iAlterations, iRankings, iLetters, iCurrent, iDue, iSize, iLsize], [], [gCosts, gWorths, gMiddles, gApart, gApartWithout, gNeeded, gUps, gDowns, gKeys, gNexts, gShutKeys, aCodes, aPbegins, aPends, aPlengths, aBegins, aEnds, aLengths, aRanks, aRoadsByRank, aRow, aRanksBefore, aBusy, aOpen, aShut]) (some (.int o_r)) ([iReadings, iAlterations, iRankings, iLetters, iCurrent, iDue, iSize, iLsize], [], [gCosts, gWorths, gMiddles, gApart, gApartWithout, gNeeded, gUps, gDowns, gKeys, gNexts, gShutKeys, aCodes, aPbegins, aPends, aPlengths, aBegins, aEnds, aLengths, aRanks, aRoadsByRank, aRow, aRanksBefore, aBusy, aOpen, aShut]) := by
  refine GM.go RX5 (by decide) rfl (Nat.le_of_ble_eq_true rfl) ?_
  intro p e s m args below meth c ls R Q H locs X hr hlk hT hG hl hR hQ
  have hx := X.1
  have hb := X.2.1
  have hl : lv_has ls 3 [(0, .ref (q 28))] := hl
  unfold f5_sumOpen at h
  refine lv_iconst (v := 0) hx hb dX5_sumOpen_0 (by decide) ?_
  refine lv_istore_n (lv' := [(1, .int 0), (0, .ref (q 28))]) hx hb dX5_sumOpen_1 rfl hl (by decide) rfl (fun ls hl => ?_)
  refine lv_iconst (v := 0) hx hb dX5_sumOpen_2 (by decide) ?_
  refine lv_istore_n (lv' := [(2, .int 0), (1, .int 0), (0, .ref (q 28))]) hx hb dX5_sumOpen_3 rfl hl (by decide) rfl (fun ls hl => ?_)
  obtain ⟨x1_3, eL4, h⟩ := bnd1_some h
  have JX4 : ∀ (H : Heap) (locs : List Loc) (ls : Array Slot), GH D cI cZ layB q s ([iReadings, iAlterations, iRankings, iLetters, iCurrent, iDue, iSize, iLsize], [], [gCosts, gWorths, gMiddles, gApart, gApartWithout, gNeeded, gUps, gDowns, gKeys, gNexts, gShutKeys, aCodes, aPbegins, aPends, aPlengths, aBegins, aEnds, aLengths, aRanks, aRoadsByRank, aRow, aRanksBefore, aBusy, aOpen, aShut]) H locs → lv_has ls 3 [(1, .int x1_3)] → W p l e R s m args below meth c H locs 0 0 Q (F0 m 40 ls []) := by
    intro H locs ls hG hl
    refine lv_iload_n hx hb dX5_sumOpen_40 rfl (lv_at hl 0 rfl) ?_
    cases h
    rw [hQ]
    exact g_iret X hT hG hr hlk dX5_sumOpen_41
  refine lpG_W (Wh := fun z => ∀ (H : Heap) (locs : List Loc) (ls : Array Slot), GH D cI cZ layB q s ([iReadings, iAlterations, iRankings, iLetters, iCurrent, iDue, iSize, iLsize], [], [gCosts, gWorths, gMiddles, gApart, gApartWithout, gNeeded, gUps, gDowns, gKeys, gNexts, gShutKeys, aCodes, aPbegins, aPends, aPlengths, aBegins, aEnds, aLengths, aRanks, aRoadsByRank, aRow, aRanksBefore, aBusy, aOpen, aShut]) H locs → lv_has ls 3 [(0, .ref (q 28)), (1, .int (z.1)), (2, .int (z.2))] → W p l e R s m args below meth c H locs 0 0 Q (F0 m 4 ls [])) ?_ fu _ eL4 H locs ls hG (lv_sub hl [2, 1, 0] rfl)
  intro z rr4 hb4 hin4 hout4
  obtain ⟨x1_1, x2_2⟩ := z
  intro H locs ls hG hl
  have hb4 : f5_sumOpen_b1 aOpen x1_1 x2_2 = some rr4 := hb4
  have hG : GH D cI cZ layB q s ([iReadings, iAlterations, iRankings, iLetters, iCurrent, iDue, iSize, iLsize], [], [gCosts, gWorths, gMiddles, gApart, gApartWithout, gNeeded, gUps, gDowns, gKeys, gNexts, gShutKeys, aCodes, aPbegins, aPends, aPlengths, aBegins, aEnds, aLengths, aRanks, aRoadsByRank, aRow, aRanksBefore, aBusy, aOpen, aShut]) H locs := hG
  have hl : lv_has ls 3 [(0, .ref (q 28)), (1, .int x1_1), (2, .int x2_2)] := hl
  unfold f5_sumOpen_b1 at hb4
  refine lv_iload_n hx hb dX5_sumOpen_4 rfl (lv_at hl 2 rfl) ?_
  refine lv_bipush (v := 64) hx hb dX5_sumOpen_5 (by decide) ?_
  refine lv_icmp_ge (tgt := 40) hx hb dX5_sumOpen_7 (by decide) (fun cb5 => ?_) (fun cb5 => ?_)
  · have hb4 := ite_t cb5 hb4
    have eo := hout4 _ (Option.some.inj hb4).symm
    cases eo
    exact JX4 H locs ls hG (lv_sub hl [1] rfl)
  · have hb4 := ite_f cb5 hb4
    refine lv_iload_n hx hb dX5_sumOpen_10 rfl (lv_at hl 1 rfl) ?_
    refine lv_aload_n hx hb dX5_sumOpen_11 rfl (lv_at hl 0 rfl) ?_
    refine g_get (v := .ref (q 41)) X hT hG fl_X5_9 28 rfl rfl rfl dX5_sumOpen_12 ?_
    refine lv_iload_n hx hb dX5_sumOpen_15 rfl (lv_at hl 2 rfl) ?_
    obtain ⟨hi6, hb4⟩ := ckin_some hb4
    refine g_ald (f := aOpen) X hT hG 41 rfl rfl hi6 dX5_sumOpen_16 ?_
    refine lv_ldc (v := 268435456) hx hb X.2.2.2.1 (X.2.2.2.2 _ cn_X5_25) dX5_sumOpen_17 ?_
    obtain ⟨y_7, er8, hb4⟩ := bnd1_some hb4
    have J8 : ∀ (H : Heap) (locs : List Loc) (ls : Array Slot), GH D cI cZ layB q s ([iReadings, iAlterations, iRankings, iLetters, iCurrent, iDue, iSize, iLsize], [], [gCosts, gWorths, gMiddles, gApart, gApartWithout, gNeeded, gUps, gDowns, gKeys, gNexts, gShutKeys, aCodes, aPbegins, aPends, aPlengths, aBegins, aEnds, aLengths, aRanks, aRoadsByRank, aRow, aRanksBefore, aBusy, aOpen, aShut]) H locs → lv_has ls 3 [(0, .ref (q 28)), (2, .int x2_2)] → W p l e R s m args below meth c H locs 0 0 Q (F0 m 32 ls [.int y_7, .int x1_1]) := by
      intro H locs ls hG hl
      refine lv_iadd hx hb dX5_sumOpen_32 ?_
      refine lv_topi (fun x1_11 ex1_11 => ?_)
      have hb4 := bd_e ex1_11 hb4
      refine lv_istore_n (lv' := [(1, .int x1_11), (0, .ref (q 28)), (2, .int x2_2)]) hx hb dX5_sumOpen_33 rfl hl (by decide) rfl (fun ls hl => ?_)
      obtain ⟨x2_12, ex2_12⟩ : ∃ z : Int32, z = x2_2 + 1 := ⟨_, rfl⟩
      have hb4 := bd_e ex2_12 hb4
      refine lv_iinc (v := x2_12) (lv' := [(2, .int x2_12), (1, .int x1_11), (0, .ref (q 28))]) hx hb dX5_sumOpen_34 hl (k := 2) rfl (by rw [ex2_12]; rfl) (by decide) rfl (fun ls hl => ?_)
      refine lv_goto (tgt := 4) hx hb dX5_sumOpen_37 (by decide) ?_
      exact hin4 _ (Option.some.inj hb4).symm H locs ls hG (lv_sub hl [2, 1, 0] rfl)
    refine lv_icmp_ge (tgt := 31) hx hb dX5_sumOpen_19 (by decide) (fun cb9 => ?_) (fun cb9 => ?_)
    · have er8 := ite_t cb9 er8
      refine lv_iconst (v := 0) hx hb dX5_sumOpen_31 (by decide) ?_
      cases er8
      exact J8 H locs ls hG (lv_sub hl [0, 2] rfl)
    · have er8 := ite_f cb9 er8
      refine lv_aload_n hx hb dX5_sumOpen_22 rfl (lv_at hl 0 rfl) ?_
      refine g_get (v := .ref (q 41)) X hT hG fl_X5_9 28 rfl rfl rfl dX5_sumOpen_23 ?_
      refine lv_iload_n hx hb dX5_sumOpen_26 rfl (lv_at hl 2 rfl) ?_
      obtain ⟨hi10, er8⟩ := ckin_some er8
      refine g_ald (f := aOpen) X hT hG 41 rfl rfl hi10 dX5_sumOpen_27 ?_
      refine lv_goto (tgt := 32) hx hb dX5_sumOpen_28 (by decide) ?_
      cases er8
      exact J8 H locs ls hG (lv_sub hl [0, 2] rfl)
def f7_all (fu : Nat) (p1 : Int32) (iSize : Int32) (aBusy : (Nat → Int32)) (iLsize : Int32) (gWorths : (Nat → Int32)) (gMiddles : (Nat → Int32)) (aOpen : (Nat → Int32)) : Option (Int32) :=
  if p1 = 0 then (bnd1 (f6_busiest fu iSize aBusy) fun (r_2 : Int32) => some r_2) else if p1 = 1 then (bnd1 (f6_mostBusy fu iSize aBusy) fun (r_5 : Int32) => some r_5) else if p1 = 2 then (bnd1 (f2_countArcs fu iLsize gWorths) fun (r_8 : Int32) => some r_8) else if p1 = 3 then (bnd1 (f2_countShortcuts fu iLsize gMiddles) fun (r_11 : Int32) => some r_11) else if p1 = 4 then (bnd1 (f5_countOpen fu aOpen) fun (r_14 : Int32) => some r_14) else if p1 = 5 then (bnd1 (f5_sumOpen fu aOpen) fun (r_17 : Int32) => some r_17) else some (-102)
set_option maxHeartbeats 4000000 in
set_option maxRecDepth 100000 in
theorem c_X7_all (hq : gJ layB q) {fu : Nat} {p1 : Int32} {o_r : Int32} (h : f7_all fu p1 iSize aBusy iLsize gWorths gMiddles aOpen = some o_r) :
    GM l yX7_all cX7_all 2 (some .int) 3 68 D cI cZ layB q [.ref (q 22), .int p1] ([iReadings, iAlterations, iRankings, iLetters, iCurrent, iDue, iSize, iLsize], [], [gCosts, gWorths, gMiddles, gApart, gApartWithout, gNeeded, gUps, gDowns, gKeys, gNexts, gShutKeys, aCodes, aPbegins, aPends, aPlengths, aBegins, aEnds, aLengths, aRanks, aRoadsByRank, aRow, aRanksBefore, aBusy, aOpen, aShut]) (some (.int o_r)) ([iReadings, iAlterations, iRankings, iLetters, iCurrent, iDue, iSize, iLsize], [], [gCosts, gWorths, gMiddles, gApart, gApartWithout, gNeeded, gUps, gDowns, gKeys, gNexts, gShutKeys, aCodes, aPbegins, aPends, aPlengths, aBegins, aEnds, aLengths, aRanks, aRoadsByRank, aRow, aRanksBefore, aBusy, aOpen, aShut]) := by
  refine GM.go RX7 (by decide) rfl (Nat.le_of_ble_eq_true rfl) ?_
  intro p e s m args below meth c ls R Q H locs X hr hlk hT hG hl hR hQ
  have hx := X.1
  have hb := X.2.1
  have hl : lv_has ls 2 [(0, .ref (q 22)), (1, .int p1)] := hl
  unfold f7_all at h
  refine lv_iload_n hx hb dX7_all_0 rfl (lv_at hl 1 rfl) ?_
  by_cases cs1 : p1 = 0
  · have h := ite_t cs1 h
    refine g_eqi cs1 ?_
    refine lv_tableIn (x := 0) hx hb dX7_all_1 (by decide) (by decide) (off := 39) rfl (tgt := 40) (by decide) ?_
    refine lv_aload_n hx hb dX7_all_40 rfl (lv_at hl 0 rfl) ?_
    refine g_get (v := .ref (q 27)) X hT hG fl_X7_40 22 rfl rfl rfl dX7_all_41 ?_
    refine lv_aload_n hx hb dX7_all_44 rfl (lv_at hl 0 rfl) ?_
    refine g_get (v := .ref (q 24)) X hT hG fl_X7_19 22 rfl rfl rfl dX7_all_45 ?_
    refine g_get (v := .int iSize) X hT hG fl_X7_81 24 rfl rfl rfl dX7_all_48 ?_
    obtain ⟨r_2, ec3, h⟩ := bnd1_some h
    refine g_callVr [.int iSize] [] 27 X hT hG ml_X7_209 (c_X6_busiest hq ec3) rfl rfl rfl rfl rfl hl.1 (Nat.le_of_ble_eq_true rfl) (by rw [hR]; exact ⟨Nat.le_of_ble_eq_true rfl, Nat.le_of_ble_eq_true rfl⟩) dX7_all_51 (fun H locs hG => ?_)
    cases h
    rw [hQ]
    exact g_iret X hT hG hr hlk dX7_all_54
  · have h := ite_f cs1 h
    by_cases cs4 : p1 = 1
    · have h := ite_t cs4 h
      refine g_eqi cs4 ?_
      refine lv_tableIn (x := 1) hx hb dX7_all_1 (by decide) (by decide) (off := 54) rfl (tgt := 55) (by decide) ?_
      refine lv_aload_n hx hb dX7_all_55 rfl (lv_at hl 0 rfl) ?_
      refine g_get (v := .ref (q 27)) X hT hG fl_X7_40 22 rfl rfl rfl dX7_all_56 ?_
      refine lv_aload_n hx hb dX7_all_59 rfl (lv_at hl 0 rfl) ?_
      refine g_get (v := .ref (q 24)) X hT hG fl_X7_19 22 rfl rfl rfl dX7_all_60 ?_
      refine g_get (v := .int iSize) X hT hG fl_X7_81 24 rfl rfl rfl dX7_all_63 ?_
      obtain ⟨r_5, ec6, h⟩ := bnd1_some h
      refine g_callVr [.int iSize] [] 27 X hT hG ml_X7_212 (c_X6_mostBusy hq ec6) rfl rfl rfl rfl rfl hl.1 (Nat.le_of_ble_eq_true rfl) (by rw [hR]; exact ⟨Nat.le_of_ble_eq_true rfl, Nat.le_of_ble_eq_true rfl⟩) dX7_all_66 (fun H locs hG => ?_)
      cases h
      rw [hQ]
      exact g_iret X hT hG hr hlk dX7_all_69
    · have h := ite_f cs4 h
      by_cases cs7 : p1 = 2
      · have h := ite_t cs7 h
        refine g_eqi cs7 ?_
        refine lv_tableIn (x := 2) hx hb dX7_all_1 (by decide) (by decide) (off := 69) rfl (tgt := 70) (by decide) ?_
        refine lv_aload_n hx hb dX7_all_70 rfl (lv_at hl 0 rfl) ?_
        refine g_get (v := .ref (q 25)) X hT hG fl_X7_26 22 rfl rfl rfl dX7_all_71 ?_
        obtain ⟨r_8, ec9, h⟩ := bnd1_some h
        refine g_callVr [] [] 25 X hT hG ml_X7_215 (c_X2_countArcs hq ec9) rfl rfl rfl rfl rfl hl.1 (Nat.le_of_ble_eq_true rfl) (by rw [hR]; exact ⟨Nat.le_of_ble_eq_true rfl, Nat.le_of_ble_eq_true rfl⟩) dX7_all_74 (fun H locs hG => ?_)
        cases h
        rw [hQ]
        exact g_iret X hT hG hr hlk dX7_all_77
      · have h := ite_f cs7 h
        by_cases cs10 : p1 = 3
        · have h := ite_t cs10 h
          refine g_eqi cs10 ?_
          refine lv_tableIn (x := 3) hx hb dX7_all_1 (by decide) (by decide) (off := 77) rfl (tgt := 78) (by decide) ?_
          refine lv_aload_n hx hb dX7_all_78 rfl (lv_at hl 0 rfl) ?_
          refine g_get (v := .ref (q 25)) X hT hG fl_X7_26 22 rfl rfl rfl dX7_all_79 ?_
          obtain ⟨r_11, ec12, h⟩ := bnd1_some h
          refine g_callVr [] [] 25 X hT hG ml_X7_218 (c_X2_countShortcuts hq ec12) rfl rfl rfl rfl rfl hl.1 (Nat.le_of_ble_eq_true rfl) (by rw [hR]; exact ⟨Nat.le_of_ble_eq_true rfl, Nat.le_of_ble_eq_true rfl⟩) dX7_all_82 (fun H locs hG => ?_)
          cases h
          rw [hQ]
          exact g_iret X hT hG hr hlk dX7_all_85
        · have h := ite_f cs10 h
          by_cases cs13 : p1 = 4
          · have h := ite_t cs13 h
            refine g_eqi cs13 ?_
            refine lv_tableIn (x := 4) hx hb dX7_all_1 (by decide) (by decide) (off := 85) rfl (tgt := 86) (by decide) ?_
            refine lv_aload_n hx hb dX7_all_86 rfl (lv_at hl 0 rfl) ?_
            refine g_get (v := .ref (q 28)) X hT hG fl_X7_47 22 rfl rfl rfl dX7_all_87 ?_
            obtain ⟨r_14, ec15, h⟩ := bnd1_some h
            refine g_callVr [] [] 28 X hT hG ml_X7_221 (c_X5_countOpen hq ec15) rfl rfl rfl rfl rfl hl.1 (Nat.le_of_ble_eq_true rfl) (by rw [hR]; exact ⟨Nat.le_of_ble_eq_true rfl, Nat.le_of_ble_eq_true rfl⟩) dX7_all_90 (fun H locs hG => ?_)
            cases h
            rw [hQ]
            exact g_iret X hT hG hr hlk dX7_all_93
          · have h := ite_f cs13 h
            by_cases cs16 : p1 = 5
            · have h := ite_t cs16 h
              refine g_eqi cs16 ?_
              refine lv_tableIn (x := 5) hx hb dX7_all_1 (by decide) (by decide) (off := 93) rfl (tgt := 94) (by decide) ?_
              refine lv_aload_n hx hb dX7_all_94 rfl (lv_at hl 0 rfl) ?_
              refine g_get (v := .ref (q 28)) X hT hG fl_X7_47 22 rfl rfl rfl dX7_all_95 ?_
              obtain ⟨r_17, ec18, h⟩ := bnd1_some h
              refine g_callVr [] [] 28 X hT hG ml_X7_224 (c_X5_sumOpen hq ec18) rfl rfl rfl rfl rfl hl.1 (Nat.le_of_ble_eq_true rfl) (by rw [hR]; exact ⟨Nat.le_of_ble_eq_true rfl, Nat.le_of_ble_eq_true rfl⟩) dX7_all_98 (fun H locs hG => ?_)
              cases h
              rw [hQ]
              exact g_iret X hT hG hr hlk dX7_all_101
            · have h := ite_f cs16 h
              refine lv_tableOut hx hb dX7_all_1 (sw_out (n := 6) (Nat.le_of_ble_eq_true rfl) (fun k hk => by match k, hk with | 0, _ => exact cs1 | 1, _ => exact cs4 | 2, _ => exact cs7 | 3, _ => exact cs10 | 4, _ => exact cs13 | 5, _ => exact cs16 | k + 6, hk => omega)) (tgt := 102) (by decide) ?_
              refine lv_bipush (v := (-102)) hx hb dX7_all_102 (by decide) ?_
              cases h
              rw [hQ]
              exact g_iret X hT hG hr hlk dX7_all_104
def f3_countTurns_b2 (iSize : Int32) (x2_2 : Int32) (gCosts : (Nat → Int32)) (x1_6 : Int32) (x3_7 : Int32) : Option ((Int32 × Int32) ⊕ (Int32)) :=
  if iSize ≤ x3_7 then (some (.inr x1_6)) else bnd1 (f3_hasTurn x2_2 x3_7 gCosts) fun (r_11 : Int32) => bnd1 (if r_11 = 0 then (some 0) else some 1) fun (y_13 : Int32) => bd ((x1_6 + y_13)) fun x1_16 => bd (x3_7 + 1) fun x3_17 => some (.inl (x1_16, x3_17))
def f3_countTurns_b1 (fu : Nat) (iSize : Int32) (gCosts : (Nat → Int32)) (x1_1 : Int32) (x2_2 : Int32) : Option ((Int32 × Int32) ⊕ (Int32)) :=
  if iSize ≤ x2_2 then (some (.inr x1_1)) else bnd1 (lpG (fun z => f3_countTurns_b2 iSize x2_2 gCosts z.1 z.2) fu (x1_1, (0 : Int32))) fun (x1_8 : Int32) => bd (x2_2 + 1) fun x2_18 => some (.inl (x1_8, x2_18))
def f3_countTurns (fu : Nat) (iSize : Int32) (gCosts : (Nat → Int32)) : Option (Int32) :=
  bnd1 (lpG (fun z => f3_countTurns_b1 fu iSize gCosts z.1 z.2) fu ((0 : Int32), (0 : Int32))) fun (x1_3 : Int32) => some x1_3
set_option maxHeartbeats 4000000 in
set_option maxRecDepth 100000 in
theorem c_X3_countTurns (hq : gJ layB q) {fu : Nat} {o_r : Int32} (h : f3_countTurns fu iSize gCosts = some o_r) :
    GM l yX3_countTurns cX3_countTurns 4 (some .int) 2 44 D cI cZ layB q [.ref (q 24)] ([iReadings, iAlterations, iRankings, iLetters, iCurrent, iDue, iSize, iLsize], [], [gCosts, gWorths, gMiddles, gApart, gApartWithout, gNeeded, gUps, gDowns, gKeys, gNexts, gShutKeys, aCodes, aPbegins, aPends, aPlengths, aBegins, aEnds, aLengths, aRanks, aRoadsByRank, aRow, aRanksBefore, aBusy, aOpen, aShut]) (some (.int o_r)) ([iReadings, iAlterations, iRankings, iLetters, iCurrent, iDue, iSize, iLsize], [], [gCosts, gWorths, gMiddles, gApart, gApartWithout, gNeeded, gUps, gDowns, gKeys, gNexts, gShutKeys, aCodes, aPbegins, aPends, aPlengths, aBegins, aEnds, aLengths, aRanks, aRoadsByRank, aRow, aRanksBefore, aBusy, aOpen, aShut]) := by
  refine GM.go RX3 (by decide) rfl (Nat.le_of_ble_eq_true rfl) ?_
  intro p e s m args below meth c ls R Q H locs X hr hlk hT hG hl hR hQ
  have hx := X.1
  have hb := X.2.1
  have hl : lv_has ls 4 [(0, .ref (q 24))] := hl
  unfold f3_countTurns at h
  refine lv_iconst (v := 0) hx hb dX3_countTurns_0 (by decide) ?_
  refine lv_istore_n (lv' := [(1, .int 0), (0, .ref (q 24))]) hx hb dX3_countTurns_1 rfl hl (by decide) rfl (fun ls hl => ?_)
  refine lv_iconst (v := 0) hx hb dX3_countTurns_2 (by decide) ?_
  refine lv_istore_n (lv' := [(2, .int 0), (1, .int 0), (0, .ref (q 24))]) hx hb dX3_countTurns_3 rfl hl (by decide) rfl (fun ls hl => ?_)
  obtain ⟨x1_3, eL4, h⟩ := bnd1_some h
  have JX4 : ∀ (H : Heap) (locs : List Loc) (ls : Array Slot), GH D cI cZ layB q s ([iReadings, iAlterations, iRankings, iLetters, iCurrent, iDue, iSize, iLsize], [], [gCosts, gWorths, gMiddles, gApart, gApartWithout, gNeeded, gUps, gDowns, gKeys, gNexts, gShutKeys, aCodes, aPbegins, aPends, aPlengths, aBegins, aEnds, aLengths, aRanks, aRoadsByRank, aRow, aRanksBefore, aBusy, aOpen, aShut]) H locs → lv_has ls 4 [(1, .int x1_3)] → W p l e R s m args below meth c H locs 0 0 Q (F0 m 51 ls []) := by
    intro H locs ls hG hl
    refine lv_iload_n hx hb dX3_countTurns_51 rfl (lv_at hl 0 rfl) ?_
    cases h
    rw [hQ]
    exact g_iret X hT hG hr hlk dX3_countTurns_52
  refine lpG_W (Wh := fun z => ∀ (H : Heap) (locs : List Loc) (ls : Array Slot), GH D cI cZ layB q s ([iReadings, iAlterations, iRankings, iLetters, iCurrent, iDue, iSize, iLsize], [], [gCosts, gWorths, gMiddles, gApart, gApartWithout, gNeeded, gUps, gDowns, gKeys, gNexts, gShutKeys, aCodes, aPbegins, aPends, aPlengths, aBegins, aEnds, aLengths, aRanks, aRoadsByRank, aRow, aRanksBefore, aBusy, aOpen, aShut]) H locs → lv_has ls 4 [(0, .ref (q 24)), (1, .int (z.1)), (2, .int (z.2))] → W p l e R s m args below meth c H locs 0 0 Q (F0 m 4 ls [])) ?_ fu _ eL4 H locs ls hG (lv_sub hl [2, 1, 0] rfl)
  intro z rr4 hb4 hin4 hout4
  obtain ⟨x1_1, x2_2⟩ := z
  intro H locs ls hG hl
  have hb4 : f3_countTurns_b1 fu iSize gCosts x1_1 x2_2 = some rr4 := hb4
  have hG : GH D cI cZ layB q s ([iReadings, iAlterations, iRankings, iLetters, iCurrent, iDue, iSize, iLsize], [], [gCosts, gWorths, gMiddles, gApart, gApartWithout, gNeeded, gUps, gDowns, gKeys, gNexts, gShutKeys, aCodes, aPbegins, aPends, aPlengths, aBegins, aEnds, aLengths, aRanks, aRoadsByRank, aRow, aRanksBefore, aBusy, aOpen, aShut]) H locs := hG
  have hl : lv_has ls 4 [(0, .ref (q 24)), (1, .int x1_1), (2, .int x2_2)] := hl
  unfold f3_countTurns_b1 at hb4
  refine lv_iload_n hx hb dX3_countTurns_4 rfl (lv_at hl 2 rfl) ?_
  refine lv_aload_n hx hb dX3_countTurns_5 rfl (lv_at hl 0 rfl) ?_
  refine g_get (v := .int iSize) X hT hG fl_X3_34 24 rfl rfl rfl dX3_countTurns_6 ?_
  refine lv_icmp_ge (tgt := 51) hx hb dX3_countTurns_9 (by decide) (fun cb5 => ?_) (fun cb5 => ?_)
  · have hb4 := ite_t cb5 hb4
    have eo := hout4 _ (Option.some.inj hb4).symm
    cases eo
    exact JX4 H locs ls hG (lv_sub hl [1] rfl)
  · have hb4 := ite_f cb5 hb4
    refine lv_iconst (v := 0) hx hb dX3_countTurns_12 (by decide) ?_
    refine lv_istore_n (lv' := [(3, .int 0), (0, .ref (q 24)), (1, .int x1_1), (2, .int x2_2)]) hx hb dX3_countTurns_13 rfl hl (by decide) rfl (fun ls hl => ?_)
    obtain ⟨x1_8, eL9, hb4⟩ := bnd1_some hb4
    have JX9 : ∀ (H : Heap) (locs : List Loc) (ls : Array Slot), GH D cI cZ layB q s ([iReadings, iAlterations, iRankings, iLetters, iCurrent, iDue, iSize, iLsize], [], [gCosts, gWorths, gMiddles, gApart, gApartWithout, gNeeded, gUps, gDowns, gKeys, gNexts, gShutKeys, aCodes, aPbegins, aPends, aPlengths, aBegins, aEnds, aLengths, aRanks, aRoadsByRank, aRow, aRanksBefore, aBusy, aOpen, aShut]) H locs → lv_has ls 4 [(0, .ref (q 24)), (1, .int x1_8), (2, .int x2_2)] → W p l e R s m args below meth c H locs 0 0 Q (F0 m 45 ls []) := by
      intro H locs ls hG hl
      obtain ⟨x2_18, ex2_18⟩ : ∃ z : Int32, z = x2_2 + 1 := ⟨_, rfl⟩
      have hb4 := bd_e ex2_18 hb4
      refine lv_iinc (v := x2_18) (lv' := [(2, .int x2_18), (0, .ref (q 24)), (1, .int x1_8)]) hx hb dX3_countTurns_45 hl (k := 2) rfl (by rw [ex2_18]; rfl) (by decide) rfl (fun ls hl => ?_)
      refine lv_goto (tgt := 4) hx hb dX3_countTurns_48 (by decide) ?_
      exact hin4 _ (Option.some.inj hb4).symm H locs ls hG (lv_sub hl [1, 2, 0] rfl)
    refine lpG_W (Wh := fun z => ∀ (H : Heap) (locs : List Loc) (ls : Array Slot), GH D cI cZ layB q s ([iReadings, iAlterations, iRankings, iLetters, iCurrent, iDue, iSize, iLsize], [], [gCosts, gWorths, gMiddles, gApart, gApartWithout, gNeeded, gUps, gDowns, gKeys, gNexts, gShutKeys, aCodes, aPbegins, aPends, aPlengths, aBegins, aEnds, aLengths, aRanks, aRoadsByRank, aRow, aRanksBefore, aBusy, aOpen, aShut]) H locs → lv_has ls 4 [(0, .ref (q 24)), (1, .int (z.1)), (2, .int x2_2), (3, .int (z.2))] → W p l e R s m args below meth c H locs 0 0 Q (F0 m 14 ls [])) ?_ fu _ eL9 H locs ls hG (lv_sub hl [1, 2, 3, 0] rfl)
    intro z rr9 hb9 hin9 hout9
    obtain ⟨x1_6, x3_7⟩ := z
    intro H locs ls hG hl
    have hb9 : f3_countTurns_b2 iSize x2_2 gCosts x1_6 x3_7 = some rr9 := hb9
    have hG : GH D cI cZ layB q s ([iReadings, iAlterations, iRankings, iLetters, iCurrent, iDue, iSize, iLsize], [], [gCosts, gWorths, gMiddles, gApart, gApartWithout, gNeeded, gUps, gDowns, gKeys, gNexts, gShutKeys, aCodes, aPbegins, aPends, aPlengths, aBegins, aEnds, aLengths, aRanks, aRoadsByRank, aRow, aRanksBefore, aBusy, aOpen, aShut]) H locs := hG
    have hl : lv_has ls 4 [(0, .ref (q 24)), (1, .int x1_6), (2, .int x2_2), (3, .int x3_7)] := hl
    unfold f3_countTurns_b2 at hb9
    refine lv_iload_n hx hb dX3_countTurns_14 rfl (lv_at hl 3 rfl) ?_
    refine lv_aload_n hx hb dX3_countTurns_15 rfl (lv_at hl 0 rfl) ?_
    refine g_get (v := .int iSize) X hT hG fl_X3_34 24 rfl rfl rfl dX3_countTurns_16 ?_
    refine lv_icmp_ge (tgt := 45) hx hb dX3_countTurns_19 (by decide) (fun cb10 => ?_) (fun cb10 => ?_)
    · have hb9 := ite_t cb10 hb9
      have eo := hout9 _ (Option.some.inj hb9).symm
      cases eo
      exact JX9 H locs ls hG (lv_sub hl [0, 1, 2] rfl)
    · have hb9 := ite_f cb10 hb9
      refine lv_iload_n hx hb dX3_countTurns_22 rfl (lv_at hl 1 rfl) ?_
      refine lv_aload_n hx hb dX3_countTurns_23 rfl (lv_at hl 0 rfl) ?_
      refine lv_iload_n hx hb dX3_countTurns_24 rfl (lv_at hl 2 rfl) ?_
      refine lv_iload_n hx hb dX3_countTurns_25 rfl (lv_at hl 3 rfl) ?_
      obtain ⟨r_11, ec12, hb9⟩ := bnd1_some hb9
      refine g_callVr [.int x2_2, .int x3_7] [.int x1_6] 24 X hT hG ml_X3_77 (c_X3_hasTurn hq ec12) rfl rfl rfl rfl rfl hl.1 (Nat.le_of_ble_eq_true rfl) (by rw [hR]; exact ⟨Nat.le_of_ble_eq_true rfl, Nat.le_of_ble_eq_true rfl⟩) dX3_countTurns_26 (fun H locs hG => ?_)
      obtain ⟨y_13, er14, hb9⟩ := bnd1_some hb9
      have J14 : ∀ (H : Heap) (locs : List Loc) (ls : Array Slot), GH D cI cZ layB q s ([iReadings, iAlterations, iRankings, iLetters, iCurrent, iDue, iSize, iLsize], [], [gCosts, gWorths, gMiddles, gApart, gApartWithout, gNeeded, gUps, gDowns, gKeys, gNexts, gShutKeys, aCodes, aPbegins, aPends, aPlengths, aBegins, aEnds, aLengths, aRanks, aRoadsByRank, aRow, aRanksBefore, aBusy, aOpen, aShut]) H locs → lv_has ls 4 [(0, .ref (q 24)), (2, .int x2_2), (3, .int x3_7)] → W p l e R s m args below meth c H locs 0 0 Q (F0 m 37 ls [.int y_13, .int x1_6]) := by
        intro H locs ls hG hl
        refine lv_iadd hx hb dX3_countTurns_37 ?_
        refine lv_topi (fun x1_16 ex1_16 => ?_)
        have hb9 := bd_e ex1_16 hb9
        refine lv_istore_n (lv' := [(1, .int x1_16), (0, .ref (q 24)), (2, .int x2_2), (3, .int x3_7)]) hx hb dX3_countTurns_38 rfl hl (by decide) rfl (fun ls hl => ?_)
        obtain ⟨x3_17, ex3_17⟩ : ∃ z : Int32, z = x3_7 + 1 := ⟨_, rfl⟩
        have hb9 := bd_e ex3_17 hb9
        refine lv_iinc (v := x3_17) (lv' := [(3, .int x3_17), (1, .int x1_16), (0, .ref (q 24)), (2, .int x2_2)]) hx hb dX3_countTurns_39 hl (k := 3) rfl (by rw [ex3_17]; rfl) (by decide) rfl (fun ls hl => ?_)
        refine lv_goto (tgt := 14) hx hb dX3_countTurns_42 (by decide) ?_
        exact hin9 _ (Option.some.inj hb9).symm H locs ls hG (lv_sub hl [2, 1, 3, 0] rfl)
      refine lv_if_eq (tgt := 36) hx hb dX3_countTurns_29 (by decide) (fun cb15 => ?_) (fun cb15 => ?_)
      · have er14 := ite_t cb15 er14
        refine lv_iconst (v := 0) hx hb dX3_countTurns_36 (by decide) ?_
        cases er14
        exact J14 H locs ls hG (lv_sub hl [0, 2, 3] rfl)
      · have er14 := ite_f cb15 er14
        refine lv_iconst (v := 1) hx hb dX3_countTurns_32 (by decide) ?_
        refine lv_goto (tgt := 37) hx hb dX3_countTurns_33 (by decide) ?_
        cases er14
        exact J14 H locs ls hG (lv_sub hl [0, 2, 3] rfl)
def f3_countBarred_b2 (iSize : Int32) (x2_2 : Int32) (gCosts : (Nat → Int32)) (x1_6 : Int32) (x3_7 : Int32) : Option ((Int32 × Int32) ⊕ (Int32)) :=
  if iSize ≤ x3_7 then (some (.inr x1_6)) else bnd1 (f1_get x2_2 x3_7 gCosts) fun (r_11 : Int32) => bnd1 (if r_11 = (-5) then (some 1) else some 0) fun (y_13 : Int32) => bd ((x1_6 + y_13)) fun x1_16 => bd (x3_7 + 1) fun x3_17 => some (.inl (x1_16, x3_17))
def f3_countBarred_b1 (fu : Nat) (iSize : Int32) (gCosts : (Nat → Int32)) (x1_1 : Int32) (x2_2 : Int32) : Option ((Int32 × Int32) ⊕ (Int32)) :=
  if iSize ≤ x2_2 then (some (.inr x1_1)) else bnd1 (lpG (fun z => f3_countBarred_b2 iSize x2_2 gCosts z.1 z.2) fu (x1_1, (0 : Int32))) fun (x1_8 : Int32) => bd (x2_2 + 1) fun x2_18 => some (.inl (x1_8, x2_18))
def f3_countBarred (fu : Nat) (iSize : Int32) (gCosts : (Nat → Int32)) : Option (Int32) :=
  bnd1 (lpG (fun z => f3_countBarred_b1 fu iSize gCosts z.1 z.2) fu ((0 : Int32), (0 : Int32))) fun (x1_3 : Int32) => some x1_3
set_option maxHeartbeats 4000000 in
set_option maxRecDepth 100000 in
theorem c_X3_countBarred (hq : gJ layB q) {fu : Nat} {o_r : Int32} (h : f3_countBarred fu iSize gCosts = some o_r) :
    GM l yX3_countBarred cX3_countBarred 4 (some .int) 1 22 D cI cZ layB q [.ref (q 24)] ([iReadings, iAlterations, iRankings, iLetters, iCurrent, iDue, iSize, iLsize], [], [gCosts, gWorths, gMiddles, gApart, gApartWithout, gNeeded, gUps, gDowns, gKeys, gNexts, gShutKeys, aCodes, aPbegins, aPends, aPlengths, aBegins, aEnds, aLengths, aRanks, aRoadsByRank, aRow, aRanksBefore, aBusy, aOpen, aShut]) (some (.int o_r)) ([iReadings, iAlterations, iRankings, iLetters, iCurrent, iDue, iSize, iLsize], [], [gCosts, gWorths, gMiddles, gApart, gApartWithout, gNeeded, gUps, gDowns, gKeys, gNexts, gShutKeys, aCodes, aPbegins, aPends, aPlengths, aBegins, aEnds, aLengths, aRanks, aRoadsByRank, aRow, aRanksBefore, aBusy, aOpen, aShut]) := by
  refine GM.go RX3 (by decide) rfl (Nat.le_of_ble_eq_true rfl) ?_
  intro p e s m args below meth c ls R Q H locs X hr hlk hT hG hl hR hQ
  have hx := X.1
  have hb := X.2.1
  have hl : lv_has ls 4 [(0, .ref (q 24))] := hl
  unfold f3_countBarred at h
  refine lv_iconst (v := 0) hx hb dX3_countBarred_0 (by decide) ?_
  refine lv_istore_n (lv' := [(1, .int 0), (0, .ref (q 24))]) hx hb dX3_countBarred_1 rfl hl (by decide) rfl (fun ls hl => ?_)
  refine lv_iconst (v := 0) hx hb dX3_countBarred_2 (by decide) ?_
  refine lv_istore_n (lv' := [(2, .int 0), (1, .int 0), (0, .ref (q 24))]) hx hb dX3_countBarred_3 rfl hl (by decide) rfl (fun ls hl => ?_)
  obtain ⟨x1_3, eL4, h⟩ := bnd1_some h
  have JX4 : ∀ (H : Heap) (locs : List Loc) (ls : Array Slot), GH D cI cZ layB q s ([iReadings, iAlterations, iRankings, iLetters, iCurrent, iDue, iSize, iLsize], [], [gCosts, gWorths, gMiddles, gApart, gApartWithout, gNeeded, gUps, gDowns, gKeys, gNexts, gShutKeys, aCodes, aPbegins, aPends, aPlengths, aBegins, aEnds, aLengths, aRanks, aRoadsByRank, aRow, aRanksBefore, aBusy, aOpen, aShut]) H locs → lv_has ls 4 [(1, .int x1_3)] → W p l e R s m args below meth c H locs 0 0 Q (F0 m 56 ls []) := by
    intro H locs ls hG hl
    refine lv_iload_n hx hb dX3_countBarred_56 rfl (lv_at hl 0 rfl) ?_
    cases h
    rw [hQ]
    exact g_iret X hT hG hr hlk dX3_countBarred_57
  refine lpG_W (Wh := fun z => ∀ (H : Heap) (locs : List Loc) (ls : Array Slot), GH D cI cZ layB q s ([iReadings, iAlterations, iRankings, iLetters, iCurrent, iDue, iSize, iLsize], [], [gCosts, gWorths, gMiddles, gApart, gApartWithout, gNeeded, gUps, gDowns, gKeys, gNexts, gShutKeys, aCodes, aPbegins, aPends, aPlengths, aBegins, aEnds, aLengths, aRanks, aRoadsByRank, aRow, aRanksBefore, aBusy, aOpen, aShut]) H locs → lv_has ls 4 [(0, .ref (q 24)), (1, .int (z.1)), (2, .int (z.2))] → W p l e R s m args below meth c H locs 0 0 Q (F0 m 4 ls [])) ?_ fu _ eL4 H locs ls hG (lv_sub hl [2, 1, 0] rfl)
  intro z rr4 hb4 hin4 hout4
  obtain ⟨x1_1, x2_2⟩ := z
  intro H locs ls hG hl
  have hb4 : f3_countBarred_b1 fu iSize gCosts x1_1 x2_2 = some rr4 := hb4
  have hG : GH D cI cZ layB q s ([iReadings, iAlterations, iRankings, iLetters, iCurrent, iDue, iSize, iLsize], [], [gCosts, gWorths, gMiddles, gApart, gApartWithout, gNeeded, gUps, gDowns, gKeys, gNexts, gShutKeys, aCodes, aPbegins, aPends, aPlengths, aBegins, aEnds, aLengths, aRanks, aRoadsByRank, aRow, aRanksBefore, aBusy, aOpen, aShut]) H locs := hG
  have hl : lv_has ls 4 [(0, .ref (q 24)), (1, .int x1_1), (2, .int x2_2)] := hl
  unfold f3_countBarred_b1 at hb4
  refine lv_iload_n hx hb dX3_countBarred_4 rfl (lv_at hl 2 rfl) ?_
  refine lv_aload_n hx hb dX3_countBarred_5 rfl (lv_at hl 0 rfl) ?_
  refine g_get (v := .int iSize) X hT hG fl_X3_34 24 rfl rfl rfl dX3_countBarred_6 ?_
  refine lv_icmp_ge (tgt := 56) hx hb dX3_countBarred_9 (by decide) (fun cb5 => ?_) (fun cb5 => ?_)
  · have hb4 := ite_t cb5 hb4
    have eo := hout4 _ (Option.some.inj hb4).symm
    cases eo
    exact JX4 H locs ls hG (lv_sub hl [1] rfl)
  · have hb4 := ite_f cb5 hb4
    refine lv_iconst (v := 0) hx hb dX3_countBarred_12 (by decide) ?_
    refine lv_istore_n (lv' := [(3, .int 0), (0, .ref (q 24)), (1, .int x1_1), (2, .int x2_2)]) hx hb dX3_countBarred_13 rfl hl (by decide) rfl (fun ls hl => ?_)
    obtain ⟨x1_8, eL9, hb4⟩ := bnd1_some hb4
    have JX9 : ∀ (H : Heap) (locs : List Loc) (ls : Array Slot), GH D cI cZ layB q s ([iReadings, iAlterations, iRankings, iLetters, iCurrent, iDue, iSize, iLsize], [], [gCosts, gWorths, gMiddles, gApart, gApartWithout, gNeeded, gUps, gDowns, gKeys, gNexts, gShutKeys, aCodes, aPbegins, aPends, aPlengths, aBegins, aEnds, aLengths, aRanks, aRoadsByRank, aRow, aRanksBefore, aBusy, aOpen, aShut]) H locs → lv_has ls 4 [(0, .ref (q 24)), (1, .int x1_8), (2, .int x2_2)] → W p l e R s m args below meth c H locs 0 0 Q (F0 m 50 ls []) := by
      intro H locs ls hG hl
      obtain ⟨x2_18, ex2_18⟩ : ∃ z : Int32, z = x2_2 + 1 := ⟨_, rfl⟩
      have hb4 := bd_e ex2_18 hb4
      refine lv_iinc (v := x2_18) (lv' := [(2, .int x2_18), (0, .ref (q 24)), (1, .int x1_8)]) hx hb dX3_countBarred_50 hl (k := 2) rfl (by rw [ex2_18]; rfl) (by decide) rfl (fun ls hl => ?_)
      refine lv_goto (tgt := 4) hx hb dX3_countBarred_53 (by decide) ?_
      exact hin4 _ (Option.some.inj hb4).symm H locs ls hG (lv_sub hl [1, 2, 0] rfl)
    refine lpG_W (Wh := fun z => ∀ (H : Heap) (locs : List Loc) (ls : Array Slot), GH D cI cZ layB q s ([iReadings, iAlterations, iRankings, iLetters, iCurrent, iDue, iSize, iLsize], [], [gCosts, gWorths, gMiddles, gApart, gApartWithout, gNeeded, gUps, gDowns, gKeys, gNexts, gShutKeys, aCodes, aPbegins, aPends, aPlengths, aBegins, aEnds, aLengths, aRanks, aRoadsByRank, aRow, aRanksBefore, aBusy, aOpen, aShut]) H locs → lv_has ls 4 [(0, .ref (q 24)), (1, .int (z.1)), (2, .int x2_2), (3, .int (z.2))] → W p l e R s m args below meth c H locs 0 0 Q (F0 m 14 ls [])) ?_ fu _ eL9 H locs ls hG (lv_sub hl [1, 2, 3, 0] rfl)
    intro z rr9 hb9 hin9 hout9
    obtain ⟨x1_6, x3_7⟩ := z
    intro H locs ls hG hl
    have hb9 : f3_countBarred_b2 iSize x2_2 gCosts x1_6 x3_7 = some rr9 := hb9
    have hG : GH D cI cZ layB q s ([iReadings, iAlterations, iRankings, iLetters, iCurrent, iDue, iSize, iLsize], [], [gCosts, gWorths, gMiddles, gApart, gApartWithout, gNeeded, gUps, gDowns, gKeys, gNexts, gShutKeys, aCodes, aPbegins, aPends, aPlengths, aBegins, aEnds, aLengths, aRanks, aRoadsByRank, aRow, aRanksBefore, aBusy, aOpen, aShut]) H locs := hG
    have hl : lv_has ls 4 [(0, .ref (q 24)), (1, .int x1_6), (2, .int x2_2), (3, .int x3_7)] := hl
    unfold f3_countBarred_b2 at hb9
    refine lv_iload_n hx hb dX3_countBarred_14 rfl (lv_at hl 3 rfl) ?_
    refine lv_aload_n hx hb dX3_countBarred_15 rfl (lv_at hl 0 rfl) ?_
    refine g_get (v := .int iSize) X hT hG fl_X3_34 24 rfl rfl rfl dX3_countBarred_16 ?_
    refine lv_icmp_ge (tgt := 50) hx hb dX3_countBarred_19 (by decide) (fun cb10 => ?_) (fun cb10 => ?_)
    · have hb9 := ite_t cb10 hb9
      have eo := hout9 _ (Option.some.inj hb9).symm
      cases eo
      exact JX9 H locs ls hG (lv_sub hl [0, 1, 2] rfl)
    · have hb9 := ite_f cb10 hb9
      refine lv_iload_n hx hb dX3_countBarred_22 rfl (lv_at hl 1 rfl) ?_
      refine lv_aload_n hx hb dX3_countBarred_23 rfl (lv_at hl 0 rfl) ?_
      refine g_get (v := .ref (q 0)) X hT hG fl_X3_24 24 rfl rfl rfl dX3_countBarred_24 ?_
      refine lv_iload_n hx hb dX3_countBarred_27 rfl (lv_at hl 2 rfl) ?_
      refine lv_iload_n hx hb dX3_countBarred_28 rfl (lv_at hl 3 rfl) ?_
      obtain ⟨r_11, ec12, hb9⟩ := bnd1_some hb9
      refine g_callVr [.int x2_2, .int x3_7] [.int x1_6] 0 X hT hG ml_X3_59 (c_X1_get_0 hq ec12) rfl rfl rfl rfl rfl hl.1 (Nat.le_of_ble_eq_true rfl) (by rw [hR]; exact ⟨Nat.le_of_ble_eq_true rfl, Nat.le_of_ble_eq_true rfl⟩) dX3_countBarred_29 (fun H locs hG => ?_)
      refine lv_bipush (v := (-5)) hx hb dX3_countBarred_32 (by decide) ?_
      obtain ⟨y_13, er14, hb9⟩ := bnd1_some hb9
      have J14 : ∀ (H : Heap) (locs : List Loc) (ls : Array Slot), GH D cI cZ layB q s ([iReadings, iAlterations, iRankings, iLetters, iCurrent, iDue, iSize, iLsize], [], [gCosts, gWorths, gMiddles, gApart, gApartWithout, gNeeded, gUps, gDowns, gKeys, gNexts, gShutKeys, aCodes, aPbegins, aPends, aPlengths, aBegins, aEnds, aLengths, aRanks, aRoadsByRank, aRow, aRanksBefore, aBusy, aOpen, aShut]) H locs → lv_has ls 4 [(0, .ref (q 24)), (2, .int x2_2), (3, .int x3_7)] → W p l e R s m args below meth c H locs 0 0 Q (F0 m 42 ls [.int y_13, .int x1_6]) := by
        intro H locs ls hG hl
        refine lv_iadd hx hb dX3_countBarred_42 ?_
        refine lv_topi (fun x1_16 ex1_16 => ?_)
        have hb9 := bd_e ex1_16 hb9
        refine lv_istore_n (lv' := [(1, .int x1_16), (0, .ref (q 24)), (2, .int x2_2), (3, .int x3_7)]) hx hb dX3_countBarred_43 rfl hl (by decide) rfl (fun ls hl => ?_)
        obtain ⟨x3_17, ex3_17⟩ : ∃ z : Int32, z = x3_7 + 1 := ⟨_, rfl⟩
        have hb9 := bd_e ex3_17 hb9
        refine lv_iinc (v := x3_17) (lv' := [(3, .int x3_17), (1, .int x1_16), (0, .ref (q 24)), (2, .int x2_2)]) hx hb dX3_countBarred_44 hl (k := 3) rfl (by rw [ex3_17]; rfl) (by decide) rfl (fun ls hl => ?_)
        refine lv_goto (tgt := 14) hx hb dX3_countBarred_47 (by decide) ?_
        exact hin9 _ (Option.some.inj hb9).symm H locs ls hG (lv_sub hl [2, 1, 3, 0] rfl)
      refine lv_icmp_ne (tgt := 41) hx hb dX3_countBarred_34 (by decide) (fun cb15 => ?_) (fun cb15 => ?_)
      · have er14 := ite_f cb15 er14
        refine lv_iconst (v := 0) hx hb dX3_countBarred_41 (by decide) ?_
        cases er14
        exact J14 H locs ls hG (lv_sub hl [0, 2, 3] rfl)
      · have er14 := ite_t cb15 er14
        refine lv_iconst (v := 1) hx hb dX3_countBarred_37 (by decide) ?_
        refine lv_goto (tgt := 42) hx hb dX3_countBarred_38 (by decide) ?_
        cases er14
        exact J14 H locs ls hG (lv_sub hl [0, 2, 3] rfl)
def f7_count (fu : Nat) (p1 : Int32) (iSize : Int32) (iLetters : Int32) (gCosts : (Nat → Int32)) (iReadings : Int32) (iAlterations : Int32) (iRankings : Int32) : Option (Int32) :=
  if p1 = 0 then (some iSize) else if p1 = 1 then (some iLetters) else if p1 = 2 then (bnd1 (f3_countTurns fu iSize gCosts) fun (r_4 : Int32) => some r_4) else if p1 = 3 then (bnd1 (f3_countBarred fu iSize gCosts) fun (r_7 : Int32) => some r_7) else if p1 = 4 then (some iReadings) else if p1 = 5 then (some iAlterations) else if p1 = 6 then (some iRankings) else some (-102)
set_option maxHeartbeats 4000000 in
set_option maxRecDepth 100000 in
theorem c_X7_count (hq : gJ layB q) {fu : Nat} {p1 : Int32} {o_r : Int32} (h : f7_count fu p1 iSize iLetters gCosts iReadings iAlterations iRankings = some o_r) :
    GM l yX7_count cX7_count 2 (some .int) 3 67 D cI cZ layB q [.ref (q 22), .int p1] ([iReadings, iAlterations, iRankings, iLetters, iCurrent, iDue, iSize, iLsize], [], [gCosts, gWorths, gMiddles, gApart, gApartWithout, gNeeded, gUps, gDowns, gKeys, gNexts, gShutKeys, aCodes, aPbegins, aPends, aPlengths, aBegins, aEnds, aLengths, aRanks, aRoadsByRank, aRow, aRanksBefore, aBusy, aOpen, aShut]) (some (.int o_r)) ([iReadings, iAlterations, iRankings, iLetters, iCurrent, iDue, iSize, iLsize], [], [gCosts, gWorths, gMiddles, gApart, gApartWithout, gNeeded, gUps, gDowns, gKeys, gNexts, gShutKeys, aCodes, aPbegins, aPends, aPlengths, aBegins, aEnds, aLengths, aRanks, aRoadsByRank, aRow, aRanksBefore, aBusy, aOpen, aShut]) := by
  refine GM.go RX7 (by decide) rfl (Nat.le_of_ble_eq_true rfl) ?_
  intro p e s m args below meth c ls R Q H locs X hr hlk hT hG hl hR hQ
  have hx := X.1
  have hb := X.2.1
  have hl : lv_has ls 2 [(0, .ref (q 22)), (1, .int p1)] := hl
  unfold f7_count at h
  refine lv_iload_n hx hb dX7_count_0 rfl (lv_at hl 1 rfl) ?_
  by_cases cs1 : p1 = 0
  · have h := ite_t cs1 h
    refine g_eqi cs1 ?_
    refine lv_tableIn (x := 0) hx hb dX7_count_1 (by decide) (by decide) (off := 43) rfl (tgt := 44) (by decide) ?_
    refine lv_aload_n hx hb dX7_count_44 rfl (lv_at hl 0 rfl) ?_
    refine g_get (v := .ref (q 24)) X hT hG fl_X7_19 22 rfl rfl rfl dX7_count_45 ?_
    refine g_get (v := .int iSize) X hT hG fl_X7_81 24 rfl rfl rfl dX7_count_48 ?_
    cases h
    rw [hQ]
    exact g_iret X hT hG hr hlk dX7_count_51
  · have h := ite_f cs1 h
    by_cases cs2 : p1 = 1
    · have h := ite_t cs2 h
      refine g_eqi cs2 ?_
      refine lv_tableIn (x := 1) hx hb dX7_count_1 (by decide) (by decide) (off := 51) rfl (tgt := 52) (by decide) ?_
      refine lv_aload_n hx hb dX7_count_52 rfl (lv_at hl 0 rfl) ?_
      refine g_get (v := .ref (q 23)) X hT hG fl_X7_10 22 rfl rfl rfl dX7_count_53 ?_
      refine g_get (v := .int iLetters) X hT hG fl_X7_51 23 rfl rfl rfl dX7_count_56 ?_
      cases h
      rw [hQ]
      exact g_iret X hT hG hr hlk dX7_count_59
    · have h := ite_f cs2 h
      by_cases cs3 : p1 = 2
      · have h := ite_t cs3 h
        refine g_eqi cs3 ?_
        refine lv_tableIn (x := 2) hx hb dX7_count_1 (by decide) (by decide) (off := 59) rfl (tgt := 60) (by decide) ?_
        refine lv_aload_n hx hb dX7_count_60 rfl (lv_at hl 0 rfl) ?_
        refine g_get (v := .ref (q 24)) X hT hG fl_X7_19 22 rfl rfl rfl dX7_count_61 ?_
        obtain ⟨r_4, ec5, h⟩ := bnd1_some h
        refine g_callVr [] [] 24 X hT hG ml_X7_227 (c_X3_countTurns hq ec5) rfl rfl rfl rfl rfl hl.1 (Nat.le_of_ble_eq_true rfl) (by rw [hR]; exact ⟨Nat.le_of_ble_eq_true rfl, Nat.le_of_ble_eq_true rfl⟩) dX7_count_64 (fun H locs hG => ?_)
        cases h
        rw [hQ]
        exact g_iret X hT hG hr hlk dX7_count_67
      · have h := ite_f cs3 h
        by_cases cs6 : p1 = 3
        · have h := ite_t cs6 h
          refine g_eqi cs6 ?_
          refine lv_tableIn (x := 3) hx hb dX7_count_1 (by decide) (by decide) (off := 67) rfl (tgt := 68) (by decide) ?_
          refine lv_aload_n hx hb dX7_count_68 rfl (lv_at hl 0 rfl) ?_
          refine g_get (v := .ref (q 24)) X hT hG fl_X7_19 22 rfl rfl rfl dX7_count_69 ?_
          obtain ⟨r_7, ec8, h⟩ := bnd1_some h
          refine g_callVr [] [] 24 X hT hG ml_X7_230 (c_X3_countBarred hq ec8) rfl rfl rfl rfl rfl hl.1 (Nat.le_of_ble_eq_true rfl) (by rw [hR]; exact ⟨Nat.le_of_ble_eq_true rfl, Nat.le_of_ble_eq_true rfl⟩) dX7_count_72 (fun H locs hG => ?_)
          cases h
          rw [hQ]
          exact g_iret X hT hG hr hlk dX7_count_75
        · have h := ite_f cs6 h
          by_cases cs9 : p1 = 4
          · have h := ite_t cs9 h
            refine g_eqi cs9 ?_
            refine lv_tableIn (x := 4) hx hb dX7_count_1 (by decide) (by decide) (off := 75) rfl (tgt := 76) (by decide) ?_
            refine lv_aload_n hx hb dX7_count_76 rfl (lv_at hl 0 rfl) ?_
            refine g_get (v := .int iReadings) X hT hG fl_X7_71 22 rfl rfl rfl dX7_count_77 ?_
            cases h
            rw [hQ]
            exact g_iret X hT hG hr hlk dX7_count_80
          · have h := ite_f cs9 h
            by_cases cs10 : p1 = 5
            · have h := ite_t cs10 h
              refine g_eqi cs10 ?_
              refine lv_tableIn (x := 5) hx hb dX7_count_1 (by decide) (by decide) (off := 80) rfl (tgt := 81) (by decide) ?_
              refine lv_aload_n hx hb dX7_count_81 rfl (lv_at hl 0 rfl) ?_
              refine g_get (v := .int iAlterations) X hT hG fl_X7_125 22 rfl rfl rfl dX7_count_82 ?_
              cases h
              rw [hQ]
              exact g_iret X hT hG hr hlk dX7_count_85
            · have h := ite_f cs10 h
              by_cases cs11 : p1 = 6
              · have h := ite_t cs11 h
                refine g_eqi cs11 ?_
                refine lv_tableIn (x := 6) hx hb dX7_count_1 (by decide) (by decide) (off := 85) rfl (tgt := 86) (by decide) ?_
                refine lv_aload_n hx hb dX7_count_86 rfl (lv_at hl 0 rfl) ?_
                refine g_get (v := .int iRankings) X hT hG fl_X7_116 22 rfl rfl rfl dX7_count_87 ?_
                cases h
                rw [hQ]
                exact g_iret X hT hG hr hlk dX7_count_90
              · have h := ite_f cs11 h
                refine lv_tableOut hx hb dX7_count_1 (sw_out (n := 7) (Nat.le_of_ble_eq_true rfl) (fun k hk => by match k, hk with | 0, _ => exact cs1 | 1, _ => exact cs2 | 2, _ => exact cs3 | 3, _ => exact cs6 | 4, _ => exact cs9 | 5, _ => exact cs10 | 6, _ => exact cs11 | k + 7, hk => omega)) (tgt := 91) (by decide) ?_
                refine lv_bipush (v := (-102)) hx hb dX7_count_91 (by decide) ?_
                cases h
                rw [hQ]
                exact g_iret X hT hG hr hlk dX7_count_93
def f7_mix (p1 : Int64) (p2 : Int64) : Option (Int64) :=
  some ((31 * p1) + p2)
set_option maxHeartbeats 4000000 in
set_option maxRecDepth 100000 in
theorem c_X7_mix (hq : gJ layB q) {p1 : Int64} {p2 : Int64} {o_r : Int64} (h : f7_mix p1 p2 = some o_r) :
    GM l yX7_mix cX7_mix 4 (some .long) 0 0 D cI cZ layB q [.long p1, .long p2] ([iReadings, iAlterations, iRankings, iLetters, iCurrent, iDue, iSize, iLsize], [], [gCosts, gWorths, gMiddles, gApart, gApartWithout, gNeeded, gUps, gDowns, gKeys, gNexts, gShutKeys, aCodes, aPbegins, aPends, aPlengths, aBegins, aEnds, aLengths, aRanks, aRoadsByRank, aRow, aRanksBefore, aBusy, aOpen, aShut]) (some (.long o_r)) ([iReadings, iAlterations, iRankings, iLetters, iCurrent, iDue, iSize, iLsize], [], [gCosts, gWorths, gMiddles, gApart, gApartWithout, gNeeded, gUps, gDowns, gKeys, gNexts, gShutKeys, aCodes, aPbegins, aPends, aPlengths, aBegins, aEnds, aLengths, aRanks, aRoadsByRank, aRow, aRanksBefore, aBusy, aOpen, aShut]) := by
  refine GM.go RX7 (by decide) rfl (Nat.le_of_ble_eq_true rfl) ?_
  intro p e s m args below meth c ls R Q H locs X hr hlk hT hG hl hR hQ
  have hx := X.1
  have hb := X.2.1
  have hl : lv_has ls 4 [(0, .long p1), (2, .long p2)] := hl
  unfold f7_mix at h
  refine lv_ldc2 (v := 31) hx hb X.2.2.2.1 (X.2.2.2.2 _ cn_X7_285) dX7_mix_0 ?_
  refine lv_lload_n hx hb dX7_mix_3 rfl (lv_at hl 0 rfl) ?_
  refine lv_lmul hx hb dX7_mix_4 ?_
  refine lv_lload_n hx hb dX7_mix_5 rfl (lv_at hl 1 rfl) ?_
  refine lv_ladd hx hb dX7_mix_6 ?_
  cases h
  rw [hQ]
  exact g_lret X hT hG hr hlk dX7_mix_7
def f7_digestOfRoads_b2 (fu : Nat) (x3_2 : Int32) (iSize : Int32) (aBegins : (Nat → Int32)) (aEnds : (Nat → Int32)) (aLengths : (Nat → Int32)) (aRanks : (Nat → Int32)) (iLsize : Int32) (gMiddles : (Nat → Int32)) (aBusy : (Nat → Int32)) (x1_6 : Int64) (x4_7 : Int32) : Option ((Int64 × Int32) ⊕ (Int64)) :=
  if 5 < x4_7 then (some (.inr x1_6)) else bnd1 (f7_road fu x3_2 iSize x4_7 aBegins aEnds aLengths aRanks iLsize gMiddles aBusy) fun (r_11 : Int32) => bnd1 (f7_mix x1_6 (r_11.toInt64)) fun (r_13 : Int64) => bd (x4_7 + 1) fun x4_15 => some (.inl (r_13, x4_15))
def f7_digestOfRoads_b1 (fu : Nat) (iSize : Int32) (aBegins : (Nat → Int32)) (aEnds : (Nat → Int32)) (aLengths : (Nat → Int32)) (aRanks : (Nat → Int32)) (iLsize : Int32) (gMiddles : (Nat → Int32)) (aBusy : (Nat → Int32)) (x1_1 : Int64) (x3_2 : Int32) : Option ((Int64 × Int32) ⊕ (Int64)) :=
  if iSize ≤ x3_2 then (some (.inr x1_1)) else bnd1 (lpG (fun z => f7_digestOfRoads_b2 fu x3_2 iSize aBegins aEnds aLengths aRanks iLsize gMiddles aBusy z.1 z.2) fu (x1_1, (0 : Int32))) fun (x1_8 : Int64) => bd (x3_2 + 1) fun x3_16 => some (.inl (x1_8, x3_16))
def f7_digestOfRoads (fu : Nat) (iSize : Int32) (aBegins : (Nat → Int32)) (aEnds : (Nat → Int32)) (aLengths : (Nat → Int32)) (aRanks : (Nat → Int32)) (iLsize : Int32) (gMiddles : (Nat → Int32)) (aBusy : (Nat → Int32)) (p1 : Int64) : Option (Int64) :=
  bnd1 (lpG (fun z => f7_digestOfRoads_b1 fu iSize aBegins aEnds aLengths aRanks iLsize gMiddles aBusy z.1 z.2) fu (p1, (0 : Int32))) fun (x1_3 : Int64) => some x1_3
set_option maxHeartbeats 4000000 in
set_option maxRecDepth 100000 in
theorem c_X7_digestOfRoads (hq : gJ layB q) {fu : Nat} {p1 : Int64} {o_r : Int64} (h : f7_digestOfRoads fu iSize aBegins aEnds aLengths aRanks iLsize gMiddles aBusy p1 = some o_r) :
    GM l yX7_digestOfRoads cX7_digestOfRoads 5 (some .long) 3 68 D cI cZ layB q [.ref (q 22), .long p1] ([iReadings, iAlterations, iRankings, iLetters, iCurrent, iDue, iSize, iLsize], [], [gCosts, gWorths, gMiddles, gApart, gApartWithout, gNeeded, gUps, gDowns, gKeys, gNexts, gShutKeys, aCodes, aPbegins, aPends, aPlengths, aBegins, aEnds, aLengths, aRanks, aRoadsByRank, aRow, aRanksBefore, aBusy, aOpen, aShut]) (some (.long o_r)) ([iReadings, iAlterations, iRankings, iLetters, iCurrent, iDue, iSize, iLsize], [], [gCosts, gWorths, gMiddles, gApart, gApartWithout, gNeeded, gUps, gDowns, gKeys, gNexts, gShutKeys, aCodes, aPbegins, aPends, aPlengths, aBegins, aEnds, aLengths, aRanks, aRoadsByRank, aRow, aRanksBefore, aBusy, aOpen, aShut]) := by
  refine GM.go RX7 (by decide) rfl (Nat.le_of_ble_eq_true rfl) ?_
  intro p e s m args below meth c ls R Q H locs X hr hlk hT hG hl hR hQ
  have hx := X.1
  have hb := X.2.1
  have hl : lv_has ls 5 [(0, .ref (q 22)), (1, .long p1)] := hl
  unfold f7_digestOfRoads at h
  refine lv_iconst (v := 0) hx hb dX7_digestOfRoads_0 (by decide) ?_
  refine lv_istore_n (lv' := [(3, .int 0), (0, .ref (q 22)), (1, .long p1)]) hx hb dX7_digestOfRoads_1 rfl hl (by decide) rfl (fun ls hl => ?_)
  obtain ⟨x1_3, eL4, h⟩ := bnd1_some h
  have JX4 : ∀ (H : Heap) (locs : List Loc) (ls : Array Slot), GH D cI cZ layB q s ([iReadings, iAlterations, iRankings, iLetters, iCurrent, iDue, iSize, iLsize], [], [gCosts, gWorths, gMiddles, gApart, gApartWithout, gNeeded, gUps, gDowns, gKeys, gNexts, gShutKeys, aCodes, aPbegins, aPends, aPlengths, aBegins, aEnds, aLengths, aRanks, aRoadsByRank, aRow, aRanksBefore, aBusy, aOpen, aShut]) H locs → lv_has ls 5 [(1, .long x1_3)] → W p l e R s m args below meth c H locs 0 0 Q (F0 m 47 ls []) := by
    intro H locs ls hG hl
    refine lv_lload_n hx hb dX7_digestOfRoads_47 rfl (lv_at hl 0 rfl) ?_
    cases h
    rw [hQ]
    exact g_lret X hT hG hr hlk dX7_digestOfRoads_48
  refine lpG_W (Wh := fun z => ∀ (H : Heap) (locs : List Loc) (ls : Array Slot), GH D cI cZ layB q s ([iReadings, iAlterations, iRankings, iLetters, iCurrent, iDue, iSize, iLsize], [], [gCosts, gWorths, gMiddles, gApart, gApartWithout, gNeeded, gUps, gDowns, gKeys, gNexts, gShutKeys, aCodes, aPbegins, aPends, aPlengths, aBegins, aEnds, aLengths, aRanks, aRoadsByRank, aRow, aRanksBefore, aBusy, aOpen, aShut]) H locs → lv_has ls 5 [(0, .ref (q 22)), (1, .long (z.1)), (3, .int (z.2))] → W p l e R s m args below meth c H locs 0 0 Q (F0 m 2 ls [])) ?_ fu _ eL4 H locs ls hG (lv_sub hl [1, 2, 0] rfl)
  intro z rr4 hb4 hin4 hout4
  obtain ⟨x1_1, x3_2⟩ := z
  intro H locs ls hG hl
  have hb4 : f7_digestOfRoads_b1 fu iSize aBegins aEnds aLengths aRanks iLsize gMiddles aBusy x1_1 x3_2 = some rr4 := hb4
  have hG : GH D cI cZ layB q s ([iReadings, iAlterations, iRankings, iLetters, iCurrent, iDue, iSize, iLsize], [], [gCosts, gWorths, gMiddles, gApart, gApartWithout, gNeeded, gUps, gDowns, gKeys, gNexts, gShutKeys, aCodes, aPbegins, aPends, aPlengths, aBegins, aEnds, aLengths, aRanks, aRoadsByRank, aRow, aRanksBefore, aBusy, aOpen, aShut]) H locs := hG
  have hl : lv_has ls 5 [(0, .ref (q 22)), (1, .long x1_1), (3, .int x3_2)] := hl
  unfold f7_digestOfRoads_b1 at hb4
  refine lv_iload_n hx hb dX7_digestOfRoads_2 rfl (lv_at hl 2 rfl) ?_
  refine lv_aload_n hx hb dX7_digestOfRoads_3 rfl (lv_at hl 0 rfl) ?_
  refine g_get (v := .ref (q 24)) X hT hG fl_X7_19 22 rfl rfl rfl dX7_digestOfRoads_4 ?_
  refine g_get (v := .int iSize) X hT hG fl_X7_81 24 rfl rfl rfl dX7_digestOfRoads_7 ?_
  refine lv_icmp_ge (tgt := 47) hx hb dX7_digestOfRoads_10 (by decide) (fun cb5 => ?_) (fun cb5 => ?_)
  · have hb4 := ite_t cb5 hb4
    have eo := hout4 _ (Option.some.inj hb4).symm
    cases eo
    exact JX4 H locs ls hG (lv_sub hl [1] rfl)
  · have hb4 := ite_f cb5 hb4
    refine lv_iconst (v := 0) hx hb dX7_digestOfRoads_13 (by decide) ?_
    refine lv_istore (lv' := [(4, .int 0), (0, .ref (q 22)), (1, .long x1_1), (3, .int x3_2)]) hx hb dX7_digestOfRoads_14 hl (by decide) rfl (fun ls hl => ?_)
    obtain ⟨x1_8, eL9, hb4⟩ := bnd1_some hb4
    have JX9 : ∀ (H : Heap) (locs : List Loc) (ls : Array Slot), GH D cI cZ layB q s ([iReadings, iAlterations, iRankings, iLetters, iCurrent, iDue, iSize, iLsize], [], [gCosts, gWorths, gMiddles, gApart, gApartWithout, gNeeded, gUps, gDowns, gKeys, gNexts, gShutKeys, aCodes, aPbegins, aPends, aPlengths, aBegins, aEnds, aLengths, aRanks, aRoadsByRank, aRow, aRanksBefore, aBusy, aOpen, aShut]) H locs → lv_has ls 5 [(0, .ref (q 22)), (1, .long x1_8), (3, .int x3_2)] → W p l e R s m args below meth c H locs 0 0 Q (F0 m 41 ls []) := by
      intro H locs ls hG hl
      obtain ⟨x3_16, ex3_16⟩ : ∃ z : Int32, z = x3_2 + 1 := ⟨_, rfl⟩
      have hb4 := bd_e ex3_16 hb4
      refine lv_iinc (v := x3_16) (lv' := [(3, .int x3_16), (0, .ref (q 22)), (1, .long x1_8)]) hx hb dX7_digestOfRoads_41 hl (k := 2) rfl (by rw [ex3_16]; rfl) (by decide) rfl (fun ls hl => ?_)
      refine lv_goto (tgt := 2) hx hb dX7_digestOfRoads_44 (by decide) ?_
      exact hin4 _ (Option.some.inj hb4).symm H locs ls hG (lv_sub hl [1, 2, 0] rfl)
    refine lpG_W (Wh := fun z => ∀ (H : Heap) (locs : List Loc) (ls : Array Slot), GH D cI cZ layB q s ([iReadings, iAlterations, iRankings, iLetters, iCurrent, iDue, iSize, iLsize], [], [gCosts, gWorths, gMiddles, gApart, gApartWithout, gNeeded, gUps, gDowns, gKeys, gNexts, gShutKeys, aCodes, aPbegins, aPends, aPlengths, aBegins, aEnds, aLengths, aRanks, aRoadsByRank, aRow, aRanksBefore, aBusy, aOpen, aShut]) H locs → lv_has ls 5 [(0, .ref (q 22)), (1, .long (z.1)), (3, .int x3_2), (4, .int (z.2))] → W p l e R s m args below meth c H locs 0 0 Q (F0 m 16 ls [])) ?_ fu _ eL9 H locs ls hG (lv_sub hl [1, 2, 3, 0] rfl)
    intro z rr9 hb9 hin9 hout9
    obtain ⟨x1_6, x4_7⟩ := z
    intro H locs ls hG hl
    have hb9 : f7_digestOfRoads_b2 fu x3_2 iSize aBegins aEnds aLengths aRanks iLsize gMiddles aBusy x1_6 x4_7 = some rr9 := hb9
    have hG : GH D cI cZ layB q s ([iReadings, iAlterations, iRankings, iLetters, iCurrent, iDue, iSize, iLsize], [], [gCosts, gWorths, gMiddles, gApart, gApartWithout, gNeeded, gUps, gDowns, gKeys, gNexts, gShutKeys, aCodes, aPbegins, aPends, aPlengths, aBegins, aEnds, aLengths, aRanks, aRoadsByRank, aRow, aRanksBefore, aBusy, aOpen, aShut]) H locs := hG
    have hl : lv_has ls 5 [(0, .ref (q 22)), (1, .long x1_6), (3, .int x3_2), (4, .int x4_7)] := hl
    unfold f7_digestOfRoads_b2 at hb9
    refine lv_iload hx hb dX7_digestOfRoads_16 (lv_at hl 3 rfl) ?_
    refine lv_iconst (v := 5) hx hb dX7_digestOfRoads_18 (by decide) ?_
    refine lv_icmp_gt (tgt := 41) hx hb dX7_digestOfRoads_19 (by decide) (fun cb10 => ?_) (fun cb10 => ?_)
    · have hb9 := ite_t cb10 hb9
      have eo := hout9 _ (Option.some.inj hb9).symm
      cases eo
      exact JX9 H locs ls hG (lv_sub hl [0, 1, 2] rfl)
    · have hb9 := ite_f cb10 hb9
      refine lv_lload_n hx hb dX7_digestOfRoads_22 rfl (lv_at hl 1 rfl) ?_
      refine lv_aload_n hx hb dX7_digestOfRoads_23 rfl (lv_at hl 0 rfl) ?_
      refine lv_iload_n hx hb dX7_digestOfRoads_24 rfl (lv_at hl 2 rfl) ?_
      refine lv_iload hx hb dX7_digestOfRoads_25 (lv_at hl 3 rfl) ?_
      obtain ⟨r_11, ec12, hb9⟩ := bnd1_some hb9
      refine g_callVr [.int x3_2, .int x4_7] [.long x1_6] 22 X hT hG ml_X7_248 (c_X7_road hq ec12) rfl rfl rfl rfl rfl hl.1 (Nat.le_of_ble_eq_true rfl) (by rw [hR]; exact ⟨Nat.le_of_ble_eq_true rfl, Nat.le_of_ble_eq_true rfl⟩) dX7_digestOfRoads_27 (fun H locs hG => ?_)
      refine lv_i2l (v := r_11.toInt64) hx hb dX7_digestOfRoads_30 rfl ?_
      obtain ⟨r_13, ec14, hb9⟩ := bnd1_some hb9
      refine g_callSr [.long x1_6, .long (r_11.toInt64)] [] X hT hG ml_X7_251 (c_X7_mix hq ec14) rfl rfl hl.1 (Nat.le_of_ble_eq_true rfl) (by rw [hR]; exact ⟨Nat.le_of_ble_eq_true rfl, Nat.le_of_ble_eq_true rfl⟩) dX7_digestOfRoads_31 (fun H locs hG => ?_)
      refine lv_lstore_n (lv' := [(1, .long r_13), (0, .ref (q 22)), (3, .int x3_2), (4, .int x4_7)]) hx hb dX7_digestOfRoads_34 rfl hl (by decide) rfl (fun ls hl => ?_)
      obtain ⟨x4_15, ex4_15⟩ : ∃ z : Int32, z = x4_7 + 1 := ⟨_, rfl⟩
      have hb9 := bd_e ex4_15 hb9
      refine lv_iinc (v := x4_15) (lv' := [(4, .int x4_15), (1, .long r_13), (0, .ref (q 22)), (3, .int x3_2)]) hx hb dX7_digestOfRoads_35 hl (k := 3) rfl (by rw [ex4_15]; rfl) (by decide) rfl (fun ls hl => ?_)
      refine lv_goto (tgt := 16) hx hb dX7_digestOfRoads_38 (by decide) ?_
      exact hin9 _ (Option.some.inj hb9).symm H locs ls hG (lv_sub hl [2, 1, 3, 0] rfl)
def f7_digestOfPairs_b3 (fu : Nat) (x3_2 : Int32) (iSize : Int32) (x4_9 : Int32) (gWorths : (Nat → Int32)) (gMiddles : (Nat → Int32)) (aRanks : (Nat → Int32)) (x1_31 : Int64) (x5_32 : Int32) (aRow_33 : (Nat → Int32)) : Option ((Int64 × Int32 × (Nat → Int32)) ⊕ (Int64 × (Nat → Int32))) :=
  if 3 < x5_32 then (some (.inr (x1_31, aRow_33))) else bnd2 (f7_arc fu x3_2 iSize x4_9 aRow_33 x5_32 gWorths gMiddles aRanks) fun (r_38 : Int32) (aRow_39 : (Nat → Int32)) => bnd1 (f7_mix x1_31 (r_38.toInt64)) fun (r_41 : Int64) => bd (x5_32 + 1) fun x5_43 => some (.inl (r_41, x5_43, aRow_39))
def f7_digestOfPairs_b2 (fu : Nat) (iSize : Int32) (x3_2 : Int32) (gKeys : (Nat → Int32)) (gUps : (Nat → Int32)) (gDowns : (Nat → Int32)) (gWorths : (Nat → Int32)) (gMiddles : (Nat → Int32)) (aRanks : (Nat → Int32)) (x1_8 : Int64) (x4_9 : Int32) (aRow_10 : (Nat → Int32)) : Option ((Int64 × Int32 × (Nat → Int32)) ⊕ (Int64 × (Nat → Int32))) :=
  if iSize ≤ x4_9 then (some (.inr (x1_8, aRow_10))) else bnd1 (f7_least x3_2 iSize x4_9 gKeys) fun (r_15 : Int32) => bnd1 (f7_mix x1_8 (r_15.toInt64)) fun (r_17 : Int64) => bnd1 (f7_up x3_2 iSize x4_9 gUps) fun (r_19 : Int32) => bnd1 (f7_mix r_17 (r_19.toInt64)) fun (r_21 : Int64) => bnd1 (f7_down x3_2 iSize x4_9 gDowns) fun (r_23 : Int32) => bnd1 (f7_mix r_21 (r_23.toInt64)) fun (r_25 : Int64) => bnd1 (f7_meet fu x3_2 iSize x4_9 gUps gDowns) fun (r_27 : Int32) => bnd1 (f7_mix r_25 (r_27.toInt64)) fun (r_29 : Int64) => bnd2 (lpG (fun z => f7_digestOfPairs_b3 fu x3_2 iSize x4_9 gWorths gMiddles aRanks z.1 z.2.1 z.2.2) fu (r_29, (0 : Int32), aRow_10)) fun (x1_34 : Int64) (aRow_35 : (Nat → Int32)) => bd (x4_9 + 1) fun x4_44 => some (.inl (x1_34, x4_44, aRow_35))
def f7_digestOfPairs_b1 (fu : Nat) (iSize : Int32) (gKeys : (Nat → Int32)) (gUps : (Nat → Int32)) (gDowns : (Nat → Int32)) (gWorths : (Nat → Int32)) (gMiddles : (Nat → Int32)) (aRanks : (Nat → Int32)) (x1_1 : Int64) (x3_2 : Int32) (aRow_3 : (Nat → Int32)) : Option ((Int64 × Int32 × (Nat → Int32)) ⊕ (Int64 × (Nat → Int32))) :=
  if iSize ≤ x3_2 then (some (.inr (x1_1, aRow_3))) else bnd2 (lpG (fun z => f7_digestOfPairs_b2 fu iSize x3_2 gKeys gUps gDowns gWorths gMiddles aRanks z.1 z.2.1 z.2.2) fu (x1_1, (0 : Int32), aRow_3)) fun (x1_11 : Int64) (aRow_12 : (Nat → Int32)) => bd (x3_2 + 1) fun x3_45 => some (.inl (x1_11, x3_45, aRow_12))
def f7_digestOfPairs (fu : Nat) (iSize : Int32) (gKeys : (Nat → Int32)) (gUps : (Nat → Int32)) (gDowns : (Nat → Int32)) (gWorths : (Nat → Int32)) (gMiddles : (Nat → Int32)) (aRanks : (Nat → Int32)) (p1 : Int64) (aRow : (Nat → Int32)) : Option (Int64 × (Nat → Int32)) :=
  bnd2 (lpG (fun z => f7_digestOfPairs_b1 fu iSize gKeys gUps gDowns gWorths gMiddles aRanks z.1 z.2.1 z.2.2) fu (p1, (0 : Int32), aRow)) fun (x1_4 : Int64) (aRow_5 : (Nat → Int32)) => some (x1_4, aRow_5)
set_option maxHeartbeats 4000000 in
set_option maxRecDepth 100000 in
theorem c_X7_digestOfPairs (hq : gJ layB q) {fu : Nat} {p1 : Int64} {o_r : Int64} {o_aRow : (Nat → Int32)} (h : f7_digestOfPairs fu iSize gKeys gUps gDowns gWorths gMiddles aRanks p1 aRow = some (o_r, o_aRow)) :
    GM l yX7_digestOfPairs cX7_digestOfPairs 6 (some .long) 3 73 D cI cZ layB q [.ref (q 22), .long p1] ([iReadings, iAlterations, iRankings, iLetters, iCurrent, iDue, iSize, iLsize], [], [gCosts, gWorths, gMiddles, gApart, gApartWithout, gNeeded, gUps, gDowns, gKeys, gNexts, gShutKeys, aCodes, aPbegins, aPends, aPlengths, aBegins, aEnds, aLengths, aRanks, aRoadsByRank, aRow, aRanksBefore, aBusy, aOpen, aShut]) (some (.long o_r)) ([iReadings, iAlterations, iRankings, iLetters, iCurrent, iDue, iSize, iLsize], [], [gCosts, gWorths, gMiddles, gApart, gApartWithout, gNeeded, gUps, gDowns, gKeys, gNexts, gShutKeys, aCodes, aPbegins, aPends, aPlengths, aBegins, aEnds, aLengths, aRanks, aRoadsByRank, o_aRow, aRanksBefore, aBusy, aOpen, aShut]) := by
  refine GM.go RX7 (by decide) rfl (Nat.le_of_ble_eq_true rfl) ?_
  intro p e s m args below meth c ls R Q H locs X hr hlk hT hG hl hR hQ
  have hx := X.1
  have hb := X.2.1
  have hl : lv_has ls 6 [(0, .ref (q 22)), (1, .long p1)] := hl
  unfold f7_digestOfPairs at h
  refine lv_iconst (v := 0) hx hb dX7_digestOfPairs_0 (by decide) ?_
  refine lv_istore_n (lv' := [(3, .int 0), (0, .ref (q 22)), (1, .long p1)]) hx hb dX7_digestOfPairs_1 rfl hl (by decide) rfl (fun ls hl => ?_)
  obtain ⟨x1_4, aRow_5, eL6, h⟩ := bnd2_some h
  have JX6 : ∀ (H : Heap) (locs : List Loc) (ls : Array Slot), GH D cI cZ layB q s ([iReadings, iAlterations, iRankings, iLetters, iCurrent, iDue, iSize, iLsize], [], [gCosts, gWorths, gMiddles, gApart, gApartWithout, gNeeded, gUps, gDowns, gKeys, gNexts, gShutKeys, aCodes, aPbegins, aPends, aPlengths, aBegins, aEnds, aLengths, aRanks, aRoadsByRank, aRow_5, aRanksBefore, aBusy, aOpen, aShut]) H locs → lv_has ls 6 [(1, .long x1_4)] → W p l e R s m args below meth c H locs 0 0 Q (F0 m 122 ls []) := by
    intro H locs ls hG hl
    refine lv_lload_n hx hb dX7_digestOfPairs_122 rfl (lv_at hl 0 rfl) ?_
    cases h
    rw [hQ]
    exact g_lret X hT hG hr hlk dX7_digestOfPairs_123
  refine lpG_W (Wh := fun z => ∀ (H : Heap) (locs : List Loc) (ls : Array Slot), GH D cI cZ layB q s ([iReadings, iAlterations, iRankings, iLetters, iCurrent, iDue, iSize, iLsize], [], [gCosts, gWorths, gMiddles, gApart, gApartWithout, gNeeded, gUps, gDowns, gKeys, gNexts, gShutKeys, aCodes, aPbegins, aPends, aPlengths, aBegins, aEnds, aLengths, aRanks, aRoadsByRank, z.2.2, aRanksBefore, aBusy, aOpen, aShut]) H locs → lv_has ls 6 [(0, .ref (q 22)), (1, .long (z.1)), (3, .int (z.2.1))] → W p l e R s m args below meth c H locs 0 0 Q (F0 m 2 ls [])) ?_ fu _ eL6 H locs ls hG (lv_sub hl [1, 2, 0] rfl)
  intro z rr6 hb6 hin6 hout6
  obtain ⟨x1_1, x3_2, aRow_3⟩ := z
  intro H locs ls hG hl
  have hb6 : f7_digestOfPairs_b1 fu iSize gKeys gUps gDowns gWorths gMiddles aRanks x1_1 x3_2 aRow_3 = some rr6 := hb6
  have hG : GH D cI cZ layB q s ([iReadings, iAlterations, iRankings, iLetters, iCurrent, iDue, iSize, iLsize], [], [gCosts, gWorths, gMiddles, gApart, gApartWithout, gNeeded, gUps, gDowns, gKeys, gNexts, gShutKeys, aCodes, aPbegins, aPends, aPlengths, aBegins, aEnds, aLengths, aRanks, aRoadsByRank, aRow_3, aRanksBefore, aBusy, aOpen, aShut]) H locs := hG
  have hl : lv_has ls 6 [(0, .ref (q 22)), (1, .long x1_1), (3, .int x3_2)] := hl
  unfold f7_digestOfPairs_b1 at hb6
  refine lv_iload_n hx hb dX7_digestOfPairs_2 rfl (lv_at hl 2 rfl) ?_
  refine lv_aload_n hx hb dX7_digestOfPairs_3 rfl (lv_at hl 0 rfl) ?_
  refine g_get (v := .ref (q 24)) X hT hG fl_X7_19 22 rfl rfl rfl dX7_digestOfPairs_4 ?_
  refine g_get (v := .int iSize) X hT hG fl_X7_81 24 rfl rfl rfl dX7_digestOfPairs_7 ?_
  refine lv_icmp_ge (tgt := 122) hx hb dX7_digestOfPairs_10 (by decide) (fun cb7 => ?_) (fun cb7 => ?_)
  · have hb6 := ite_t cb7 hb6
    have eo := hout6 _ (Option.some.inj hb6).symm
    cases eo
    exact JX6 H locs ls hG (lv_sub hl [1] rfl)
  · have hb6 := ite_f cb7 hb6
    refine lv_iconst (v := 0) hx hb dX7_digestOfPairs_13 (by decide) ?_
    refine lv_istore (lv' := [(4, .int 0), (0, .ref (q 22)), (1, .long x1_1), (3, .int x3_2)]) hx hb dX7_digestOfPairs_14 hl (by decide) rfl (fun ls hl => ?_)
    obtain ⟨x1_11, aRow_12, eL13, hb6⟩ := bnd2_some hb6
    have JX13 : ∀ (H : Heap) (locs : List Loc) (ls : Array Slot), GH D cI cZ layB q s ([iReadings, iAlterations, iRankings, iLetters, iCurrent, iDue, iSize, iLsize], [], [gCosts, gWorths, gMiddles, gApart, gApartWithout, gNeeded, gUps, gDowns, gKeys, gNexts, gShutKeys, aCodes, aPbegins, aPends, aPlengths, aBegins, aEnds, aLengths, aRanks, aRoadsByRank, aRow_12, aRanksBefore, aBusy, aOpen, aShut]) H locs → lv_has ls 6 [(0, .ref (q 22)), (1, .long x1_11), (3, .int x3_2)] → W p l e R s m args below meth c H locs 0 0 Q (F0 m 116 ls []) := by
      intro H locs ls hG hl
      obtain ⟨x3_45, ex3_45⟩ : ∃ z : Int32, z = x3_2 + 1 := ⟨_, rfl⟩
      have hb6 := bd_e ex3_45 hb6
      refine lv_iinc (v := x3_45) (lv' := [(3, .int x3_45), (0, .ref (q 22)), (1, .long x1_11)]) hx hb dX7_digestOfPairs_116 hl (k := 2) rfl (by rw [ex3_45]; rfl) (by decide) rfl (fun ls hl => ?_)
      refine lv_goto (tgt := 2) hx hb dX7_digestOfPairs_119 (by decide) ?_
      exact hin6 _ (Option.some.inj hb6).symm H locs ls hG (lv_sub hl [1, 2, 0] rfl)
    refine lpG_W (Wh := fun z => ∀ (H : Heap) (locs : List Loc) (ls : Array Slot), GH D cI cZ layB q s ([iReadings, iAlterations, iRankings, iLetters, iCurrent, iDue, iSize, iLsize], [], [gCosts, gWorths, gMiddles, gApart, gApartWithout, gNeeded, gUps, gDowns, gKeys, gNexts, gShutKeys, aCodes, aPbegins, aPends, aPlengths, aBegins, aEnds, aLengths, aRanks, aRoadsByRank, z.2.2, aRanksBefore, aBusy, aOpen, aShut]) H locs → lv_has ls 6 [(0, .ref (q 22)), (1, .long (z.1)), (3, .int x3_2), (4, .int (z.2.1))] → W p l e R s m args below meth c H locs 0 0 Q (F0 m 16 ls [])) ?_ fu _ eL13 H locs ls hG (lv_sub hl [1, 2, 3, 0] rfl)
    intro z rr13 hb13 hin13 hout13
    obtain ⟨x1_8, x4_9, aRow_10⟩ := z
    intro H locs ls hG hl
    have hb13 : f7_digestOfPairs_b2 fu iSize x3_2 gKeys gUps gDowns gWorths gMiddles aRanks x1_8 x4_9 aRow_10 = some rr13 := hb13
    have hG : GH D cI cZ layB q s ([iReadings, iAlterations, iRankings, iLetters, iCurrent, iDue, iSize, iLsize], [], [gCosts, gWorths, gMiddles, gApart, gApartWithout, gNeeded, gUps, gDowns, gKeys, gNexts, gShutKeys, aCodes, aPbegins, aPends, aPlengths, aBegins, aEnds, aLengths, aRanks, aRoadsByRank, aRow_10, aRanksBefore, aBusy, aOpen, aShut]) H locs := hG
    have hl : lv_has ls 6 [(0, .ref (q 22)), (1, .long x1_8), (3, .int x3_2), (4, .int x4_9)] := hl
    unfold f7_digestOfPairs_b2 at hb13
    refine lv_iload hx hb dX7_digestOfPairs_16 (lv_at hl 3 rfl) ?_
    refine lv_aload_n hx hb dX7_digestOfPairs_18 rfl (lv_at hl 0 rfl) ?_
    refine g_get (v := .ref (q 24)) X hT hG fl_X7_19 22 rfl rfl rfl dX7_digestOfPairs_19 ?_
    refine g_get (v := .int iSize) X hT hG fl_X7_81 24 rfl rfl rfl dX7_digestOfPairs_22 ?_
    refine lv_icmp_ge (tgt := 116) hx hb dX7_digestOfPairs_25 (by decide) (fun cb14 => ?_) (fun cb14 => ?_)
    · have hb13 := ite_t cb14 hb13
      have eo := hout13 _ (Option.some.inj hb13).symm
      cases eo
      exact JX13 H locs ls hG (lv_sub hl [0, 1, 2] rfl)
    · have hb13 := ite_f cb14 hb13
      refine lv_lload_n hx hb dX7_digestOfPairs_28 rfl (lv_at hl 1 rfl) ?_
      refine lv_aload_n hx hb dX7_digestOfPairs_29 rfl (lv_at hl 0 rfl) ?_
      refine lv_iload_n hx hb dX7_digestOfPairs_30 rfl (lv_at hl 2 rfl) ?_
      refine lv_iload hx hb dX7_digestOfPairs_31 (lv_at hl 3 rfl) ?_
      obtain ⟨r_15, ec16, hb13⟩ := bnd1_some hb13
      refine g_callVr [.int x3_2, .int x4_9] [.long x1_8] 22 X hT hG ml_X7_255 (c_X7_least hq ec16) rfl rfl rfl rfl rfl hl.1 (Nat.le_of_ble_eq_true rfl) (by rw [hR]; exact ⟨Nat.le_of_ble_eq_true rfl, Nat.le_of_ble_eq_true rfl⟩) dX7_digestOfPairs_33 (fun H locs hG => ?_)
      refine lv_i2l (v := r_15.toInt64) hx hb dX7_digestOfPairs_36 rfl ?_
      obtain ⟨r_17, ec18, hb13⟩ := bnd1_some hb13
      refine g_callSr [.long x1_8, .long (r_15.toInt64)] [] X hT hG ml_X7_251 (c_X7_mix hq ec18) rfl rfl hl.1 (Nat.le_of_ble_eq_true rfl) (by rw [hR]; exact ⟨Nat.le_of_ble_eq_true rfl, Nat.le_of_ble_eq_true rfl⟩) dX7_digestOfPairs_37 (fun H locs hG => ?_)
      refine lv_lstore_n (lv' := [(1, .long r_17), (0, .ref (q 22)), (3, .int x3_2), (4, .int x4_9)]) hx hb dX7_digestOfPairs_40 rfl hl (by decide) rfl (fun ls hl => ?_)
      refine lv_lload_n hx hb dX7_digestOfPairs_41 rfl (lv_at hl 0 rfl) ?_
      refine lv_aload_n hx hb dX7_digestOfPairs_42 rfl (lv_at hl 1 rfl) ?_
      refine lv_iload_n hx hb dX7_digestOfPairs_43 rfl (lv_at hl 2 rfl) ?_
      refine lv_iload hx hb dX7_digestOfPairs_44 (lv_at hl 3 rfl) ?_
      obtain ⟨r_19, ec20, hb13⟩ := bnd1_some hb13
      refine g_callVr [.int x3_2, .int x4_9] [.long r_17] 22 X hT hG ml_X7_258 (c_X7_up hq ec20) rfl rfl rfl rfl rfl hl.1 (Nat.le_of_ble_eq_true rfl) (by rw [hR]; exact ⟨Nat.le_of_ble_eq_true rfl, Nat.le_of_ble_eq_true rfl⟩) dX7_digestOfPairs_46 (fun H locs hG => ?_)
      refine lv_i2l (v := r_19.toInt64) hx hb dX7_digestOfPairs_49 rfl ?_
      obtain ⟨r_21, ec22, hb13⟩ := bnd1_some hb13
      refine g_callSr [.long r_17, .long (r_19.toInt64)] [] X hT hG ml_X7_251 (c_X7_mix hq ec22) rfl rfl hl.1 (Nat.le_of_ble_eq_true rfl) (by rw [hR]; exact ⟨Nat.le_of_ble_eq_true rfl, Nat.le_of_ble_eq_true rfl⟩) dX7_digestOfPairs_50 (fun H locs hG => ?_)
      refine lv_lstore_n (lv' := [(1, .long r_21), (0, .ref (q 22)), (3, .int x3_2), (4, .int x4_9)]) hx hb dX7_digestOfPairs_53 rfl hl (by decide) rfl (fun ls hl => ?_)
      refine lv_lload_n hx hb dX7_digestOfPairs_54 rfl (lv_at hl 0 rfl) ?_
      refine lv_aload_n hx hb dX7_digestOfPairs_55 rfl (lv_at hl 1 rfl) ?_
      refine lv_iload_n hx hb dX7_digestOfPairs_56 rfl (lv_at hl 2 rfl) ?_
      refine lv_iload hx hb dX7_digestOfPairs_57 (lv_at hl 3 rfl) ?_
      obtain ⟨r_23, ec24, hb13⟩ := bnd1_some hb13
      refine g_callVr [.int x3_2, .int x4_9] [.long r_21] 22 X hT hG ml_X7_261 (c_X7_down hq ec24) rfl rfl rfl rfl rfl hl.1 (Nat.le_of_ble_eq_true rfl) (by rw [hR]; exact ⟨Nat.le_of_ble_eq_true rfl, Nat.le_of_ble_eq_true rfl⟩) dX7_digestOfPairs_59 (fun H locs hG => ?_)
      refine lv_i2l (v := r_23.toInt64) hx hb dX7_digestOfPairs_62 rfl ?_
      obtain ⟨r_25, ec26, hb13⟩ := bnd1_some hb13
      refine g_callSr [.long r_21, .long (r_23.toInt64)] [] X hT hG ml_X7_251 (c_X7_mix hq ec26) rfl rfl hl.1 (Nat.le_of_ble_eq_true rfl) (by rw [hR]; exact ⟨Nat.le_of_ble_eq_true rfl, Nat.le_of_ble_eq_true rfl⟩) dX7_digestOfPairs_63 (fun H locs hG => ?_)
      refine lv_lstore_n (lv' := [(1, .long r_25), (0, .ref (q 22)), (3, .int x3_2), (4, .int x4_9)]) hx hb dX7_digestOfPairs_66 rfl hl (by decide) rfl (fun ls hl => ?_)
      refine lv_lload_n hx hb dX7_digestOfPairs_67 rfl (lv_at hl 0 rfl) ?_
      refine lv_aload_n hx hb dX7_digestOfPairs_68 rfl (lv_at hl 1 rfl) ?_
      refine lv_iload_n hx hb dX7_digestOfPairs_69 rfl (lv_at hl 2 rfl) ?_
      refine lv_iload hx hb dX7_digestOfPairs_70 (lv_at hl 3 rfl) ?_
      obtain ⟨r_27, ec28, hb13⟩ := bnd1_some hb13
      refine g_callVr [.int x3_2, .int x4_9] [.long r_25] 22 X hT hG ml_X7_264 (c_X7_meet hq ec28) rfl rfl rfl rfl rfl hl.1 (Nat.le_of_ble_eq_true rfl) (by rw [hR]; exact ⟨Nat.le_of_ble_eq_true rfl, Nat.le_of_ble_eq_true rfl⟩) dX7_digestOfPairs_72 (fun H locs hG => ?_)
      refine lv_i2l (v := r_27.toInt64) hx hb dX7_digestOfPairs_75 rfl ?_
      obtain ⟨r_29, ec30, hb13⟩ := bnd1_some hb13
      refine g_callSr [.long r_25, .long (r_27.toInt64)] [] X hT hG ml_X7_251 (c_X7_mix hq ec30) rfl rfl hl.1 (Nat.le_of_ble_eq_true rfl) (by rw [hR]; exact ⟨Nat.le_of_ble_eq_true rfl, Nat.le_of_ble_eq_true rfl⟩) dX7_digestOfPairs_76 (fun H locs hG => ?_)
      refine lv_lstore_n (lv' := [(1, .long r_29), (0, .ref (q 22)), (3, .int x3_2), (4, .int x4_9)]) hx hb dX7_digestOfPairs_79 rfl hl (by decide) rfl (fun ls hl => ?_)
      refine lv_iconst (v := 0) hx hb dX7_digestOfPairs_80 (by decide) ?_
      refine lv_istore (lv' := [(5, .int 0), (1, .long r_29), (0, .ref (q 22)), (3, .int x3_2), (4, .int x4_9)]) hx hb dX7_digestOfPairs_81 hl (by decide) rfl (fun ls hl => ?_)
      obtain ⟨x1_34, aRow_35, eL36, hb13⟩ := bnd2_some hb13
      have JX36 : ∀ (H : Heap) (locs : List Loc) (ls : Array Slot), GH D cI cZ layB q s ([iReadings, iAlterations, iRankings, iLetters, iCurrent, iDue, iSize, iLsize], [], [gCosts, gWorths, gMiddles, gApart, gApartWithout, gNeeded, gUps, gDowns, gKeys, gNexts, gShutKeys, aCodes, aPbegins, aPends, aPlengths, aBegins, aEnds, aLengths, aRanks, aRoadsByRank, aRow_35, aRanksBefore, aBusy, aOpen, aShut]) H locs → lv_has ls 6 [(0, .ref (q 22)), (1, .long x1_34), (3, .int x3_2), (4, .int x4_9)] → W p l e R s m args below meth c H locs 0 0 Q (F0 m 110 ls []) := by
        intro H locs ls hG hl
        obtain ⟨x4_44, ex4_44⟩ : ∃ z : Int32, z = x4_9 + 1 := ⟨_, rfl⟩
        have hb13 := bd_e ex4_44 hb13
        refine lv_iinc (v := x4_44) (lv' := [(4, .int x4_44), (0, .ref (q 22)), (1, .long x1_34), (3, .int x3_2)]) hx hb dX7_digestOfPairs_110 hl (k := 3) rfl (by rw [ex4_44]; rfl) (by decide) rfl (fun ls hl => ?_)
        refine lv_goto (tgt := 16) hx hb dX7_digestOfPairs_113 (by decide) ?_
        exact hin13 _ (Option.some.inj hb13).symm H locs ls hG (lv_sub hl [1, 2, 3, 0] rfl)
      refine lpG_W (Wh := fun z => ∀ (H : Heap) (locs : List Loc) (ls : Array Slot), GH D cI cZ layB q s ([iReadings, iAlterations, iRankings, iLetters, iCurrent, iDue, iSize, iLsize], [], [gCosts, gWorths, gMiddles, gApart, gApartWithout, gNeeded, gUps, gDowns, gKeys, gNexts, gShutKeys, aCodes, aPbegins, aPends, aPlengths, aBegins, aEnds, aLengths, aRanks, aRoadsByRank, z.2.2, aRanksBefore, aBusy, aOpen, aShut]) H locs → lv_has ls 6 [(0, .ref (q 22)), (1, .long (z.1)), (3, .int x3_2), (4, .int x4_9), (5, .int (z.2.1))] → W p l e R s m args below meth c H locs 0 0 Q (F0 m 83 ls [])) ?_ fu _ eL36 H locs ls hG (lv_sub hl [2, 1, 3, 4, 0] rfl)
      intro z rr36 hb36 hin36 hout36
      obtain ⟨x1_31, x5_32, aRow_33⟩ := z
      intro H locs ls hG hl
      have hb36 : f7_digestOfPairs_b3 fu x3_2 iSize x4_9 gWorths gMiddles aRanks x1_31 x5_32 aRow_33 = some rr36 := hb36
      have hG : GH D cI cZ layB q s ([iReadings, iAlterations, iRankings, iLetters, iCurrent, iDue, iSize, iLsize], [], [gCosts, gWorths, gMiddles, gApart, gApartWithout, gNeeded, gUps, gDowns, gKeys, gNexts, gShutKeys, aCodes, aPbegins, aPends, aPlengths, aBegins, aEnds, aLengths, aRanks, aRoadsByRank, aRow_33, aRanksBefore, aBusy, aOpen, aShut]) H locs := hG
      have hl : lv_has ls 6 [(0, .ref (q 22)), (1, .long x1_31), (3, .int x3_2), (4, .int x4_9), (5, .int x5_32)] := hl
      unfold f7_digestOfPairs_b3 at hb36
      refine lv_iload hx hb dX7_digestOfPairs_83 (lv_at hl 4 rfl) ?_
      refine lv_iconst (v := 3) hx hb dX7_digestOfPairs_85 (by decide) ?_
      refine lv_icmp_gt (tgt := 110) hx hb dX7_digestOfPairs_86 (by decide) (fun cb37 => ?_) (fun cb37 => ?_)
      · have hb36 := ite_t cb37 hb36
        have eo := hout36 _ (Option.some.inj hb36).symm
        cases eo
        exact JX36 H locs ls hG (lv_sub hl [0, 1, 2, 3] rfl)
      · have hb36 := ite_f cb37 hb36
        refine lv_lload_n hx hb dX7_digestOfPairs_89 rfl (lv_at hl 1 rfl) ?_
        refine lv_aload_n hx hb dX7_digestOfPairs_90 rfl (lv_at hl 0 rfl) ?_
        refine lv_iload_n hx hb dX7_digestOfPairs_91 rfl (lv_at hl 2 rfl) ?_
        refine lv_iload hx hb dX7_digestOfPairs_92 (lv_at hl 3 rfl) ?_
        refine lv_iload hx hb dX7_digestOfPairs_94 (lv_at hl 4 rfl) ?_
        obtain ⟨r_38, aRow_39, ec40, hb36⟩ := bnd2_some hb36
        refine g_callVr [.int x3_2, .int x4_9, .int x5_32] [.long x1_31] 22 X hT hG ml_X7_267 (c_X7_arc hq ec40) rfl rfl rfl rfl rfl hl.1 (Nat.le_of_ble_eq_true rfl) (by rw [hR]; exact ⟨Nat.le_of_ble_eq_true rfl, Nat.le_of_ble_eq_true rfl⟩) dX7_digestOfPairs_96 (fun H locs hG => ?_)
        have hG : GH D cI cZ layB q s ([iReadings, iAlterations, iRankings, iLetters, iCurrent, iDue, iSize, iLsize], [], [gCosts, gWorths, gMiddles, gApart, gApartWithout, gNeeded, gUps, gDowns, gKeys, gNexts, gShutKeys, aCodes, aPbegins, aPends, aPlengths, aBegins, aEnds, aLengths, aRanks, aRoadsByRank, aRow_39, aRanksBefore, aBusy, aOpen, aShut]) H locs := hG
        refine lv_i2l (v := r_38.toInt64) hx hb dX7_digestOfPairs_99 rfl ?_
        obtain ⟨r_41, ec42, hb36⟩ := bnd1_some hb36
        refine g_callSr [.long x1_31, .long (r_38.toInt64)] [] X hT hG ml_X7_251 (c_X7_mix hq ec42) rfl rfl hl.1 (Nat.le_of_ble_eq_true rfl) (by rw [hR]; exact ⟨Nat.le_of_ble_eq_true rfl, Nat.le_of_ble_eq_true rfl⟩) dX7_digestOfPairs_100 (fun H locs hG => ?_)
        refine lv_lstore_n (lv' := [(1, .long r_41), (0, .ref (q 22)), (3, .int x3_2), (4, .int x4_9), (5, .int x5_32)]) hx hb dX7_digestOfPairs_103 rfl hl (by decide) rfl (fun ls hl => ?_)
        obtain ⟨x5_43, ex5_43⟩ : ∃ z : Int32, z = x5_32 + 1 := ⟨_, rfl⟩
        have hb36 := bd_e ex5_43 hb36
        refine lv_iinc (v := x5_43) (lv' := [(5, .int x5_43), (1, .long r_41), (0, .ref (q 22)), (3, .int x3_2), (4, .int x4_9)]) hx hb dX7_digestOfPairs_104 hl (k := 4) rfl (by rw [ex5_43]; rfl) (by decide) rfl (fun ls hl => ?_)
        refine lv_goto (tgt := 83) hx hb dX7_digestOfPairs_107 (by decide) ?_
        exact hin36 _ (Option.some.inj hb36).symm H locs ls hG (lv_sub hl [2, 1, 3, 4, 0] rfl)
def f7_digestOfPlaces_b2 (x3_2 : Int32) (aOpen : (Nat → Int32)) (x1_6 : Int64) (x4_7 : Int32) : Option ((Int64 × Int32) ⊕ (Int64)) :=
  if 8 ≤ x4_7 then (some (.inr x1_6)) else bnd1 (if x3_2 = x4_7 then (some x1_6) else bnd1 (f7_route x3_2 x4_7 aOpen) fun (r_14 : Int32) => bnd1 (f7_mix x1_6 (r_14.toInt64)) fun (r_16 : Int64) => some r_16) fun (x1_11 : Int64) => bd (x4_7 + 1) fun x4_18 => some (.inl (x1_11, x4_18))
def f7_digestOfPlaces_b1 (fu : Nat) (aOpen : (Nat → Int32)) (x1_1 : Int64) (x3_2 : Int32) : Option ((Int64 × Int32) ⊕ (Int64)) :=
  if 8 ≤ x3_2 then (some (.inr x1_1)) else bnd1 (lpG (fun z => f7_digestOfPlaces_b2 x3_2 aOpen z.1 z.2) fu (x1_1, (0 : Int32))) fun (x1_8 : Int64) => bd (x3_2 + 1) fun x3_19 => some (.inl (x1_8, x3_19))
def f7_digestOfPlaces_b3 (fu : Nat) (iSize : Int32) (gCosts : (Nat → Int32)) (aLengths : (Nat → Int32)) (aBegins : (Nat → Int32)) (aEnds : (Nat → Int32)) (aOpen : (Nat → Int32)) (x1_20 : Int64) (x3_21 : Int32) (gShutKeys_22 : (Nat → Int32)) (aShut_23 : (Nat → Int32)) : Option ((Int64 × Int32 × (Nat → Int32) × (Nat → Int32)) ⊕ (Int64 × (Nat → Int32) × (Nat → Int32))) :=
  if iSize ≤ x3_21 then (some (.inr (x1_20, gShutKeys_22, aShut_23))) else bnd3 (f7_loss fu x3_21 iSize gShutKeys_22 aShut_23 100 gCosts aLengths aBegins aEnds aOpen) fun (r_29 : Int32) (gShutKeys_30 : (Nat → Int32)) (aShut_31 : (Nat → Int32)) => bnd1 (f7_mix x1_20 (r_29.toInt64)) fun (r_33 : Int64) => bd (x3_21 + 1) fun x3_35 => some (.inl (r_33, x3_35, gShutKeys_30, aShut_31))
def f7_digestOfPlaces (fu : Nat) (aOpen : (Nat → Int32)) (p1 : Int64) (iSize : Int32) (gCosts : (Nat → Int32)) (aLengths : (Nat → Int32)) (aBegins : (Nat → Int32)) (aEnds : (Nat → Int32)) (gShutKeys : (Nat → Int32)) (aShut : (Nat → Int32)) : Option (Int64 × (Nat → Int32) × (Nat → Int32)) :=
  bnd1 (lpG (fun z => f7_digestOfPlaces_b1 fu aOpen z.1 z.2) fu (p1, (0 : Int32))) fun (x1_3 : Int64) => bnd3 (lpG (fun z => f7_digestOfPlaces_b3 fu iSize gCosts aLengths aBegins aEnds aOpen z.1 z.2.1 z.2.2.1 z.2.2.2) fu (x1_3, (0 : Int32), gShutKeys, aShut)) fun (x1_24 : Int64) (gShutKeys_25 : (Nat → Int32)) (aShut_26 : (Nat → Int32)) => some (x1_24, gShutKeys_25, aShut_26)
set_option maxHeartbeats 4000000 in
set_option maxRecDepth 100000 in
theorem c_X7_digestOfPlaces (hq : gJ layB q) {fu : Nat} {p1 : Int64} {o_r : Int64} {o_gShutKeys : (Nat → Int32)} {o_aShut : (Nat → Int32)} (h : f7_digestOfPlaces fu aOpen p1 iSize gCosts aLengths aBegins aEnds gShutKeys aShut = some (o_r, o_gShutKeys, o_aShut)) :
    GM l yX7_digestOfPlaces cX7_digestOfPlaces 5 (some .long) 6 139 D cI cZ layB q [.ref (q 22), .long p1] ([iReadings, iAlterations, iRankings, iLetters, iCurrent, iDue, iSize, iLsize], [], [gCosts, gWorths, gMiddles, gApart, gApartWithout, gNeeded, gUps, gDowns, gKeys, gNexts, gShutKeys, aCodes, aPbegins, aPends, aPlengths, aBegins, aEnds, aLengths, aRanks, aRoadsByRank, aRow, aRanksBefore, aBusy, aOpen, aShut]) (some (.long o_r)) ([iReadings, iAlterations, iRankings, iLetters, iCurrent, iDue, iSize, iLsize], [], [gCosts, gWorths, gMiddles, gApart, gApartWithout, gNeeded, gUps, gDowns, gKeys, gNexts, o_gShutKeys, aCodes, aPbegins, aPends, aPlengths, aBegins, aEnds, aLengths, aRanks, aRoadsByRank, aRow, aRanksBefore, aBusy, aOpen, o_aShut]) := by
  refine GM.go RX7 (by decide) rfl (Nat.le_of_ble_eq_true rfl) ?_
  intro p e s m args below meth c ls R Q H locs X hr hlk hT hG hl hR hQ
  have hx := X.1
  have hb := X.2.1
  have hl : lv_has ls 5 [(0, .ref (q 22)), (1, .long p1)] := hl
  unfold f7_digestOfPlaces at h
  refine lv_iconst (v := 0) hx hb dX7_digestOfPlaces_0 (by decide) ?_
  refine lv_istore_n (lv' := [(3, .int 0), (0, .ref (q 22)), (1, .long p1)]) hx hb dX7_digestOfPlaces_1 rfl hl (by decide) rfl (fun ls hl => ?_)
  obtain ⟨x1_3, eL4, h⟩ := bnd1_some h
  have JX4 : ∀ (H : Heap) (locs : List Loc) (ls : Array Slot), GH D cI cZ layB q s ([iReadings, iAlterations, iRankings, iLetters, iCurrent, iDue, iSize, iLsize], [], [gCosts, gWorths, gMiddles, gApart, gApartWithout, gNeeded, gUps, gDowns, gKeys, gNexts, gShutKeys, aCodes, aPbegins, aPends, aPlengths, aBegins, aEnds, aLengths, aRanks, aRoadsByRank, aRow, aRanksBefore, aBusy, aOpen, aShut]) H locs → lv_has ls 5 [(0, .ref (q 22)), (1, .long x1_3)] → W p l e R s m args below meth c H locs 0 0 Q (F0 m 49 ls []) := by
    intro H locs ls hG hl
    refine lv_iconst (v := 0) hx hb dX7_digestOfPlaces_49 (by decide) ?_
    refine lv_istore_n (lv' := [(3, .int 0), (0, .ref (q 22)), (1, .long x1_3)]) hx hb dX7_digestOfPlaces_50 rfl hl (by decide) rfl (fun ls hl => ?_)
    obtain ⟨x1_24, gShutKeys_25, aShut_26, eL27, h⟩ := bnd3_some h
    have JX27 : ∀ (H : Heap) (locs : List Loc) (ls : Array Slot), GH D cI cZ layB q s ([iReadings, iAlterations, iRankings, iLetters, iCurrent, iDue, iSize, iLsize], [], [gCosts, gWorths, gMiddles, gApart, gApartWithout, gNeeded, gUps, gDowns, gKeys, gNexts, gShutKeys_25, aCodes, aPbegins, aPends, aPlengths, aBegins, aEnds, aLengths, aRanks, aRoadsByRank, aRow, aRanksBefore, aBusy, aOpen, aShut_26]) H locs → lv_has ls 5 [(1, .long x1_24)] → W p l e R s m args below meth c H locs 0 0 Q (F0 m 81 ls []) := by
      intro H locs ls hG hl
      refine lv_lload_n hx hb dX7_digestOfPlaces_81 rfl (lv_at hl 0 rfl) ?_
      cases h
      rw [hQ]
      exact g_lret X hT hG hr hlk dX7_digestOfPlaces_82
    refine lpG_W (Wh := fun z => ∀ (H : Heap) (locs : List Loc) (ls : Array Slot), GH D cI cZ layB q s ([iReadings, iAlterations, iRankings, iLetters, iCurrent, iDue, iSize, iLsize], [], [gCosts, gWorths, gMiddles, gApart, gApartWithout, gNeeded, gUps, gDowns, gKeys, gNexts, z.2.2.1, aCodes, aPbegins, aPends, aPlengths, aBegins, aEnds, aLengths, aRanks, aRoadsByRank, aRow, aRanksBefore, aBusy, aOpen, z.2.2.2]) H locs → lv_has ls 5 [(0, .ref (q 22)), (1, .long (z.1)), (3, .int (z.2.1))] → W p l e R s m args below meth c H locs 0 0 Q (F0 m 51 ls [])) ?_ fu _ eL27 H locs ls hG (lv_sub hl [1, 2, 0] rfl)
    intro z rr27 hb27 hin27 hout27
    obtain ⟨x1_20, x3_21, gShutKeys_22, aShut_23⟩ := z
    intro H locs ls hG hl
    have hb27 : f7_digestOfPlaces_b3 fu iSize gCosts aLengths aBegins aEnds aOpen x1_20 x3_21 gShutKeys_22 aShut_23 = some rr27 := hb27
    have hG : GH D cI cZ layB q s ([iReadings, iAlterations, iRankings, iLetters, iCurrent, iDue, iSize, iLsize], [], [gCosts, gWorths, gMiddles, gApart, gApartWithout, gNeeded, gUps, gDowns, gKeys, gNexts, gShutKeys_22, aCodes, aPbegins, aPends, aPlengths, aBegins, aEnds, aLengths, aRanks, aRoadsByRank, aRow, aRanksBefore, aBusy, aOpen, aShut_23]) H locs := hG
    have hl : lv_has ls 5 [(0, .ref (q 22)), (1, .long x1_20), (3, .int x3_21)] := hl
    unfold f7_digestOfPlaces_b3 at hb27
    refine lv_iload_n hx hb dX7_digestOfPlaces_51 rfl (lv_at hl 2 rfl) ?_
    refine lv_aload_n hx hb dX7_digestOfPlaces_52 rfl (lv_at hl 0 rfl) ?_
    refine g_get (v := .ref (q 24)) X hT hG fl_X7_19 22 rfl rfl rfl dX7_digestOfPlaces_53 ?_
    refine g_get (v := .int iSize) X hT hG fl_X7_81 24 rfl rfl rfl dX7_digestOfPlaces_56 ?_
    refine lv_icmp_ge (tgt := 81) hx hb dX7_digestOfPlaces_59 (by decide) (fun cb28 => ?_) (fun cb28 => ?_)
    · have hb27 := ite_t cb28 hb27
      have eo := hout27 _ (Option.some.inj hb27).symm
      cases eo
      exact JX27 H locs ls hG (lv_sub hl [1] rfl)
    · have hb27 := ite_f cb28 hb27
      refine lv_lload_n hx hb dX7_digestOfPlaces_62 rfl (lv_at hl 1 rfl) ?_
      refine lv_aload_n hx hb dX7_digestOfPlaces_63 rfl (lv_at hl 0 rfl) ?_
      refine lv_iload_n hx hb dX7_digestOfPlaces_64 rfl (lv_at hl 2 rfl) ?_
      refine lv_bipush (v := 100) hx hb dX7_digestOfPlaces_65 (by decide) ?_
      obtain ⟨r_29, gShutKeys_30, aShut_31, ec32, hb27⟩ := bnd3_some hb27
      refine g_callVr [.int x3_21, .int 100] [.long x1_20] 22 X hT hG ml_X7_273 (c_X7_loss hq ec32) rfl rfl rfl rfl rfl hl.1 (Nat.le_of_ble_eq_true rfl) (by rw [hR]; exact ⟨Nat.le_of_ble_eq_true rfl, Nat.le_of_ble_eq_true rfl⟩) dX7_digestOfPlaces_67 (fun H locs hG => ?_)
      have hG : GH D cI cZ layB q s ([iReadings, iAlterations, iRankings, iLetters, iCurrent, iDue, iSize, iLsize], [], [gCosts, gWorths, gMiddles, gApart, gApartWithout, gNeeded, gUps, gDowns, gKeys, gNexts, gShutKeys_30, aCodes, aPbegins, aPends, aPlengths, aBegins, aEnds, aLengths, aRanks, aRoadsByRank, aRow, aRanksBefore, aBusy, aOpen, aShut_31]) H locs := hG
      refine lv_i2l (v := r_29.toInt64) hx hb dX7_digestOfPlaces_70 rfl ?_
      obtain ⟨r_33, ec34, hb27⟩ := bnd1_some hb27
      refine g_callSr [.long x1_20, .long (r_29.toInt64)] [] X hT hG ml_X7_251 (c_X7_mix hq ec34) rfl rfl hl.1 (Nat.le_of_ble_eq_true rfl) (by rw [hR]; exact ⟨Nat.le_of_ble_eq_true rfl, Nat.le_of_ble_eq_true rfl⟩) dX7_digestOfPlaces_71 (fun H locs hG => ?_)
      refine lv_lstore_n (lv' := [(1, .long r_33), (0, .ref (q 22)), (3, .int x3_21)]) hx hb dX7_digestOfPlaces_74 rfl hl (by decide) rfl (fun ls hl => ?_)
      obtain ⟨x3_35, ex3_35⟩ : ∃ z : Int32, z = x3_21 + 1 := ⟨_, rfl⟩
      have hb27 := bd_e ex3_35 hb27
      refine lv_iinc (v := x3_35) (lv' := [(3, .int x3_35), (1, .long r_33), (0, .ref (q 22))]) hx hb dX7_digestOfPlaces_75 hl (k := 2) rfl (by rw [ex3_35]; rfl) (by decide) rfl (fun ls hl => ?_)
      refine lv_goto (tgt := 51) hx hb dX7_digestOfPlaces_78 (by decide) ?_
      exact hin27 _ (Option.some.inj hb27).symm H locs ls hG (lv_sub hl [2, 1, 0] rfl)
  refine lpG_W (Wh := fun z => ∀ (H : Heap) (locs : List Loc) (ls : Array Slot), GH D cI cZ layB q s ([iReadings, iAlterations, iRankings, iLetters, iCurrent, iDue, iSize, iLsize], [], [gCosts, gWorths, gMiddles, gApart, gApartWithout, gNeeded, gUps, gDowns, gKeys, gNexts, gShutKeys, aCodes, aPbegins, aPends, aPlengths, aBegins, aEnds, aLengths, aRanks, aRoadsByRank, aRow, aRanksBefore, aBusy, aOpen, aShut]) H locs → lv_has ls 5 [(0, .ref (q 22)), (1, .long (z.1)), (3, .int (z.2))] → W p l e R s m args below meth c H locs 0 0 Q (F0 m 2 ls [])) ?_ fu _ eL4 H locs ls hG (lv_sub hl [1, 2, 0] rfl)
  intro z rr4 hb4 hin4 hout4
  obtain ⟨x1_1, x3_2⟩ := z
  intro H locs ls hG hl
  have hb4 : f7_digestOfPlaces_b1 fu aOpen x1_1 x3_2 = some rr4 := hb4
  have hG : GH D cI cZ layB q s ([iReadings, iAlterations, iRankings, iLetters, iCurrent, iDue, iSize, iLsize], [], [gCosts, gWorths, gMiddles, gApart, gApartWithout, gNeeded, gUps, gDowns, gKeys, gNexts, gShutKeys, aCodes, aPbegins, aPends, aPlengths, aBegins, aEnds, aLengths, aRanks, aRoadsByRank, aRow, aRanksBefore, aBusy, aOpen, aShut]) H locs := hG
  have hl : lv_has ls 5 [(0, .ref (q 22)), (1, .long x1_1), (3, .int x3_2)] := hl
  unfold f7_digestOfPlaces_b1 at hb4
  refine lv_iload_n hx hb dX7_digestOfPlaces_2 rfl (lv_at hl 2 rfl) ?_
  refine lv_bipush (v := 8) hx hb dX7_digestOfPlaces_3 (by decide) ?_
  refine lv_icmp_ge (tgt := 49) hx hb dX7_digestOfPlaces_5 (by decide) (fun cb5 => ?_) (fun cb5 => ?_)
  · have hb4 := ite_t cb5 hb4
    have eo := hout4 _ (Option.some.inj hb4).symm
    cases eo
    exact JX4 H locs ls hG (lv_sub hl [0, 1] rfl)
  · have hb4 := ite_f cb5 hb4
    refine lv_iconst (v := 0) hx hb dX7_digestOfPlaces_8 (by decide) ?_
    refine lv_istore (lv' := [(4, .int 0), (0, .ref (q 22)), (1, .long x1_1), (3, .int x3_2)]) hx hb dX7_digestOfPlaces_9 hl (by decide) rfl (fun ls hl => ?_)
    obtain ⟨x1_8, eL9, hb4⟩ := bnd1_some hb4
    have JX9 : ∀ (H : Heap) (locs : List Loc) (ls : Array Slot), GH D cI cZ layB q s ([iReadings, iAlterations, iRankings, iLetters, iCurrent, iDue, iSize, iLsize], [], [gCosts, gWorths, gMiddles, gApart, gApartWithout, gNeeded, gUps, gDowns, gKeys, gNexts, gShutKeys, aCodes, aPbegins, aPends, aPlengths, aBegins, aEnds, aLengths, aRanks, aRoadsByRank, aRow, aRanksBefore, aBusy, aOpen, aShut]) H locs → lv_has ls 5 [(0, .ref (q 22)), (1, .long x1_8), (3, .int x3_2)] → W p l e R s m args below meth c H locs 0 0 Q (F0 m 43 ls []) := by
      intro H locs ls hG hl
      obtain ⟨x3_19, ex3_19⟩ : ∃ z : Int32, z = x3_2 + 1 := ⟨_, rfl⟩
      have hb4 := bd_e ex3_19 hb4
      refine lv_iinc (v := x3_19) (lv' := [(3, .int x3_19), (0, .ref (q 22)), (1, .long x1_8)]) hx hb dX7_digestOfPlaces_43 hl (k := 2) rfl (by rw [ex3_19]; rfl) (by decide) rfl (fun ls hl => ?_)
      refine lv_goto (tgt := 2) hx hb dX7_digestOfPlaces_46 (by decide) ?_
      exact hin4 _ (Option.some.inj hb4).symm H locs ls hG (lv_sub hl [1, 2, 0] rfl)
    refine lpG_W (Wh := fun z => ∀ (H : Heap) (locs : List Loc) (ls : Array Slot), GH D cI cZ layB q s ([iReadings, iAlterations, iRankings, iLetters, iCurrent, iDue, iSize, iLsize], [], [gCosts, gWorths, gMiddles, gApart, gApartWithout, gNeeded, gUps, gDowns, gKeys, gNexts, gShutKeys, aCodes, aPbegins, aPends, aPlengths, aBegins, aEnds, aLengths, aRanks, aRoadsByRank, aRow, aRanksBefore, aBusy, aOpen, aShut]) H locs → lv_has ls 5 [(0, .ref (q 22)), (1, .long (z.1)), (3, .int x3_2), (4, .int (z.2))] → W p l e R s m args below meth c H locs 0 0 Q (F0 m 11 ls [])) ?_ fu _ eL9 H locs ls hG (lv_sub hl [1, 2, 3, 0] rfl)
    intro z rr9 hb9 hin9 hout9
    obtain ⟨x1_6, x4_7⟩ := z
    intro H locs ls hG hl
    have hb9 : f7_digestOfPlaces_b2 x3_2 aOpen x1_6 x4_7 = some rr9 := hb9
    have hG : GH D cI cZ layB q s ([iReadings, iAlterations, iRankings, iLetters, iCurrent, iDue, iSize, iLsize], [], [gCosts, gWorths, gMiddles, gApart, gApartWithout, gNeeded, gUps, gDowns, gKeys, gNexts, gShutKeys, aCodes, aPbegins, aPends, aPlengths, aBegins, aEnds, aLengths, aRanks, aRoadsByRank, aRow, aRanksBefore, aBusy, aOpen, aShut]) H locs := hG
    have hl : lv_has ls 5 [(0, .ref (q 22)), (1, .long x1_6), (3, .int x3_2), (4, .int x4_7)] := hl
    unfold f7_digestOfPlaces_b2 at hb9
    refine lv_iload hx hb dX7_digestOfPlaces_11 (lv_at hl 3 rfl) ?_
    refine lv_bipush (v := 8) hx hb dX7_digestOfPlaces_13 (by decide) ?_
    refine lv_icmp_ge (tgt := 43) hx hb dX7_digestOfPlaces_15 (by decide) (fun cb10 => ?_) (fun cb10 => ?_)
    · have hb9 := ite_t cb10 hb9
      have eo := hout9 _ (Option.some.inj hb9).symm
      cases eo
      exact JX9 H locs ls hG (lv_sub hl [0, 1, 2] rfl)
    · have hb9 := ite_f cb10 hb9
      refine lv_iload_n hx hb dX7_digestOfPlaces_18 rfl (lv_at hl 2 rfl) ?_
      refine lv_iload hx hb dX7_digestOfPlaces_19 (lv_at hl 3 rfl) ?_
      obtain ⟨x1_11, er12, hb9⟩ := bnd1_some hb9
      have J12 : ∀ (H : Heap) (locs : List Loc) (ls : Array Slot), GH D cI cZ layB q s ([iReadings, iAlterations, iRankings, iLetters, iCurrent, iDue, iSize, iLsize], [], [gCosts, gWorths, gMiddles, gApart, gApartWithout, gNeeded, gUps, gDowns, gKeys, gNexts, gShutKeys, aCodes, aPbegins, aPends, aPlengths, aBegins, aEnds, aLengths, aRanks, aRoadsByRank, aRow, aRanksBefore, aBusy, aOpen, aShut]) H locs → lv_has ls 5 [(0, .ref (q 22)), (1, .long x1_11), (3, .int x3_2), (4, .int x4_7)] → W p l e R s m args below meth c H locs 0 0 Q (F0 m 37 ls []) := by
        intro H locs ls hG hl
        obtain ⟨x4_18, ex4_18⟩ : ∃ z : Int32, z = x4_7 + 1 := ⟨_, rfl⟩
        have hb9 := bd_e ex4_18 hb9
        refine lv_iinc (v := x4_18) (lv' := [(4, .int x4_18), (0, .ref (q 22)), (1, .long x1_11), (3, .int x3_2)]) hx hb dX7_digestOfPlaces_37 hl (k := 3) rfl (by rw [ex4_18]; rfl) (by decide) rfl (fun ls hl => ?_)
        refine lv_goto (tgt := 11) hx hb dX7_digestOfPlaces_40 (by decide) ?_
        exact hin9 _ (Option.some.inj hb9).symm H locs ls hG (lv_sub hl [1, 2, 3, 0] rfl)
      refine lv_icmp_eq (tgt := 37) hx hb dX7_digestOfPlaces_21 (by decide) (fun cb13 => ?_) (fun cb13 => ?_)
      · have er12 := ite_t cb13 er12
        cases er12
        exact J12 H locs ls hG (lv_sub hl [0, 1, 2, 3] rfl)
      · have er12 := ite_f cb13 er12
        refine lv_lload_n hx hb dX7_digestOfPlaces_24 rfl (lv_at hl 1 rfl) ?_
        refine lv_aload_n hx hb dX7_digestOfPlaces_25 rfl (lv_at hl 0 rfl) ?_
        refine lv_iload_n hx hb dX7_digestOfPlaces_26 rfl (lv_at hl 2 rfl) ?_
        refine lv_iload hx hb dX7_digestOfPlaces_27 (lv_at hl 3 rfl) ?_
        obtain ⟨r_14, ec15, er12⟩ := bnd1_some er12
        refine g_callVr [.int x3_2, .int x4_7] [.long x1_6] 22 X hT hG ml_X7_270 (c_X7_route hq ec15) rfl rfl rfl rfl rfl hl.1 (Nat.le_of_ble_eq_true rfl) (by rw [hR]; exact ⟨Nat.le_of_ble_eq_true rfl, Nat.le_of_ble_eq_true rfl⟩) dX7_digestOfPlaces_29 (fun H locs hG => ?_)
        refine lv_i2l (v := r_14.toInt64) hx hb dX7_digestOfPlaces_32 rfl ?_
        obtain ⟨r_16, ec17, er12⟩ := bnd1_some er12
        refine g_callSr [.long x1_6, .long (r_14.toInt64)] [] X hT hG ml_X7_251 (c_X7_mix hq ec17) rfl rfl hl.1 (Nat.le_of_ble_eq_true rfl) (by rw [hR]; exact ⟨Nat.le_of_ble_eq_true rfl, Nat.le_of_ble_eq_true rfl⟩) dX7_digestOfPlaces_33 (fun H locs hG => ?_)
        refine lv_lstore_n (lv' := [(1, .long r_16), (0, .ref (q 22)), (3, .int x3_2), (4, .int x4_7)]) hx hb dX7_digestOfPlaces_36 rfl hl (by decide) rfl (fun ls hl => ?_)
        cases er12
        exact J12 H locs ls hG (lv_sub hl [1, 0, 2, 3] rfl)
def f7_digestOfCounts_b1 (fu : Nat) (iSize : Int32) (aBusy : (Nat → Int32)) (iLsize : Int32) (gWorths : (Nat → Int32)) (gMiddles : (Nat → Int32)) (aOpen : (Nat → Int32)) (x1_1 : Int64) (x3_2 : Int32) : Option ((Int64 × Int32) ⊕ (Int64)) :=
  if 5 < x3_2 then (some (.inr x1_1)) else bnd1 (f7_all fu x3_2 iSize aBusy iLsize gWorths gMiddles aOpen) fun (r_6 : Int32) => bnd1 (f7_mix x1_1 (r_6.toInt64)) fun (r_8 : Int64) => bd (x3_2 + 1) fun x3_10 => some (.inl (r_8, x3_10))
def f7_digestOfCounts_b2 (iLetters : Int32) (aCodes : (Nat → Int32)) (x1_11 : Int64) (x3_12 : Int32) : Option ((Int64 × Int32) ⊕ (Int64)) :=
  if iLetters ≤ x3_12 then (some (.inr x1_11)) else ckin x3_12 60 (bnd1 (f7_mix x1_11 ((aCodes x3_12.toNatClampNeg).toInt64)) fun (r_17 : Int64) => bd (x3_12 + 1) fun x3_19 => some (.inl (r_17, x3_19)))
def f7_digestOfCounts_b3 (fu : Nat) (iSize : Int32) (iLetters : Int32) (gCosts : (Nat → Int32)) (iReadings : Int32) (iAlterations : Int32) (iRankings : Int32) (x1_20 : Int64) (x3_21 : Int32) : Option ((Int64 × Int32) ⊕ (Int64)) :=
  if 6 < x3_21 then (some (.inr x1_20)) else bnd1 (f7_count fu x3_21 iSize iLetters gCosts iReadings iAlterations iRankings) fun (r_25 : Int32) => bnd1 (f7_mix x1_20 (r_25.toInt64)) fun (r_27 : Int64) => bd (x3_21 + 1) fun x3_29 => some (.inl (r_27, x3_29))
def f7_digestOfCounts (fu : Nat) (iSize : Int32) (aBusy : (Nat → Int32)) (iLsize : Int32) (gWorths : (Nat → Int32)) (gMiddles : (Nat → Int32)) (aOpen : (Nat → Int32)) (p1 : Int64) (iLetters : Int32) (aCodes : (Nat → Int32)) (gCosts : (Nat → Int32)) (iReadings : Int32) (iAlterations : Int32) (iRankings : Int32) : Option (Int64) :=
  bnd1 (lpG (fun z => f7_digestOfCounts_b1 fu iSize aBusy iLsize gWorths gMiddles aOpen z.1 z.2) fu (p1, (0 : Int32))) fun (x1_3 : Int64) => bnd1 (lpG (fun z => f7_digestOfCounts_b2 iLetters aCodes z.1 z.2) fu (x1_3, (0 : Int32))) fun (x1_13 : Int64) => bnd1 (lpG (fun z => f7_digestOfCounts_b3 fu iSize iLetters gCosts iReadings iAlterations iRankings z.1 z.2) fu (x1_13, (0 : Int32))) fun (x1_22 : Int64) => some x1_22
set_option maxHeartbeats 4000000 in
set_option maxRecDepth 100000 in
theorem c_X7_digestOfCounts (hq : gJ layB q) {fu : Nat} {p1 : Int64} {o_r : Int64} (h : f7_digestOfCounts fu iSize aBusy iLsize gWorths gMiddles aOpen p1 iLetters aCodes gCosts iReadings iAlterations iRankings = some o_r) :
    GM l yX7_digestOfCounts cX7_digestOfCounts 4 (some .long) 4 89 D cI cZ layB q [.ref (q 22), .long p1] ([iReadings, iAlterations, iRankings, iLetters, iCurrent, iDue, iSize, iLsize], [], [gCosts, gWorths, gMiddles, gApart, gApartWithout, gNeeded, gUps, gDowns, gKeys, gNexts, gShutKeys, aCodes, aPbegins, aPends, aPlengths, aBegins, aEnds, aLengths, aRanks, aRoadsByRank, aRow, aRanksBefore, aBusy, aOpen, aShut]) (some (.long o_r)) ([iReadings, iAlterations, iRankings, iLetters, iCurrent, iDue, iSize, iLsize], [], [gCosts, gWorths, gMiddles, gApart, gApartWithout, gNeeded, gUps, gDowns, gKeys, gNexts, gShutKeys, aCodes, aPbegins, aPends, aPlengths, aBegins, aEnds, aLengths, aRanks, aRoadsByRank, aRow, aRanksBefore, aBusy, aOpen, aShut]) := by
  refine GM.go RX7 (by decide) rfl (Nat.le_of_ble_eq_true rfl) ?_
  intro p e s m args below meth c ls R Q H locs X hr hlk hT hG hl hR hQ
  have hx := X.1
  have hb := X.2.1
  have hl : lv_has ls 4 [(0, .ref (q 22)), (1, .long p1)] := hl
  unfold f7_digestOfCounts at h
  refine lv_iconst (v := 0) hx hb dX7_digestOfCounts_0 (by decide) ?_
  refine lv_istore_n (lv' := [(3, .int 0), (0, .ref (q 22)), (1, .long p1)]) hx hb dX7_digestOfCounts_1 rfl hl (by decide) rfl (fun ls hl => ?_)
  obtain ⟨x1_3, eL4, h⟩ := bnd1_some h
  have JX4 : ∀ (H : Heap) (locs : List Loc) (ls : Array Slot), GH D cI cZ layB q s ([iReadings, iAlterations, iRankings, iLetters, iCurrent, iDue, iSize, iLsize], [], [gCosts, gWorths, gMiddles, gApart, gApartWithout, gNeeded, gUps, gDowns, gKeys, gNexts, gShutKeys, aCodes, aPbegins, aPends, aPlengths, aBegins, aEnds, aLengths, aRanks, aRoadsByRank, aRow, aRanksBefore, aBusy, aOpen, aShut]) H locs → lv_has ls 4 [(0, .ref (q 22)), (1, .long x1_3)] → W p l e R s m args below meth c H locs 0 0 Q (F0 m 24 ls []) := by
    intro H locs ls hG hl
    refine lv_iconst (v := 0) hx hb dX7_digestOfCounts_24 (by decide) ?_
    refine lv_istore_n (lv' := [(3, .int 0), (0, .ref (q 22)), (1, .long x1_3)]) hx hb dX7_digestOfCounts_25 rfl hl (by decide) rfl (fun ls hl => ?_)
    obtain ⟨x1_13, eL14, h⟩ := bnd1_some h
    have JX14 : ∀ (H : Heap) (locs : List Loc) (ls : Array Slot), GH D cI cZ layB q s ([iReadings, iAlterations, iRankings, iLetters, iCurrent, iDue, iSize, iLsize], [], [gCosts, gWorths, gMiddles, gApart, gApartWithout, gNeeded, gUps, gDowns, gKeys, gNexts, gShutKeys, aCodes, aPbegins, aPends, aPlengths, aBegins, aEnds, aLengths, aRanks, aRoadsByRank, aRow, aRanksBefore, aBusy, aOpen, aShut]) H locs → lv_has ls 4 [(0, .ref (q 22)), (1, .long x1_13)] → W p l e R s m args below meth c H locs 0 0 Q (F0 m 58 ls []) := by
      intro H locs ls hG hl
      refine lv_iconst (v := 0) hx hb dX7_digestOfCounts_58 (by decide) ?_
      refine lv_istore_n (lv' := [(3, .int 0), (0, .ref (q 22)), (1, .long x1_13)]) hx hb dX7_digestOfCounts_59 rfl hl (by decide) rfl (fun ls hl => ?_)
      obtain ⟨x1_22, eL23, h⟩ := bnd1_some h
      have JX23 : ∀ (H : Heap) (locs : List Loc) (ls : Array Slot), GH D cI cZ layB q s ([iReadings, iAlterations, iRankings, iLetters, iCurrent, iDue, iSize, iLsize], [], [gCosts, gWorths, gMiddles, gApart, gApartWithout, gNeeded, gUps, gDowns, gKeys, gNexts, gShutKeys, aCodes, aPbegins, aPends, aPlengths, aBegins, aEnds, aLengths, aRanks, aRoadsByRank, aRow, aRanksBefore, aBusy, aOpen, aShut]) H locs → lv_has ls 4 [(1, .long x1_22)] → W p l e R s m args below meth c H locs 0 0 Q (F0 m 83 ls []) := by
        intro H locs ls hG hl
        refine lv_lload_n hx hb dX7_digestOfCounts_83 rfl (lv_at hl 0 rfl) ?_
        cases h
        rw [hQ]
        exact g_lret X hT hG hr hlk dX7_digestOfCounts_84
      refine lpG_W (Wh := fun z => ∀ (H : Heap) (locs : List Loc) (ls : Array Slot), GH D cI cZ layB q s ([iReadings, iAlterations, iRankings, iLetters, iCurrent, iDue, iSize, iLsize], [], [gCosts, gWorths, gMiddles, gApart, gApartWithout, gNeeded, gUps, gDowns, gKeys, gNexts, gShutKeys, aCodes, aPbegins, aPends, aPlengths, aBegins, aEnds, aLengths, aRanks, aRoadsByRank, aRow, aRanksBefore, aBusy, aOpen, aShut]) H locs → lv_has ls 4 [(0, .ref (q 22)), (1, .long (z.1)), (3, .int (z.2))] → W p l e R s m args below meth c H locs 0 0 Q (F0 m 60 ls [])) ?_ fu _ eL23 H locs ls hG (lv_sub hl [1, 2, 0] rfl)
      intro z rr23 hb23 hin23 hout23
      obtain ⟨x1_20, x3_21⟩ := z
      intro H locs ls hG hl
      have hb23 : f7_digestOfCounts_b3 fu iSize iLetters gCosts iReadings iAlterations iRankings x1_20 x3_21 = some rr23 := hb23
      have hG : GH D cI cZ layB q s ([iReadings, iAlterations, iRankings, iLetters, iCurrent, iDue, iSize, iLsize], [], [gCosts, gWorths, gMiddles, gApart, gApartWithout, gNeeded, gUps, gDowns, gKeys, gNexts, gShutKeys, aCodes, aPbegins, aPends, aPlengths, aBegins, aEnds, aLengths, aRanks, aRoadsByRank, aRow, aRanksBefore, aBusy, aOpen, aShut]) H locs := hG
      have hl : lv_has ls 4 [(0, .ref (q 22)), (1, .long x1_20), (3, .int x3_21)] := hl
      unfold f7_digestOfCounts_b3 at hb23
      refine lv_iload_n hx hb dX7_digestOfCounts_60 rfl (lv_at hl 2 rfl) ?_
      refine lv_bipush (v := 6) hx hb dX7_digestOfCounts_61 (by decide) ?_
      refine lv_icmp_gt (tgt := 83) hx hb dX7_digestOfCounts_63 (by decide) (fun cb24 => ?_) (fun cb24 => ?_)
      · have hb23 := ite_t cb24 hb23
        have eo := hout23 _ (Option.some.inj hb23).symm
        cases eo
        exact JX23 H locs ls hG (lv_sub hl [1] rfl)
      · have hb23 := ite_f cb24 hb23
        refine lv_lload_n hx hb dX7_digestOfCounts_66 rfl (lv_at hl 1 rfl) ?_
        refine lv_aload_n hx hb dX7_digestOfCounts_67 rfl (lv_at hl 0 rfl) ?_
        refine lv_iload_n hx hb dX7_digestOfCounts_68 rfl (lv_at hl 2 rfl) ?_
        obtain ⟨r_25, ec26, hb23⟩ := bnd1_some hb23
        refine g_callVr [.int x3_21] [.long x1_20] 22 X hT hG ml_X7_282 (c_X7_count hq ec26) rfl rfl rfl rfl rfl hl.1 (Nat.le_of_ble_eq_true rfl) (by rw [hR]; exact ⟨Nat.le_of_ble_eq_true rfl, Nat.le_of_ble_eq_true rfl⟩) dX7_digestOfCounts_69 (fun H locs hG => ?_)
        refine lv_i2l (v := r_25.toInt64) hx hb dX7_digestOfCounts_72 rfl ?_
        obtain ⟨r_27, ec28, hb23⟩ := bnd1_some hb23
        refine g_callSr [.long x1_20, .long (r_25.toInt64)] [] X hT hG ml_X7_251 (c_X7_mix hq ec28) rfl rfl hl.1 (Nat.le_of_ble_eq_true rfl) (by rw [hR]; exact ⟨Nat.le_of_ble_eq_true rfl, Nat.le_of_ble_eq_true rfl⟩) dX7_digestOfCounts_73 (fun H locs hG => ?_)
        refine lv_lstore_n (lv' := [(1, .long r_27), (0, .ref (q 22)), (3, .int x3_21)]) hx hb dX7_digestOfCounts_76 rfl hl (by decide) rfl (fun ls hl => ?_)
        obtain ⟨x3_29, ex3_29⟩ : ∃ z : Int32, z = x3_21 + 1 := ⟨_, rfl⟩
        have hb23 := bd_e ex3_29 hb23
        refine lv_iinc (v := x3_29) (lv' := [(3, .int x3_29), (1, .long r_27), (0, .ref (q 22))]) hx hb dX7_digestOfCounts_77 hl (k := 2) rfl (by rw [ex3_29]; rfl) (by decide) rfl (fun ls hl => ?_)
        refine lv_goto (tgt := 60) hx hb dX7_digestOfCounts_80 (by decide) ?_
        exact hin23 _ (Option.some.inj hb23).symm H locs ls hG (lv_sub hl [2, 1, 0] rfl)
    refine lpG_W (Wh := fun z => ∀ (H : Heap) (locs : List Loc) (ls : Array Slot), GH D cI cZ layB q s ([iReadings, iAlterations, iRankings, iLetters, iCurrent, iDue, iSize, iLsize], [], [gCosts, gWorths, gMiddles, gApart, gApartWithout, gNeeded, gUps, gDowns, gKeys, gNexts, gShutKeys, aCodes, aPbegins, aPends, aPlengths, aBegins, aEnds, aLengths, aRanks, aRoadsByRank, aRow, aRanksBefore, aBusy, aOpen, aShut]) H locs → lv_has ls 4 [(0, .ref (q 22)), (1, .long (z.1)), (3, .int (z.2))] → W p l e R s m args below meth c H locs 0 0 Q (F0 m 26 ls [])) ?_ fu _ eL14 H locs ls hG (lv_sub hl [1, 2, 0] rfl)
    intro z rr14 hb14 hin14 hout14
    obtain ⟨x1_11, x3_12⟩ := z
    intro H locs ls hG hl
    have hb14 : f7_digestOfCounts_b2 iLetters aCodes x1_11 x3_12 = some rr14 := hb14
    have hG : GH D cI cZ layB q s ([iReadings, iAlterations, iRankings, iLetters, iCurrent, iDue, iSize, iLsize], [], [gCosts, gWorths, gMiddles, gApart, gApartWithout, gNeeded, gUps, gDowns, gKeys, gNexts, gShutKeys, aCodes, aPbegins, aPends, aPlengths, aBegins, aEnds, aLengths, aRanks, aRoadsByRank, aRow, aRanksBefore, aBusy, aOpen, aShut]) H locs := hG
    have hl : lv_has ls 4 [(0, .ref (q 22)), (1, .long x1_11), (3, .int x3_12)] := hl
    unfold f7_digestOfCounts_b2 at hb14
    refine lv_iload_n hx hb dX7_digestOfCounts_26 rfl (lv_at hl 2 rfl) ?_
    refine lv_aload_n hx hb dX7_digestOfCounts_27 rfl (lv_at hl 0 rfl) ?_
    refine g_get (v := .ref (q 23)) X hT hG fl_X7_10 22 rfl rfl rfl dX7_digestOfCounts_28 ?_
    refine g_get (v := .int iLetters) X hT hG fl_X7_51 23 rfl rfl rfl dX7_digestOfCounts_31 ?_
    refine lv_icmp_ge (tgt := 58) hx hb dX7_digestOfCounts_34 (by decide) (fun cb15 => ?_) (fun cb15 => ?_)
    · have hb14 := ite_t cb15 hb14
      have eo := hout14 _ (Option.some.inj hb14).symm
      cases eo
      exact JX14 H locs ls hG (lv_sub hl [0, 1] rfl)
    · have hb14 := ite_f cb15 hb14
      refine lv_lload_n hx hb dX7_digestOfCounts_37 rfl (lv_at hl 1 rfl) ?_
      refine lv_aload_n hx hb dX7_digestOfCounts_38 rfl (lv_at hl 0 rfl) ?_
      refine g_get (v := .ref (q 23)) X hT hG fl_X7_10 22 rfl rfl rfl dX7_digestOfCounts_39 ?_
      refine g_get (v := .ref (q 29)) X hT hG fl_X7_279 23 rfl rfl rfl dX7_digestOfCounts_42 ?_
      refine lv_iload_n hx hb dX7_digestOfCounts_45 rfl (lv_at hl 2 rfl) ?_
      obtain ⟨hi16, hb14⟩ := ckin_some hb14
      refine g_ald (f := aCodes) X hT hG 29 rfl rfl hi16 dX7_digestOfCounts_46 ?_
      refine lv_i2l (v := (aCodes x3_12.toNatClampNeg).toInt64) hx hb dX7_digestOfCounts_47 rfl ?_
      obtain ⟨r_17, ec18, hb14⟩ := bnd1_some hb14
      refine g_callSr [.long x1_11, .long ((aCodes x3_12.toNatClampNeg).toInt64)] [] X hT hG ml_X7_251 (c_X7_mix hq ec18) rfl rfl hl.1 (Nat.le_of_ble_eq_true rfl) (by rw [hR]; exact ⟨Nat.le_of_ble_eq_true rfl, Nat.le_of_ble_eq_true rfl⟩) dX7_digestOfCounts_48 (fun H locs hG => ?_)
      refine lv_lstore_n (lv' := [(1, .long r_17), (0, .ref (q 22)), (3, .int x3_12)]) hx hb dX7_digestOfCounts_51 rfl hl (by decide) rfl (fun ls hl => ?_)
      obtain ⟨x3_19, ex3_19⟩ : ∃ z : Int32, z = x3_12 + 1 := ⟨_, rfl⟩
      have hb14 := bd_e ex3_19 hb14
      refine lv_iinc (v := x3_19) (lv' := [(3, .int x3_19), (1, .long r_17), (0, .ref (q 22))]) hx hb dX7_digestOfCounts_52 hl (k := 2) rfl (by rw [ex3_19]; rfl) (by decide) rfl (fun ls hl => ?_)
      refine lv_goto (tgt := 26) hx hb dX7_digestOfCounts_55 (by decide) ?_
      exact hin14 _ (Option.some.inj hb14).symm H locs ls hG (lv_sub hl [2, 1, 0] rfl)
  refine lpG_W (Wh := fun z => ∀ (H : Heap) (locs : List Loc) (ls : Array Slot), GH D cI cZ layB q s ([iReadings, iAlterations, iRankings, iLetters, iCurrent, iDue, iSize, iLsize], [], [gCosts, gWorths, gMiddles, gApart, gApartWithout, gNeeded, gUps, gDowns, gKeys, gNexts, gShutKeys, aCodes, aPbegins, aPends, aPlengths, aBegins, aEnds, aLengths, aRanks, aRoadsByRank, aRow, aRanksBefore, aBusy, aOpen, aShut]) H locs → lv_has ls 4 [(0, .ref (q 22)), (1, .long (z.1)), (3, .int (z.2))] → W p l e R s m args below meth c H locs 0 0 Q (F0 m 2 ls [])) ?_ fu _ eL4 H locs ls hG (lv_sub hl [1, 2, 0] rfl)
  intro z rr4 hb4 hin4 hout4
  obtain ⟨x1_1, x3_2⟩ := z
  intro H locs ls hG hl
  have hb4 : f7_digestOfCounts_b1 fu iSize aBusy iLsize gWorths gMiddles aOpen x1_1 x3_2 = some rr4 := hb4
  have hG : GH D cI cZ layB q s ([iReadings, iAlterations, iRankings, iLetters, iCurrent, iDue, iSize, iLsize], [], [gCosts, gWorths, gMiddles, gApart, gApartWithout, gNeeded, gUps, gDowns, gKeys, gNexts, gShutKeys, aCodes, aPbegins, aPends, aPlengths, aBegins, aEnds, aLengths, aRanks, aRoadsByRank, aRow, aRanksBefore, aBusy, aOpen, aShut]) H locs := hG
  have hl : lv_has ls 4 [(0, .ref (q 22)), (1, .long x1_1), (3, .int x3_2)] := hl
  unfold f7_digestOfCounts_b1 at hb4
  refine lv_iload_n hx hb dX7_digestOfCounts_2 rfl (lv_at hl 2 rfl) ?_
  refine lv_iconst (v := 5) hx hb dX7_digestOfCounts_3 (by decide) ?_
  refine lv_icmp_gt (tgt := 24) hx hb dX7_digestOfCounts_4 (by decide) (fun cb5 => ?_) (fun cb5 => ?_)
  · have hb4 := ite_t cb5 hb4
    have eo := hout4 _ (Option.some.inj hb4).symm
    cases eo
    exact JX4 H locs ls hG (lv_sub hl [0, 1] rfl)
  · have hb4 := ite_f cb5 hb4
    refine lv_lload_n hx hb dX7_digestOfCounts_7 rfl (lv_at hl 1 rfl) ?_
    refine lv_aload_n hx hb dX7_digestOfCounts_8 rfl (lv_at hl 0 rfl) ?_
    refine lv_iload_n hx hb dX7_digestOfCounts_9 rfl (lv_at hl 2 rfl) ?_
    obtain ⟨r_6, ec7, hb4⟩ := bnd1_some hb4
    refine g_callVr [.int x3_2] [.long x1_1] 22 X hT hG ml_X7_276 (c_X7_all hq ec7) rfl rfl rfl rfl rfl hl.1 (Nat.le_of_ble_eq_true rfl) (by rw [hR]; exact ⟨Nat.le_of_ble_eq_true rfl, Nat.le_of_ble_eq_true rfl⟩) dX7_digestOfCounts_10 (fun H locs hG => ?_)
    refine lv_i2l (v := r_6.toInt64) hx hb dX7_digestOfCounts_13 rfl ?_
    obtain ⟨r_8, ec9, hb4⟩ := bnd1_some hb4
    refine g_callSr [.long x1_1, .long (r_6.toInt64)] [] X hT hG ml_X7_251 (c_X7_mix hq ec9) rfl rfl hl.1 (Nat.le_of_ble_eq_true rfl) (by rw [hR]; exact ⟨Nat.le_of_ble_eq_true rfl, Nat.le_of_ble_eq_true rfl⟩) dX7_digestOfCounts_14 (fun H locs hG => ?_)
    refine lv_lstore_n (lv' := [(1, .long r_8), (0, .ref (q 22)), (3, .int x3_2)]) hx hb dX7_digestOfCounts_17 rfl hl (by decide) rfl (fun ls hl => ?_)
    obtain ⟨x3_10, ex3_10⟩ : ∃ z : Int32, z = x3_2 + 1 := ⟨_, rfl⟩
    have hb4 := bd_e ex3_10 hb4
    refine lv_iinc (v := x3_10) (lv' := [(3, .int x3_10), (1, .long r_8), (0, .ref (q 22))]) hx hb dX7_digestOfCounts_18 hl (k := 2) rfl (by rw [ex3_10]; rfl) (by decide) rfl (fun ls hl => ?_)
    refine lv_goto (tgt := 2) hx hb dX7_digestOfCounts_21 (by decide) ?_
    exact hin4 _ (Option.some.inj hb4).symm H locs ls hG (lv_sub hl [2, 1, 0] rfl)
def f7_digest (fu : Nat) (iSize : Int32) (aBegins : (Nat → Int32)) (aEnds : (Nat → Int32)) (aLengths : (Nat → Int32)) (aRanks : (Nat → Int32)) (iLsize : Int32) (gMiddles : (Nat → Int32)) (aBusy : (Nat → Int32)) (gKeys : (Nat → Int32)) (gUps : (Nat → Int32)) (gDowns : (Nat → Int32)) (gWorths : (Nat → Int32)) (aRow : (Nat → Int32)) (aOpen : (Nat → Int32)) (gCosts : (Nat → Int32)) (gShutKeys : (Nat → Int32)) (aShut : (Nat → Int32)) (iLetters : Int32) (aCodes : (Nat → Int32)) (iReadings : Int32) (iAlterations : Int32) (iRankings : Int32) : Option (Int64 × (Nat → Int32) × (Nat → Int32) × (Nat → Int32)) :=
  bnd1 (f7_digestOfRoads fu iSize aBegins aEnds aLengths aRanks iLsize gMiddles aBusy 1627) fun (r_1 : Int64) => bnd2 (f7_digestOfPairs fu iSize gKeys gUps gDowns gWorths gMiddles aRanks r_1 aRow) fun (r_3 : Int64) (aRow_4 : (Nat → Int32)) => bnd3 (f7_digestOfPlaces fu aOpen r_3 iSize gCosts aLengths aBegins aEnds gShutKeys aShut) fun (r_6 : Int64) (gShutKeys_7 : (Nat → Int32)) (aShut_8 : (Nat → Int32)) => bnd1 (f7_digestOfCounts fu iSize aBusy iLsize gWorths gMiddles aOpen r_6 iLetters aCodes gCosts iReadings iAlterations iRankings) fun (r_10 : Int64) => some (r_10, gShutKeys_7, aRow_4, aShut_8)
set_option maxHeartbeats 4000000 in
set_option maxRecDepth 100000 in
theorem c_X7_digest (hq : gJ layB q) {fu : Nat} {o_r : Int64} {o_gShutKeys : (Nat → Int32)} {o_aRow : (Nat → Int32)} {o_aShut : (Nat → Int32)} (h : f7_digest fu iSize aBegins aEnds aLengths aRanks iLsize gMiddles aBusy gKeys gUps gDowns gWorths aRow aOpen gCosts gShutKeys aShut iLetters aCodes iReadings iAlterations iRankings = some (o_r, o_gShutKeys, o_aRow, o_aShut)) :
    GM l yX7_digest cX7_digest 3 (some .long) 7 163 D cI cZ layB q [.ref (q 22)] ([iReadings, iAlterations, iRankings, iLetters, iCurrent, iDue, iSize, iLsize], [], [gCosts, gWorths, gMiddles, gApart, gApartWithout, gNeeded, gUps, gDowns, gKeys, gNexts, gShutKeys, aCodes, aPbegins, aPends, aPlengths, aBegins, aEnds, aLengths, aRanks, aRoadsByRank, aRow, aRanksBefore, aBusy, aOpen, aShut]) (some (.long o_r)) ([iReadings, iAlterations, iRankings, iLetters, iCurrent, iDue, iSize, iLsize], [], [gCosts, gWorths, gMiddles, gApart, gApartWithout, gNeeded, gUps, gDowns, gKeys, gNexts, o_gShutKeys, aCodes, aPbegins, aPends, aPlengths, aBegins, aEnds, aLengths, aRanks, aRoadsByRank, o_aRow, aRanksBefore, aBusy, aOpen, o_aShut]) := by
  refine GM.go RX7 (by decide) rfl (Nat.le_of_ble_eq_true rfl) ?_
  intro p e s m args below meth c ls R Q H locs X hr hlk hT hG hl hR hQ
  have hx := X.1
  have hb := X.2.1
  have hl : lv_has ls 3 [(0, .ref (q 22))] := hl
  unfold f7_digest at h
  refine lv_ldc2 (v := 1627) hx hb X.2.2.2.1 (X.2.2.2.2 _ cn_X7_233) dX7_digest_0 ?_
  refine lv_lstore_n (lv' := [(1, .long 1627), (0, .ref (q 22))]) hx hb dX7_digest_3 rfl hl (by decide) rfl (fun ls hl => ?_)
  refine lv_aload_n hx hb dX7_digest_4 rfl (lv_at hl 1 rfl) ?_
  refine lv_lload_n hx hb dX7_digest_5 rfl (lv_at hl 0 rfl) ?_
  obtain ⟨r_1, ec2, h⟩ := bnd1_some h
  refine g_callVr [.long 1627] [] 22 X hT hG ml_X7_235 (c_X7_digestOfRoads hq ec2) rfl rfl rfl rfl rfl hl.1 (Nat.le_of_ble_eq_true rfl) (by rw [hR]; exact ⟨Nat.le_of_ble_eq_true rfl, Nat.le_of_ble_eq_true rfl⟩) dX7_digest_6 (fun H locs hG => ?_)
  refine lv_lstore_n (lv' := [(1, .long r_1), (0, .ref (q 22))]) hx hb dX7_digest_9 rfl hl (by decide) rfl (fun ls hl => ?_)
  refine lv_aload_n hx hb dX7_digest_10 rfl (lv_at hl 1 rfl) ?_
  refine lv_lload_n hx hb dX7_digest_11 rfl (lv_at hl 0 rfl) ?_
  obtain ⟨r_3, aRow_4, ec5, h⟩ := bnd2_some h
  refine g_callVr [.long r_1] [] 22 X hT hG ml_X7_239 (c_X7_digestOfPairs hq ec5) rfl rfl rfl rfl rfl hl.1 (Nat.le_of_ble_eq_true rfl) (by rw [hR]; exact ⟨Nat.le_of_ble_eq_true rfl, Nat.le_of_ble_eq_true rfl⟩) dX7_digest_12 (fun H locs hG => ?_)
  have hG : GH D cI cZ layB q s ([iReadings, iAlterations, iRankings, iLetters, iCurrent, iDue, iSize, iLsize], [], [gCosts, gWorths, gMiddles, gApart, gApartWithout, gNeeded, gUps, gDowns, gKeys, gNexts, gShutKeys, aCodes, aPbegins, aPends, aPlengths, aBegins, aEnds, aLengths, aRanks, aRoadsByRank, aRow_4, aRanksBefore, aBusy, aOpen, aShut]) H locs := hG
  refine lv_lstore_n (lv' := [(1, .long r_3), (0, .ref (q 22))]) hx hb dX7_digest_15 rfl hl (by decide) rfl (fun ls hl => ?_)
  refine lv_aload_n hx hb dX7_digest_16 rfl (lv_at hl 1 rfl) ?_
  refine lv_lload_n hx hb dX7_digest_17 rfl (lv_at hl 0 rfl) ?_
  obtain ⟨r_6, gShutKeys_7, aShut_8, ec9, h⟩ := bnd3_some h
  refine g_callVr [.long r_3] [] 22 X hT hG ml_X7_242 (c_X7_digestOfPlaces hq ec9) rfl rfl rfl rfl rfl hl.1 (Nat.le_of_ble_eq_true rfl) (by rw [hR]; exact ⟨Nat.le_of_ble_eq_true rfl, Nat.le_of_ble_eq_true rfl⟩) dX7_digest_18 (fun H locs hG => ?_)
  have hG : GH D cI cZ layB q s ([iReadings, iAlterations, iRankings, iLetters, iCurrent, iDue, iSize, iLsize], [], [gCosts, gWorths, gMiddles, gApart, gApartWithout, gNeeded, gUps, gDowns, gKeys, gNexts, gShutKeys_7, aCodes, aPbegins, aPends, aPlengths, aBegins, aEnds, aLengths, aRanks, aRoadsByRank, aRow_4, aRanksBefore, aBusy, aOpen, aShut_8]) H locs := hG
  refine lv_lstore_n (lv' := [(1, .long r_6), (0, .ref (q 22))]) hx hb dX7_digest_21 rfl hl (by decide) rfl (fun ls hl => ?_)
  refine lv_aload_n hx hb dX7_digest_22 rfl (lv_at hl 1 rfl) ?_
  refine lv_lload_n hx hb dX7_digest_23 rfl (lv_at hl 0 rfl) ?_
  obtain ⟨r_10, ec11, h⟩ := bnd1_some h
  refine g_callVr [.long r_6] [] 22 X hT hG ml_X7_245 (c_X7_digestOfCounts hq ec11) rfl rfl rfl rfl rfl hl.1 (Nat.le_of_ble_eq_true rfl) (by rw [hR]; exact ⟨Nat.le_of_ble_eq_true rfl, Nat.le_of_ble_eq_true rfl⟩) dX7_digest_24 (fun H locs hG => ?_)
  cases h
  rw [hQ]
  exact g_lret X hT hG hr hlk dX7_digest_27
end
