section
variable {l : Launch} {D : va_G} {cI cZ : ClassId} {q : Nat → Nat} {iPageLength iRoads iRead iAltered iRanked iStage iFigures iNewRoads iTold iRouted iRouteSum : Int32} {jH : Int64} {aPage aBeginOf aEndOf aLengthOf aCosts aRankOf aRoadAt aWorths aMiddles aLeasts aBusy aNewBegin aNewEnd aNewLength aIsLeft aAround aWhole aIsNeeded aWereRanks aWaitFrom aWaitTo aToldAt aRisen aUps aTried aRoutes : Nat → Int32}
def f8_within (p1 : Int32) (p2 : Int32) (p3 : Int32) : Option (Int32) :=
  bnd1 (if p1 < p2 then (some 0) else if p3 < p1 then (some 0) else some 1) fun (y_1 : Int32) => ckb y_1 (some y_1)
set_option maxHeartbeats 4000000 in
set_option maxRecDepth 100000 in
theorem c_X8_within (hq : gJ layM q) {p1 : Int32} {p2 : Int32} {p3 : Int32} {o_r : Int32} (h : f8_within p1 p2 p3 = some o_r) :
    GM l yX8_within cX8_within 3 (some .boolean) 0 0 D cI cZ layM q [.int p1, .int p2, .int p3] ([iPageLength, iRoads, iRead, iAltered, iRanked, iStage, iFigures, iNewRoads, iTold, iRouted, iRouteSum], [jH], [aPage, aBeginOf, aEndOf, aLengthOf, aCosts, aRankOf, aRoadAt, aWorths, aMiddles, aLeasts, aBusy, aNewBegin, aNewEnd, aNewLength, aIsLeft, aAround, aWhole, aIsNeeded, aWereRanks, aWaitFrom, aWaitTo, aToldAt, aRisen, aUps, aTried, aRoutes]) (some (.int o_r)) ([iPageLength, iRoads, iRead, iAltered, iRanked, iStage, iFigures, iNewRoads, iTold, iRouted, iRouteSum], [jH], [aPage, aBeginOf, aEndOf, aLengthOf, aCosts, aRankOf, aRoadAt, aWorths, aMiddles, aLeasts, aBusy, aNewBegin, aNewEnd, aNewLength, aIsLeft, aAround, aWhole, aIsNeeded, aWereRanks, aWaitFrom, aWaitTo, aToldAt, aRisen, aUps, aTried, aRoutes]) := by
  refine GM.go RX8 (by decide) rfl (Nat.le_of_ble_eq_true rfl) ?_
  intro p e s m args below meth c ls R Q H locs X hr hlk hT hG hl hR hQ
  have hx := X.1
  have hb := X.2.1
  have hl : lv_has ls 3 [(0, .int p1), (1, .int p2), (2, .int p3)] := hl
  unfold f8_within at h
  refine lv_iload_n hx hb dX8_within_0 rfl (lv_at hl 0 rfl) ?_
  refine lv_iload_n hx hb dX8_within_1 rfl (lv_at hl 1 rfl) ?_
  obtain ⟨y_1, er2, h⟩ := bnd1_some h
  have J2 : ∀ (H : Heap) (locs : List Loc) (ls : Array Slot), GH D cI cZ layM q s ([iPageLength, iRoads, iRead, iAltered, iRanked, iStage, iFigures, iNewRoads, iTold, iRouted, iRouteSum], [jH], [aPage, aBeginOf, aEndOf, aLengthOf, aCosts, aRankOf, aRoadAt, aWorths, aMiddles, aLeasts, aBusy, aNewBegin, aNewEnd, aNewLength, aIsLeft, aAround, aWhole, aIsNeeded, aWereRanks, aWaitFrom, aWaitTo, aToldAt, aRisen, aUps, aTried, aRoutes]) H locs → lv_has ls 3 [] → W p l e R s m args below meth c H locs 0 0 Q (F0 m 15 ls [.int y_1]) := by
    intro H locs ls hG hl
    obtain ⟨hz, h⟩ := ckb_some h
    cases h
    rw [hQ]
    exact g_zret X hT hG hr hlk hz dX8_within_15
  refine lv_icmp_lt (tgt := 14) hx hb dX8_within_2 (by decide) (fun cb3 => ?_) (fun cb3 => ?_)
  · have er2 := ite_t cb3 er2
    refine lv_iconst (v := 0) hx hb dX8_within_14 (by decide) ?_
    cases er2
    exact J2 H locs ls hG (lv_sub hl [] rfl)
  · have er2 := ite_f cb3 er2
    refine lv_iload_n hx hb dX8_within_5 rfl (lv_at hl 0 rfl) ?_
    refine lv_iload_n hx hb dX8_within_6 rfl (lv_at hl 2 rfl) ?_
    refine lv_icmp_gt (tgt := 14) hx hb dX8_within_7 (by decide) (fun cb4 => ?_) (fun cb4 => ?_)
    · have er2 := ite_t cb4 er2
      refine lv_iconst (v := 0) hx hb dX8_within_14 (by decide) ?_
      cases er2
      exact J2 H locs ls hG (lv_sub hl [] rfl)
    · have er2 := ite_f cb4 er2
      refine lv_iconst (v := 1) hx hb dX8_within_10 (by decide) ?_
      refine lv_goto (tgt := 15) hx hb dX8_within_11 (by decide) ?_
      cases er2
      exact J2 H locs ls hG (lv_sub hl [] rfl)
def f8_letter (p1 : Int32) (iPageLength : Int32) (aPage : (Nat → Int32)) : Option (Int32 × Int32 × (Nat → Int32)) :=
  bnd1 (f8_within p1 32 126) fun (r_1 : Int32) => if r_1 = 0 then (some ((-102), iPageLength, aPage)) else if iPageLength = 60 then (some ((-104), iPageLength, aPage)) else ckin iPageLength 60 (bd (upd aPage iPageLength.toNatClampNeg p1) fun aPage_6 => bd ((iPageLength + 1)) fun iPageLength_7 => some (iPageLength_7, iPageLength_7, aPage_6))
set_option maxHeartbeats 4000000 in
set_option maxRecDepth 100000 in
theorem c_X8_letter (hq : gJ layM q) {p1 : Int32} {o_r : Int32} {o_iPageLength : Int32} {o_aPage : (Nat → Int32)} (h : f8_letter p1 iPageLength aPage = some (o_r, o_iPageLength, o_aPage)) :
    GM l yX8_letter cX8_letter 2 (some .int) 1 22 D cI cZ layM q [.ref (q 0), .int p1] ([iPageLength, iRoads, iRead, iAltered, iRanked, iStage, iFigures, iNewRoads, iTold, iRouted, iRouteSum], [jH], [aPage, aBeginOf, aEndOf, aLengthOf, aCosts, aRankOf, aRoadAt, aWorths, aMiddles, aLeasts, aBusy, aNewBegin, aNewEnd, aNewLength, aIsLeft, aAround, aWhole, aIsNeeded, aWereRanks, aWaitFrom, aWaitTo, aToldAt, aRisen, aUps, aTried, aRoutes]) (some (.int o_r)) ([o_iPageLength, iRoads, iRead, iAltered, iRanked, iStage, iFigures, iNewRoads, iTold, iRouted, iRouteSum], [jH], [o_aPage, aBeginOf, aEndOf, aLengthOf, aCosts, aRankOf, aRoadAt, aWorths, aMiddles, aLeasts, aBusy, aNewBegin, aNewEnd, aNewLength, aIsLeft, aAround, aWhole, aIsNeeded, aWereRanks, aWaitFrom, aWaitTo, aToldAt, aRisen, aUps, aTried, aRoutes]) := by
  refine GM.go RX8 (by decide) rfl (Nat.le_of_ble_eq_true rfl) ?_
  intro p e s m args below meth c ls R Q H locs X hr hlk hT hG hl hR hQ
  have hx := X.1
  have hb := X.2.1
  have hl : lv_has ls 2 [(0, .ref (q 0)), (1, .int p1)] := hl
  unfold f8_letter at h
  refine lv_iload_n hx hb dX8_letter_0 rfl (lv_at hl 1 rfl) ?_
  refine lv_bipush (v := 32) hx hb dX8_letter_1 (by decide) ?_
  refine lv_bipush (v := 126) hx hb dX8_letter_3 (by decide) ?_
  obtain ⟨r_1, ec2, h⟩ := bnd1_some h
  refine g_callSr [.int p1, .int 32, .int 126] [] X hT hG ml_X8_89 (c_X8_within hq ec2) rfl rfl hl.1 (Nat.le_of_ble_eq_true rfl) (by rw [hR]; exact ⟨Nat.le_of_ble_eq_true rfl, Nat.le_of_ble_eq_true rfl⟩) dX8_letter_5 (fun H locs hG => ?_)
  refine lv_if_ne (tgt := 14) hx hb dX8_letter_8 (by decide) (fun cb3 => ?_) (fun cb3 => ?_)
  · have h := ite_f cb3 h
    refine lv_aload_n hx hb dX8_letter_14 rfl (lv_at hl 0 rfl) ?_
    refine g_get (v := .int iPageLength) X hT hG fl_X8_93 0 rfl rfl rfl dX8_letter_15 ?_
    refine lv_bipush (v := 60) hx hb dX8_letter_18 (by decide) ?_
    refine lv_icmp_ne (tgt := 26) hx hb dX8_letter_20 (by decide) (fun cb4 => ?_) (fun cb4 => ?_)
    · have h := ite_f cb4 h
      refine lv_aload_n hx hb dX8_letter_26 rfl (lv_at hl 0 rfl) ?_
      refine g_get (v := .ref (q 1)) X hT hG fl_X8_7 0 rfl rfl rfl dX8_letter_27 ?_
      refine lv_aload_n hx hb dX8_letter_30 rfl (lv_at hl 0 rfl) ?_
      refine g_get (v := .int iPageLength) X hT hG fl_X8_93 0 rfl rfl rfl dX8_letter_31 ?_
      refine lv_iload_n hx hb dX8_letter_34 rfl (lv_at hl 1 rfl) ?_
      obtain ⟨hi5, h⟩ := ckin_some h
      obtain ⟨aPage_6, eaPage_6⟩ : ∃ z : Nat → Int32, z = upd aPage iPageLength.toNatClampNeg p1 := ⟨_, rfl⟩
      have h := bd_e eaPage_6 h
      refine g_ast (w' := ([iPageLength, iRoads, iRead, iAltered, iRanked, iStage, iFigures, iNewRoads, iTold, iRouted, iRouteSum], [jH], [aPage_6, aBeginOf, aEndOf, aLengthOf, aCosts, aRankOf, aRoadAt, aWorths, aMiddles, aLeasts, aBusy, aNewBegin, aNewEnd, aNewLength, aIsLeft, aAround, aWhole, aIsNeeded, aWereRanks, aWaitFrom, aWaitTo, aToldAt, aRisen, aUps, aTried, aRoutes])) X hT hq hG 1 rfl ga_M_aPage (Nat.le_of_ble_eq_true rfl) hi5 (by subst eaPage_6; rfl) dX8_letter_35 (fun H locs hG => ?_)
      refine lv_aload_n hx hb dX8_letter_36 rfl (lv_at hl 0 rfl) ?_
      refine lv_dup hx hb dX8_letter_37 rfl ?_
      refine g_get (v := .int iPageLength) X hT hG fl_X8_93 0 rfl rfl rfl dX8_letter_38 ?_
      refine lv_iconst (v := 1) hx hb dX8_letter_41 (by decide) ?_
      refine lv_iadd hx hb dX8_letter_42 ?_
      refine lv_topi (fun iPageLength_7 eiPageLength_7 => ?_)
      have h := bd_e eiPageLength_7 h
      refine g_putI (w' := ([iPageLength_7, iRoads, iRead, iAltered, iRanked, iStage, iFigures, iNewRoads, iTold, iRouted, iRouteSum], [jH], [aPage_6, aBeginOf, aEndOf, aLengthOf, aCosts, aRankOf, aRoadAt, aWorths, aMiddles, aLeasts, aBusy, aNewBegin, aNewEnd, aNewLength, aIsLeft, aAround, aWhole, aIsNeeded, aWereRanks, aWaitFrom, aWaitTo, aToldAt, aRisen, aUps, aTried, aRoutes])) X hT hq hG fp_X8_93 0 rfl rfl gu_M_iPageLength (Nat.le_of_ble_eq_true rfl) rfl dX8_letter_43 (fun H locs hG => ?_)
      refine lv_aload_n hx hb dX8_letter_46 rfl (lv_at hl 0 rfl) ?_
      refine g_get (v := .int iPageLength_7) X hT hG fl_X8_93 0 rfl rfl rfl dX8_letter_47 ?_
      cases h
      rw [hQ]
      exact g_iret X hT hG hr hlk dX8_letter_50
    · have h := ite_t cb4 h
      refine lv_bipush (v := (-104)) hx hb dX8_letter_23 (by decide) ?_
      cases h
      rw [hQ]
      exact g_iret X hT hG hr hlk dX8_letter_25
  · have h := ite_t cb3 h
    refine lv_bipush (v := (-102)) hx hb dX8_letter_11 (by decide) ?_
    cases h
    rw [hQ]
    exact g_iret X hT hG hr hlk dX8_letter_13
def f8_blank (iPageLength : Int32) : Option (Int32 × Int32) :=
  some (iPageLength, 0)
set_option maxHeartbeats 4000000 in
set_option maxRecDepth 100000 in
theorem c_X8_blank (hq : gJ layM q) {o_r : Int32} {o_iPageLength : Int32} (h : f8_blank iPageLength = some (o_r, o_iPageLength)) :
    GM l yX8_blank cX8_blank 2 (some .int) 0 0 D cI cZ layM q [.ref (q 0)] ([iPageLength, iRoads, iRead, iAltered, iRanked, iStage, iFigures, iNewRoads, iTold, iRouted, iRouteSum], [jH], [aPage, aBeginOf, aEndOf, aLengthOf, aCosts, aRankOf, aRoadAt, aWorths, aMiddles, aLeasts, aBusy, aNewBegin, aNewEnd, aNewLength, aIsLeft, aAround, aWhole, aIsNeeded, aWereRanks, aWaitFrom, aWaitTo, aToldAt, aRisen, aUps, aTried, aRoutes]) (some (.int o_r)) ([o_iPageLength, iRoads, iRead, iAltered, iRanked, iStage, iFigures, iNewRoads, iTold, iRouted, iRouteSum], [jH], [aPage, aBeginOf, aEndOf, aLengthOf, aCosts, aRankOf, aRoadAt, aWorths, aMiddles, aLeasts, aBusy, aNewBegin, aNewEnd, aNewLength, aIsLeft, aAround, aWhole, aIsNeeded, aWereRanks, aWaitFrom, aWaitTo, aToldAt, aRisen, aUps, aTried, aRoutes]) := by
  refine GM.go RX8 (by decide) rfl (Nat.le_of_ble_eq_true rfl) ?_
  intro p e s m args below meth c ls R Q H locs X hr hlk hT hG hl hR hQ
  have hx := X.1
  have hb := X.2.1
  have hl : lv_has ls 2 [(0, .ref (q 0))] := hl
  unfold f8_blank at h
  refine lv_aload_n hx hb dX8_blank_0 rfl (lv_at hl 0 rfl) ?_
  refine g_get (v := .int iPageLength) X hT hG fl_X8_93 0 rfl rfl rfl dX8_blank_1 ?_
  refine lv_istore_n (lv' := [(1, .int iPageLength), (0, .ref (q 0))]) hx hb dX8_blank_4 rfl hl (by decide) rfl (fun ls hl => ?_)
  refine lv_aload_n hx hb dX8_blank_5 rfl (lv_at hl 1 rfl) ?_
  refine lv_iconst (v := 0) hx hb dX8_blank_6 (by decide) ?_
  refine g_putI (w' := ([0, iRoads, iRead, iAltered, iRanked, iStage, iFigures, iNewRoads, iTold, iRouted, iRouteSum], [jH], [aPage, aBeginOf, aEndOf, aLengthOf, aCosts, aRankOf, aRoadAt, aWorths, aMiddles, aLeasts, aBusy, aNewBegin, aNewEnd, aNewLength, aIsLeft, aAround, aWhole, aIsNeeded, aWereRanks, aWaitFrom, aWaitTo, aToldAt, aRisen, aUps, aTried, aRoutes])) X hT hq hG fp_X8_93 0 rfl rfl gu_M_iPageLength (Nat.le_of_ble_eq_true rfl) rfl dX8_blank_7 (fun H locs hG => ?_)
  refine lv_iload_n hx hb dX8_blank_10 rfl (lv_at hl 0 rfl) ?_
  cases h
  rw [hQ]
  exact g_iret X hT hG hr hlk dX8_blank_11
def f8_takesPlace_k1 : Option (Int32) :=
  some 1
def f8_takesPlace (p1 : Int32) (iStage : Int32) (iNewRoads : Int32) (aNewBegin : (Nat → Int32)) (iFigures : Int32) (aNewEnd : (Nat → Int32)) : Option (Int32 × Int32 × Int32 × (Nat → Int32) × (Nat → Int32)) :=
  bnd1 (f8_within p1 97 104) fun (r_1 : Int32) => bnd1 (if r_1 = 0 then (some 0) else if iStage = 0 then (f8_takesPlace_k1) else ckin iNewRoads 12 (if (p1 - 97) = (aNewBegin iNewRoads.toNatClampNeg) then (some 0) else f8_takesPlace_k1)) fun (y_3 : Int32) => if y_3 = 0 then (some (0, iStage, iFigures, aNewBegin, aNewEnd)) else bnd2 (if iStage = 0 then (ckin iNewRoads 12 (bd (upd aNewBegin iNewRoads.toNatClampNeg (p1 - 97)) fun aNewBegin_18 => some (aNewBegin_18, aNewEnd))) else ckin iNewRoads 12 (bd (upd aNewEnd iNewRoads.toNatClampNeg (p1 - 97)) fun aNewEnd_16 => some (aNewBegin, aNewEnd_16))) fun (aNewBegin_11 : (Nat → Int32)) (aNewEnd_12 : (Nat → Int32)) => bd ((iStage + 1)) fun iStage_19 => some (1, iStage_19, 0, aNewBegin_11, aNewEnd_12)
set_option maxHeartbeats 4000000 in
set_option maxRecDepth 100000 in
theorem c_X8_takesPlace (hq : gJ layM q) {p1 : Int32} {o_r : Int32} {o_iStage : Int32} {o_iFigures : Int32} {o_aNewBegin : (Nat → Int32)} {o_aNewEnd : (Nat → Int32)} (h : f8_takesPlace p1 iStage iNewRoads aNewBegin iFigures aNewEnd = some (o_r, o_iStage, o_iFigures, o_aNewBegin, o_aNewEnd)) :
    GM l yX8_takesPlace cX8_takesPlace 3 (some .boolean) 1 22 D cI cZ layM q [.ref (q 0), .int p1] ([iPageLength, iRoads, iRead, iAltered, iRanked, iStage, iFigures, iNewRoads, iTold, iRouted, iRouteSum], [jH], [aPage, aBeginOf, aEndOf, aLengthOf, aCosts, aRankOf, aRoadAt, aWorths, aMiddles, aLeasts, aBusy, aNewBegin, aNewEnd, aNewLength, aIsLeft, aAround, aWhole, aIsNeeded, aWereRanks, aWaitFrom, aWaitTo, aToldAt, aRisen, aUps, aTried, aRoutes]) (some (.int o_r)) ([iPageLength, iRoads, iRead, iAltered, iRanked, o_iStage, o_iFigures, iNewRoads, iTold, iRouted, iRouteSum], [jH], [aPage, aBeginOf, aEndOf, aLengthOf, aCosts, aRankOf, aRoadAt, aWorths, aMiddles, aLeasts, aBusy, o_aNewBegin, o_aNewEnd, aNewLength, aIsLeft, aAround, aWhole, aIsNeeded, aWereRanks, aWaitFrom, aWaitTo, aToldAt, aRisen, aUps, aTried, aRoutes]) := by
  refine GM.go RX8 (by decide) rfl (Nat.le_of_ble_eq_true rfl) ?_
  intro p e s m args below meth c ls R Q H locs X hr hlk hT hG hl hR hQ
  have hx := X.1
  have hb := X.2.1
  have hl : lv_has ls 3 [(0, .ref (q 0)), (1, .int p1)] := hl
  unfold f8_takesPlace at h
  refine lv_iload_n hx hb dX8_takesPlace_0 rfl (lv_at hl 1 rfl) ?_
  refine lv_bipush (v := 97) hx hb dX8_takesPlace_1 (by decide) ?_
  refine lv_bipush (v := 104) hx hb dX8_takesPlace_3 (by decide) ?_
  obtain ⟨r_1, ec2, h⟩ := bnd1_some h
  refine g_callSr [.int p1, .int 97, .int 104] [] X hT hG ml_X8_89 (c_X8_within hq ec2) rfl rfl hl.1 (Nat.le_of_ble_eq_true rfl) (by rw [hR]; exact ⟨Nat.le_of_ble_eq_true rfl, Nat.le_of_ble_eq_true rfl⟩) dX8_takesPlace_5 (fun H locs hG => ?_)
  obtain ⟨y_3, er4, h⟩ := bnd1_some h
  have J4 : ∀ (H : Heap) (locs : List Loc) (ls : Array Slot), GH D cI cZ layM q s ([iPageLength, iRoads, iRead, iAltered, iRanked, iStage, iFigures, iNewRoads, iTold, iRouted, iRouteSum], [jH], [aPage, aBeginOf, aEndOf, aLengthOf, aCosts, aRankOf, aRoadAt, aWorths, aMiddles, aLeasts, aBusy, aNewBegin, aNewEnd, aNewLength, aIsLeft, aAround, aWhole, aIsNeeded, aWereRanks, aWaitFrom, aWaitTo, aToldAt, aRisen, aUps, aTried, aRoutes]) H locs → lv_has ls 3 [(0, .ref (q 0)), (1, .int p1)] → W p l e R s m args below meth c H locs 0 0 Q (F0 m 39 ls [.int y_3]) := by
    intro H locs ls hG hl
    refine lv_istore_n (lv' := [(2, .int y_3), (0, .ref (q 0)), (1, .int p1)]) hx hb dX8_takesPlace_39 rfl hl (by decide) rfl (fun ls hl => ?_)
    refine lv_iload_n hx hb dX8_takesPlace_40 rfl (lv_at hl 0 rfl) ?_
    refine lv_if_ne (tgt := 46) hx hb dX8_takesPlace_41 (by decide) (fun cb10 => ?_) (fun cb10 => ?_)
    · have h := ite_f cb10 h
      refine lv_aload_n hx hb dX8_takesPlace_46 rfl (lv_at hl 1 rfl) ?_
      refine g_get (v := .int iStage) X hT hG fl_X8_97 0 rfl rfl rfl dX8_takesPlace_47 ?_
      obtain ⟨aNewBegin_11, aNewEnd_12, er13, h⟩ := bnd2_some h
      have J13 : ∀ (H : Heap) (locs : List Loc) (ls : Array Slot), GH D cI cZ layM q s ([iPageLength, iRoads, iRead, iAltered, iRanked, iStage, iFigures, iNewRoads, iTold, iRouted, iRouteSum], [jH], [aPage, aBeginOf, aEndOf, aLengthOf, aCosts, aRankOf, aRoadAt, aWorths, aMiddles, aLeasts, aBusy, aNewBegin_11, aNewEnd_12, aNewLength, aIsLeft, aAround, aWhole, aIsNeeded, aWereRanks, aWaitFrom, aWaitTo, aToldAt, aRisen, aUps, aTried, aRoutes]) H locs → lv_has ls 3 [(0, .ref (q 0))] → W p l e R s m args below meth c H locs 0 0 Q (F0 m 82 ls []) := by
        intro H locs ls hG hl
        refine lv_aload_n hx hb dX8_takesPlace_82 rfl (lv_at hl 0 rfl) ?_
        refine lv_dup hx hb dX8_takesPlace_83 rfl ?_
        refine g_get (v := .int iStage) X hT hG fl_X8_97 0 rfl rfl rfl dX8_takesPlace_84 ?_
        refine lv_iconst (v := 1) hx hb dX8_takesPlace_87 (by decide) ?_
        refine lv_iadd hx hb dX8_takesPlace_88 ?_
        refine lv_topi (fun iStage_19 eiStage_19 => ?_)
        have h := bd_e eiStage_19 h
        refine g_putI (w' := ([iPageLength, iRoads, iRead, iAltered, iRanked, iStage_19, iFigures, iNewRoads, iTold, iRouted, iRouteSum], [jH], [aPage, aBeginOf, aEndOf, aLengthOf, aCosts, aRankOf, aRoadAt, aWorths, aMiddles, aLeasts, aBusy, aNewBegin_11, aNewEnd_12, aNewLength, aIsLeft, aAround, aWhole, aIsNeeded, aWereRanks, aWaitFrom, aWaitTo, aToldAt, aRisen, aUps, aTried, aRoutes])) X hT hq hG fp_X8_97 0 rfl rfl gu_M_iStage (Nat.le_of_ble_eq_true rfl) rfl dX8_takesPlace_89 (fun H locs hG => ?_)
        refine lv_aload_n hx hb dX8_takesPlace_92 rfl (lv_at hl 0 rfl) ?_
        refine lv_iconst (v := 0) hx hb dX8_takesPlace_93 (by decide) ?_
        refine g_putI (w' := ([iPageLength, iRoads, iRead, iAltered, iRanked, iStage_19, 0, iNewRoads, iTold, iRouted, iRouteSum], [jH], [aPage, aBeginOf, aEndOf, aLengthOf, aCosts, aRankOf, aRoadAt, aWorths, aMiddles, aLeasts, aBusy, aNewBegin_11, aNewEnd_12, aNewLength, aIsLeft, aAround, aWhole, aIsNeeded, aWereRanks, aWaitFrom, aWaitTo, aToldAt, aRisen, aUps, aTried, aRoutes])) X hT hq hG fp_X8_103 0 rfl rfl gu_M_iFigures (Nat.le_of_ble_eq_true rfl) rfl dX8_takesPlace_94 (fun H locs hG => ?_)
        refine lv_iconst (v := 1) hx hb dX8_takesPlace_97 (by decide) ?_
        cases h
        rw [hQ]
        exact g_zret X hT hG hr hlk (Or.inr rfl) dX8_takesPlace_98
      refine lv_if_ne (tgt := 69) hx hb dX8_takesPlace_50 (by decide) (fun cb14 => ?_) (fun cb14 => ?_)
      · have er13 := ite_f cb14 er13
        refine lv_aload_n hx hb dX8_takesPlace_69 rfl (lv_at hl 1 rfl) ?_
        refine g_get (v := .ref (q 13)) X hT hG fl_X8_46 0 rfl rfl rfl dX8_takesPlace_70 ?_
        refine lv_aload_n hx hb dX8_takesPlace_73 rfl (lv_at hl 1 rfl) ?_
        refine g_get (v := .int iNewRoads) X hT hG fl_X8_100 0 rfl rfl rfl dX8_takesPlace_74 ?_
        refine lv_iload_n hx hb dX8_takesPlace_77 rfl (lv_at hl 2 rfl) ?_
        refine lv_bipush (v := 97) hx hb dX8_takesPlace_78 (by decide) ?_
        refine lv_isub hx hb dX8_takesPlace_80 ?_
        obtain ⟨hi15, er13⟩ := ckin_some er13
        obtain ⟨aNewEnd_16, eaNewEnd_16⟩ : ∃ z : Nat → Int32, z = upd aNewEnd iNewRoads.toNatClampNeg (p1 - 97) := ⟨_, rfl⟩
        have er13 := bd_e eaNewEnd_16 er13
        refine g_ast (w' := ([iPageLength, iRoads, iRead, iAltered, iRanked, iStage, iFigures, iNewRoads, iTold, iRouted, iRouteSum], [jH], [aPage, aBeginOf, aEndOf, aLengthOf, aCosts, aRankOf, aRoadAt, aWorths, aMiddles, aLeasts, aBusy, aNewBegin, aNewEnd_16, aNewLength, aIsLeft, aAround, aWhole, aIsNeeded, aWereRanks, aWaitFrom, aWaitTo, aToldAt, aRisen, aUps, aTried, aRoutes])) X hT hq hG 13 rfl ga_M_aNewEnd (Nat.le_of_ble_eq_true rfl) hi15 (by subst eaNewEnd_16; rfl) dX8_takesPlace_81 (fun H locs hG => ?_)
        cases er13
        exact J13 H locs ls hG (lv_sub hl [1] rfl)
      · have er13 := ite_t cb14 er13
        refine lv_aload_n hx hb dX8_takesPlace_53 rfl (lv_at hl 1 rfl) ?_
        refine g_get (v := .ref (q 12)) X hT hG fl_X8_43 0 rfl rfl rfl dX8_takesPlace_54 ?_
        refine lv_aload_n hx hb dX8_takesPlace_57 rfl (lv_at hl 1 rfl) ?_
        refine g_get (v := .int iNewRoads) X hT hG fl_X8_100 0 rfl rfl rfl dX8_takesPlace_58 ?_
        refine lv_iload_n hx hb dX8_takesPlace_61 rfl (lv_at hl 2 rfl) ?_
        refine lv_bipush (v := 97) hx hb dX8_takesPlace_62 (by decide) ?_
        refine lv_isub hx hb dX8_takesPlace_64 ?_
        obtain ⟨hi17, er13⟩ := ckin_some er13
        obtain ⟨aNewBegin_18, eaNewBegin_18⟩ : ∃ z : Nat → Int32, z = upd aNewBegin iNewRoads.toNatClampNeg (p1 - 97) := ⟨_, rfl⟩
        have er13 := bd_e eaNewBegin_18 er13
        refine g_ast (w' := ([iPageLength, iRoads, iRead, iAltered, iRanked, iStage, iFigures, iNewRoads, iTold, iRouted, iRouteSum], [jH], [aPage, aBeginOf, aEndOf, aLengthOf, aCosts, aRankOf, aRoadAt, aWorths, aMiddles, aLeasts, aBusy, aNewBegin_18, aNewEnd, aNewLength, aIsLeft, aAround, aWhole, aIsNeeded, aWereRanks, aWaitFrom, aWaitTo, aToldAt, aRisen, aUps, aTried, aRoutes])) X hT hq hG 12 rfl ga_M_aNewBegin (Nat.le_of_ble_eq_true rfl) hi17 (by subst eaNewBegin_18; rfl) dX8_takesPlace_65 (fun H locs hG => ?_)
        refine lv_goto (tgt := 82) hx hb dX8_takesPlace_66 (by decide) ?_
        cases er13
        exact J13 H locs ls hG (lv_sub hl [1] rfl)
    · have h := ite_t cb10 h
      refine lv_iconst (v := 0) hx hb dX8_takesPlace_44 (by decide) ?_
      cases h
      rw [hQ]
      exact g_zret X hT hG hr hlk (Or.inl rfl) dX8_takesPlace_45
  refine lv_if_eq (tgt := 38) hx hb dX8_takesPlace_8 (by decide) (fun cb5 => ?_) (fun cb5 => ?_)
  · have er4 := ite_t cb5 er4
    refine lv_iconst (v := 0) hx hb dX8_takesPlace_38 (by decide) ?_
    cases er4
    exact J4 H locs ls hG (lv_sub hl [0, 1] rfl)
  · have er4 := ite_f cb5 er4
    refine lv_aload_n hx hb dX8_takesPlace_11 rfl (lv_at hl 0 rfl) ?_
    refine g_get (v := .int iStage) X hT hG fl_X8_97 0 rfl rfl rfl dX8_takesPlace_12 ?_
    have K6 : ∀ (H : Heap) (locs : List Loc) (ls : Array Slot), GH D cI cZ layM q s ([iPageLength, iRoads, iRead, iAltered, iRanked, iStage, iFigures, iNewRoads, iTold, iRouted, iRouteSum], [jH], [aPage, aBeginOf, aEndOf, aLengthOf, aCosts, aRankOf, aRoadAt, aWorths, aMiddles, aLeasts, aBusy, aNewBegin, aNewEnd, aNewLength, aIsLeft, aAround, aWhole, aIsNeeded, aWereRanks, aWaitFrom, aWaitTo, aToldAt, aRisen, aUps, aTried, aRoutes]) H locs → lv_has ls 3 [(0, .ref (q 0)), (1, .int p1)] → f8_takesPlace_k1 = some y_3 → W p l e R s m args below meth c H locs 0 0 Q (F0 m 34 ls []) := by
      intro H locs ls hG hl hk6
      unfold f8_takesPlace_k1 at hk6
      refine lv_iconst (v := 1) hx hb dX8_takesPlace_34 (by decide) ?_
      refine lv_goto (tgt := 39) hx hb dX8_takesPlace_35 (by decide) ?_
      cases hk6
      exact J4 H locs ls hG (lv_sub hl [0, 1] rfl)
    refine lv_if_eq (tgt := 34) hx hb dX8_takesPlace_15 (by decide) (fun cb7 => ?_) (fun cb7 => ?_)
    · have er4 := ite_t cb7 er4
      exact K6 H locs ls hG (lv_sub hl [0, 1] rfl) er4
    · have er4 := ite_f cb7 er4
      refine lv_iload_n hx hb dX8_takesPlace_18 rfl (lv_at hl 1 rfl) ?_
      refine lv_bipush (v := 97) hx hb dX8_takesPlace_19 (by decide) ?_
      refine lv_isub hx hb dX8_takesPlace_21 ?_
      refine lv_aload_n hx hb dX8_takesPlace_22 rfl (lv_at hl 0 rfl) ?_
      refine g_get (v := .ref (q 12)) X hT hG fl_X8_43 0 rfl rfl rfl dX8_takesPlace_23 ?_
      refine lv_aload_n hx hb dX8_takesPlace_26 rfl (lv_at hl 0 rfl) ?_
      refine g_get (v := .int iNewRoads) X hT hG fl_X8_100 0 rfl rfl rfl dX8_takesPlace_27 ?_
      obtain ⟨hi8, er4⟩ := ckin_some er4
      refine g_ald (f := aNewBegin) X hT hG 12 rfl rfl hi8 dX8_takesPlace_30 ?_
      refine lv_icmp_eq (tgt := 38) hx hb dX8_takesPlace_31 (by decide) (fun cb9 => ?_) (fun cb9 => ?_)
      · have er4 := ite_t cb9 er4
        refine lv_iconst (v := 0) hx hb dX8_takesPlace_38 (by decide) ?_
        cases er4
        exact J4 H locs ls hG (lv_sub hl [0, 1] rfl)
      · have er4 := ite_f cb9 er4
        exact K6 H locs ls hG (lv_sub hl [0, 1] rfl) er4
def f8_takesFigure (iFigures : Int32) (p1 : Int32) (iNewRoads : Int32) (aNewLength : (Nat → Int32)) : Option (Int32 × Int32 × (Nat → Int32)) :=
  bd ((((10 * iFigures) + p1) - 48)) fun x2_1 => bnd1 (f8_within x2_1 1 99) fun (r_2 : Int32) => bnd1 (if r_2 = 0 then (some iFigures) else some x2_1) fun (y_4 : Int32) => ckin iNewRoads 12 (bd (upd aNewLength iNewRoads.toNatClampNeg y_4) fun aNewLength_8 => ckb r_2 (some (r_2, y_4, aNewLength_8)))
set_option maxHeartbeats 4000000 in
set_option maxRecDepth 100000 in
theorem c_X8_takesFigure (hq : gJ layM q) {p1 : Int32} {o_r : Int32} {o_iFigures : Int32} {o_aNewLength : (Nat → Int32)} (h : f8_takesFigure iFigures p1 iNewRoads aNewLength = some (o_r, o_iFigures, o_aNewLength)) :
    GM l yX8_takesFigure cX8_takesFigure 4 (some .boolean) 1 22 D cI cZ layM q [.ref (q 0), .int p1] ([iPageLength, iRoads, iRead, iAltered, iRanked, iStage, iFigures, iNewRoads, iTold, iRouted, iRouteSum], [jH], [aPage, aBeginOf, aEndOf, aLengthOf, aCosts, aRankOf, aRoadAt, aWorths, aMiddles, aLeasts, aBusy, aNewBegin, aNewEnd, aNewLength, aIsLeft, aAround, aWhole, aIsNeeded, aWereRanks, aWaitFrom, aWaitTo, aToldAt, aRisen, aUps, aTried, aRoutes]) (some (.int o_r)) ([iPageLength, iRoads, iRead, iAltered, iRanked, iStage, o_iFigures, iNewRoads, iTold, iRouted, iRouteSum], [jH], [aPage, aBeginOf, aEndOf, aLengthOf, aCosts, aRankOf, aRoadAt, aWorths, aMiddles, aLeasts, aBusy, aNewBegin, aNewEnd, o_aNewLength, aIsLeft, aAround, aWhole, aIsNeeded, aWereRanks, aWaitFrom, aWaitTo, aToldAt, aRisen, aUps, aTried, aRoutes]) := by
  refine GM.go RX8 (by decide) rfl (Nat.le_of_ble_eq_true rfl) ?_
  intro p e s m args below meth c ls R Q H locs X hr hlk hT hG hl hR hQ
  have hx := X.1
  have hb := X.2.1
  have hl : lv_has ls 4 [(0, .ref (q 0)), (1, .int p1)] := hl
  unfold f8_takesFigure at h
  refine lv_bipush (v := 10) hx hb dX8_takesFigure_0 (by decide) ?_
  refine lv_aload_n hx hb dX8_takesFigure_2 rfl (lv_at hl 0 rfl) ?_
  refine g_get (v := .int iFigures) X hT hG fl_X8_103 0 rfl rfl rfl dX8_takesFigure_3 ?_
  refine lv_imul hx hb dX8_takesFigure_6 ?_
  refine lv_iload_n hx hb dX8_takesFigure_7 rfl (lv_at hl 1 rfl) ?_
  refine lv_iadd hx hb dX8_takesFigure_8 ?_
  refine lv_bipush (v := 48) hx hb dX8_takesFigure_9 (by decide) ?_
  refine lv_isub hx hb dX8_takesFigure_11 ?_
  refine lv_topi (fun x2_1 ex2_1 => ?_)
  have h := bd_e ex2_1 h
  refine lv_istore_n (lv' := [(2, .int x2_1), (0, .ref (q 0)), (1, .int p1)]) hx hb dX8_takesFigure_12 rfl hl (by decide) rfl (fun ls hl => ?_)
  refine lv_iload_n hx hb dX8_takesFigure_13 rfl (lv_at hl 0 rfl) ?_
  refine lv_iconst (v := 1) hx hb dX8_takesFigure_14 (by decide) ?_
  refine lv_bipush (v := 99) hx hb dX8_takesFigure_15 (by decide) ?_
  obtain ⟨r_2, ec3, h⟩ := bnd1_some h
  refine g_callSr [.int x2_1, .int 1, .int 99] [] X hT hG ml_X8_89 (c_X8_within hq ec3) rfl rfl hl.1 (Nat.le_of_ble_eq_true rfl) (by rw [hR]; exact ⟨Nat.le_of_ble_eq_true rfl, Nat.le_of_ble_eq_true rfl⟩) dX8_takesFigure_17 (fun H locs hG => ?_)
  refine lv_istore_n (lv' := [(3, .int r_2), (2, .int x2_1), (0, .ref (q 0)), (1, .int p1)]) hx hb dX8_takesFigure_20 rfl hl (by decide) rfl (fun ls hl => ?_)
  refine lv_aload_n hx hb dX8_takesFigure_21 rfl (lv_at hl 2 rfl) ?_
  refine lv_iload_n hx hb dX8_takesFigure_22 rfl (lv_at hl 0 rfl) ?_
  obtain ⟨y_4, er5, h⟩ := bnd1_some h
  have J5 : ∀ (H : Heap) (locs : List Loc) (ls : Array Slot), GH D cI cZ layM q s ([iPageLength, iRoads, iRead, iAltered, iRanked, iStage, iFigures, iNewRoads, iTold, iRouted, iRouteSum], [jH], [aPage, aBeginOf, aEndOf, aLengthOf, aCosts, aRankOf, aRoadAt, aWorths, aMiddles, aLeasts, aBusy, aNewBegin, aNewEnd, aNewLength, aIsLeft, aAround, aWhole, aIsNeeded, aWereRanks, aWaitFrom, aWaitTo, aToldAt, aRisen, aUps, aTried, aRoutes]) H locs → lv_has ls 4 [(0, .ref (q 0)), (3, .int r_2)] → W p l e R s m args below meth c H locs 0 0 Q (F0 m 34 ls [.int y_4, .ref (q 0)]) := by
    intro H locs ls hG hl
    refine g_putI (w' := ([iPageLength, iRoads, iRead, iAltered, iRanked, iStage, y_4, iNewRoads, iTold, iRouted, iRouteSum], [jH], [aPage, aBeginOf, aEndOf, aLengthOf, aCosts, aRankOf, aRoadAt, aWorths, aMiddles, aLeasts, aBusy, aNewBegin, aNewEnd, aNewLength, aIsLeft, aAround, aWhole, aIsNeeded, aWereRanks, aWaitFrom, aWaitTo, aToldAt, aRisen, aUps, aTried, aRoutes])) X hT hq hG fp_X8_103 0 rfl rfl gu_M_iFigures (Nat.le_of_ble_eq_true rfl) rfl dX8_takesFigure_34 (fun H locs hG => ?_)
    refine lv_aload_n hx hb dX8_takesFigure_37 rfl (lv_at hl 0 rfl) ?_
    refine g_get (v := .ref (q 14)) X hT hG fl_X8_49 0 rfl rfl rfl dX8_takesFigure_38 ?_
    refine lv_aload_n hx hb dX8_takesFigure_41 rfl (lv_at hl 0 rfl) ?_
    refine g_get (v := .int iNewRoads) X hT hG fl_X8_100 0 rfl rfl rfl dX8_takesFigure_42 ?_
    refine lv_aload_n hx hb dX8_takesFigure_45 rfl (lv_at hl 0 rfl) ?_
    refine g_get (v := .int y_4) X hT hG fl_X8_103 0 rfl rfl rfl dX8_takesFigure_46 ?_
    obtain ⟨hi7, h⟩ := ckin_some h
    obtain ⟨aNewLength_8, eaNewLength_8⟩ : ∃ z : Nat → Int32, z = upd aNewLength iNewRoads.toNatClampNeg y_4 := ⟨_, rfl⟩
    have h := bd_e eaNewLength_8 h
    refine g_ast (w' := ([iPageLength, iRoads, iRead, iAltered, iRanked, iStage, y_4, iNewRoads, iTold, iRouted, iRouteSum], [jH], [aPage, aBeginOf, aEndOf, aLengthOf, aCosts, aRankOf, aRoadAt, aWorths, aMiddles, aLeasts, aBusy, aNewBegin, aNewEnd, aNewLength_8, aIsLeft, aAround, aWhole, aIsNeeded, aWereRanks, aWaitFrom, aWaitTo, aToldAt, aRisen, aUps, aTried, aRoutes])) X hT hq hG 14 rfl ga_M_aNewLength (Nat.le_of_ble_eq_true rfl) hi7 (by subst eaNewLength_8; rfl) dX8_takesFigure_49 (fun H locs hG => ?_)
    refine lv_iload_n hx hb dX8_takesFigure_50 rfl (lv_at hl 1 rfl) ?_
    obtain ⟨hz, h⟩ := ckb_some h
    cases h
    rw [hQ]
    exact g_zret X hT hG hr hlk hz dX8_takesFigure_51
  refine lv_if_eq (tgt := 30) hx hb dX8_takesFigure_23 (by decide) (fun cb6 => ?_) (fun cb6 => ?_)
  · have er5 := ite_t cb6 er5
    refine lv_aload_n hx hb dX8_takesFigure_30 rfl (lv_at hl 2 rfl) ?_
    refine g_get (v := .int iFigures) X hT hG fl_X8_103 0 rfl rfl rfl dX8_takesFigure_31 ?_
    cases er5
    exact J5 H locs ls hG (lv_sub hl [2, 0] rfl)
  · have er5 := ite_f cb6 er5
    refine lv_iload_n hx hb dX8_takesFigure_26 rfl (lv_at hl 1 rfl) ?_
    refine lv_goto (tgt := 34) hx hb dX8_takesFigure_27 (by decide) ?_
    cases er5
    exact J5 H locs ls hG (lv_sub hl [2, 0] rfl)
def f8_takes (iStage : Int32) (p1 : Int32) (iFigures : Int32) (iNewRoads : Int32) (aNewBegin : (Nat → Int32)) (aNewEnd : (Nat → Int32)) (aNewLength : (Nat → Int32)) : Option (Int32 × Int32 × Int32 × Int32 × (Nat → Int32) × (Nat → Int32) × (Nat → Int32)) :=
  if 2 ≤ iStage then (bnd1 (f8_within p1 48 57) fun (r_2 : Int32) => if r_2 = 0 then (bnd1 (if p1 = 44 then (if iFigures ≤ 0 then (some 0) else if 11 ≤ iNewRoads then (some 0) else some 1) else some 0) fun (y_5 : Int32) => bnd1 (if y_5 = 0 then (some 0) else some 1) fun (y_10 : Int32) => bd ((iNewRoads + y_10)) fun iNewRoads_13 => bnd1 (if y_5 = 0 then (some iStage) else some 0) fun (y_14 : Int32) => ckb y_5 (some (y_5, y_14, iFigures, iNewRoads_13, aNewBegin, aNewEnd, aNewLength))) else bnd3 (f8_takesFigure iFigures p1 iNewRoads aNewLength) fun (r_17 : Int32) (iFigures_18 : Int32) (aNewLength_19 : (Nat → Int32)) => ckb r_17 (some (r_17, iStage, iFigures_18, iNewRoads, aNewBegin, aNewEnd, aNewLength_19))) else bnd5 (f8_takesPlace p1 iStage iNewRoads aNewBegin iFigures aNewEnd) fun (r_21 : Int32) (iStage_22 : Int32) (iFigures_23 : Int32) (aNewBegin_24 : (Nat → Int32)) (aNewEnd_25 : (Nat → Int32)) => ckb r_21 (some (r_21, iStage_22, iFigures_23, iNewRoads, aNewBegin_24, aNewEnd_25, aNewLength))
set_option maxHeartbeats 4000000 in
set_option maxRecDepth 100000 in
theorem c_X8_takes (hq : gJ layM q) {p1 : Int32} {o_r : Int32} {o_iStage : Int32} {o_iFigures : Int32} {o_iNewRoads : Int32} {o_aNewBegin : (Nat → Int32)} {o_aNewEnd : (Nat → Int32)} {o_aNewLength : (Nat → Int32)} (h : f8_takes iStage p1 iFigures iNewRoads aNewBegin aNewEnd aNewLength = some (o_r, o_iStage, o_iFigures, o_iNewRoads, o_aNewBegin, o_aNewEnd, o_aNewLength)) :
    GM l yX8_takes cX8_takes 3 (some .boolean) 2 45 D cI cZ layM q [.ref (q 0), .int p1] ([iPageLength, iRoads, iRead, iAltered, iRanked, iStage, iFigures, iNewRoads, iTold, iRouted, iRouteSum], [jH], [aPage, aBeginOf, aEndOf, aLengthOf, aCosts, aRankOf, aRoadAt, aWorths, aMiddles, aLeasts, aBusy, aNewBegin, aNewEnd, aNewLength, aIsLeft, aAround, aWhole, aIsNeeded, aWereRanks, aWaitFrom, aWaitTo, aToldAt, aRisen, aUps, aTried, aRoutes]) (some (.int o_r)) ([iPageLength, iRoads, iRead, iAltered, iRanked, o_iStage, o_iFigures, o_iNewRoads, iTold, iRouted, iRouteSum], [jH], [aPage, aBeginOf, aEndOf, aLengthOf, aCosts, aRankOf, aRoadAt, aWorths, aMiddles, aLeasts, aBusy, o_aNewBegin, o_aNewEnd, o_aNewLength, aIsLeft, aAround, aWhole, aIsNeeded, aWereRanks, aWaitFrom, aWaitTo, aToldAt, aRisen, aUps, aTried, aRoutes]) := by
  refine GM.go RX8 (by decide) rfl (Nat.le_of_ble_eq_true rfl) ?_
  intro p e s m args below meth c ls R Q H locs X hr hlk hT hG hl hR hQ
  have hx := X.1
  have hb := X.2.1
  have hl : lv_has ls 3 [(0, .ref (q 0)), (1, .int p1)] := hl
  unfold f8_takes at h
  refine lv_aload_n hx hb dX8_takes_0 rfl (lv_at hl 0 rfl) ?_
  refine g_get (v := .int iStage) X hT hG fl_X8_97 0 rfl rfl rfl dX8_takes_1 ?_
  refine lv_iconst (v := 2) hx hb dX8_takes_4 (by decide) ?_
  refine lv_icmp_ge (tgt := 14) hx hb dX8_takes_5 (by decide) (fun cb1 => ?_) (fun cb1 => ?_)
  · have h := ite_t cb1 h
    refine lv_iload_n hx hb dX8_takes_14 rfl (lv_at hl 1 rfl) ?_
    refine lv_bipush (v := 48) hx hb dX8_takes_15 (by decide) ?_
    refine lv_bipush (v := 57) hx hb dX8_takes_17 (by decide) ?_
    obtain ⟨r_2, ec3, h⟩ := bnd1_some h
    refine g_callSr [.int p1, .int 48, .int 57] [] X hT hG ml_X8_89 (c_X8_within hq ec3) rfl rfl hl.1 (Nat.le_of_ble_eq_true rfl) (by rw [hR]; exact ⟨Nat.le_of_ble_eq_true rfl, Nat.le_of_ble_eq_true rfl⟩) dX8_takes_19 (fun H locs hG => ?_)
    refine lv_if_eq (tgt := 31) hx hb dX8_takes_22 (by decide) (fun cb4 => ?_) (fun cb4 => ?_)
    · have h := ite_t cb4 h
      refine lv_iload_n hx hb dX8_takes_31 rfl (lv_at hl 1 rfl) ?_
      refine lv_bipush (v := 44) hx hb dX8_takes_32 (by decide) ?_
      obtain ⟨y_5, er6, h⟩ := bnd1_some h
      have J6 : ∀ (H : Heap) (locs : List Loc) (ls : Array Slot), GH D cI cZ layM q s ([iPageLength, iRoads, iRead, iAltered, iRanked, iStage, iFigures, iNewRoads, iTold, iRouted, iRouteSum], [jH], [aPage, aBeginOf, aEndOf, aLengthOf, aCosts, aRankOf, aRoadAt, aWorths, aMiddles, aLeasts, aBusy, aNewBegin, aNewEnd, aNewLength, aIsLeft, aAround, aWhole, aIsNeeded, aWereRanks, aWaitFrom, aWaitTo, aToldAt, aRisen, aUps, aTried, aRoutes]) H locs → lv_has ls 3 [(0, .ref (q 0))] → W p l e R s m args below meth c H locs 0 0 Q (F0 m 58 ls [.int y_5]) := by
        intro H locs ls hG hl
        refine lv_istore_n (lv' := [(2, .int y_5), (0, .ref (q 0))]) hx hb dX8_takes_58 rfl hl (by decide) rfl (fun ls hl => ?_)
        refine lv_aload_n hx hb dX8_takes_59 rfl (lv_at hl 1 rfl) ?_
        refine lv_dup hx hb dX8_takes_60 rfl ?_
        refine g_get (v := .int iNewRoads) X hT hG fl_X8_100 0 rfl rfl rfl dX8_takes_61 ?_
        refine lv_iload_n hx hb dX8_takes_64 rfl (lv_at hl 0 rfl) ?_
        obtain ⟨y_10, er11, h⟩ := bnd1_some h
        have J11 : ∀ (H : Heap) (locs : List Loc) (ls : Array Slot), GH D cI cZ layM q s ([iPageLength, iRoads, iRead, iAltered, iRanked, iStage, iFigures, iNewRoads, iTold, iRouted, iRouteSum], [jH], [aPage, aBeginOf, aEndOf, aLengthOf, aCosts, aRankOf, aRoadAt, aWorths, aMiddles, aLeasts, aBusy, aNewBegin, aNewEnd, aNewLength, aIsLeft, aAround, aWhole, aIsNeeded, aWereRanks, aWaitFrom, aWaitTo, aToldAt, aRisen, aUps, aTried, aRoutes]) H locs → lv_has ls 3 [(0, .ref (q 0)), (2, .int y_5)] → W p l e R s m args below meth c H locs 0 0 Q (F0 m 73 ls [.int y_10, .int iNewRoads, .ref (q 0)]) := by
          intro H locs ls hG hl
          refine lv_iadd hx hb dX8_takes_73 ?_
          refine lv_topi (fun iNewRoads_13 eiNewRoads_13 => ?_)
          have h := bd_e eiNewRoads_13 h
          refine g_putI (w' := ([iPageLength, iRoads, iRead, iAltered, iRanked, iStage, iFigures, iNewRoads_13, iTold, iRouted, iRouteSum], [jH], [aPage, aBeginOf, aEndOf, aLengthOf, aCosts, aRankOf, aRoadAt, aWorths, aMiddles, aLeasts, aBusy, aNewBegin, aNewEnd, aNewLength, aIsLeft, aAround, aWhole, aIsNeeded, aWereRanks, aWaitFrom, aWaitTo, aToldAt, aRisen, aUps, aTried, aRoutes])) X hT hq hG fp_X8_100 0 rfl rfl gu_M_iNewRoads (Nat.le_of_ble_eq_true rfl) rfl dX8_takes_74 (fun H locs hG => ?_)
          refine lv_aload_n hx hb dX8_takes_77 rfl (lv_at hl 0 rfl) ?_
          refine lv_iload_n hx hb dX8_takes_78 rfl (lv_at hl 1 rfl) ?_
          obtain ⟨y_14, er15, h⟩ := bnd1_some h
          have J15 : ∀ (H : Heap) (locs : List Loc) (ls : Array Slot), GH D cI cZ layM q s ([iPageLength, iRoads, iRead, iAltered, iRanked, iStage, iFigures, iNewRoads_13, iTold, iRouted, iRouteSum], [jH], [aPage, aBeginOf, aEndOf, aLengthOf, aCosts, aRankOf, aRoadAt, aWorths, aMiddles, aLeasts, aBusy, aNewBegin, aNewEnd, aNewLength, aIsLeft, aAround, aWhole, aIsNeeded, aWereRanks, aWaitFrom, aWaitTo, aToldAt, aRisen, aUps, aTried, aRoutes]) H locs → lv_has ls 3 [(2, .int y_5)] → W p l e R s m args below meth c H locs 0 0 Q (F0 m 90 ls [.int y_14, .ref (q 0)]) := by
            intro H locs ls hG hl
            refine g_putI (w' := ([iPageLength, iRoads, iRead, iAltered, iRanked, y_14, iFigures, iNewRoads_13, iTold, iRouted, iRouteSum], [jH], [aPage, aBeginOf, aEndOf, aLengthOf, aCosts, aRankOf, aRoadAt, aWorths, aMiddles, aLeasts, aBusy, aNewBegin, aNewEnd, aNewLength, aIsLeft, aAround, aWhole, aIsNeeded, aWereRanks, aWaitFrom, aWaitTo, aToldAt, aRisen, aUps, aTried, aRoutes])) X hT hq hG fp_X8_97 0 rfl rfl gu_M_iStage (Nat.le_of_ble_eq_true rfl) rfl dX8_takes_90 (fun H locs hG => ?_)
            refine lv_iload_n hx hb dX8_takes_93 rfl (lv_at hl 0 rfl) ?_
            obtain ⟨hz, h⟩ := ckb_some h
            cases h
            rw [hQ]
            exact g_zret X hT hG hr hlk hz dX8_takes_94
          refine lv_if_eq (tgt := 86) hx hb dX8_takes_79 (by decide) (fun cb16 => ?_) (fun cb16 => ?_)
          · have er15 := ite_t cb16 er15
            refine lv_aload_n hx hb dX8_takes_86 rfl (lv_at hl 0 rfl) ?_
            refine g_get (v := .int iStage) X hT hG fl_X8_97 0 rfl rfl rfl dX8_takes_87 ?_
            cases er15
            exact J15 H locs ls hG (lv_sub hl [1] rfl)
          · have er15 := ite_f cb16 er15
            refine lv_iconst (v := 0) hx hb dX8_takes_82 (by decide) ?_
            refine lv_goto (tgt := 90) hx hb dX8_takes_83 (by decide) ?_
            cases er15
            exact J15 H locs ls hG (lv_sub hl [1] rfl)
        refine lv_if_eq (tgt := 72) hx hb dX8_takes_65 (by decide) (fun cb12 => ?_) (fun cb12 => ?_)
        · have er11 := ite_t cb12 er11
          refine lv_iconst (v := 0) hx hb dX8_takes_72 (by decide) ?_
          cases er11
          exact J11 H locs ls hG (lv_sub hl [1, 0] rfl)
        · have er11 := ite_f cb12 er11
          refine lv_iconst (v := 1) hx hb dX8_takes_68 (by decide) ?_
          refine lv_goto (tgt := 73) hx hb dX8_takes_69 (by decide) ?_
          cases er11
          exact J11 H locs ls hG (lv_sub hl [1, 0] rfl)
      refine lv_icmp_ne (tgt := 57) hx hb dX8_takes_34 (by decide) (fun cb7 => ?_) (fun cb7 => ?_)
      · have er6 := ite_f cb7 er6
        refine lv_iconst (v := 0) hx hb dX8_takes_57 (by decide) ?_
        cases er6
        exact J6 H locs ls hG (lv_sub hl [0] rfl)
      · have er6 := ite_t cb7 er6
        refine lv_aload_n hx hb dX8_takes_37 rfl (lv_at hl 0 rfl) ?_
        refine g_get (v := .int iFigures) X hT hG fl_X8_103 0 rfl rfl rfl dX8_takes_38 ?_
        refine lv_if_le (tgt := 57) hx hb dX8_takes_41 (by decide) (fun cb8 => ?_) (fun cb8 => ?_)
        · have er6 := ite_t cb8 er6
          refine lv_iconst (v := 0) hx hb dX8_takes_57 (by decide) ?_
          cases er6
          exact J6 H locs ls hG (lv_sub hl [0] rfl)
        · have er6 := ite_f cb8 er6
          refine lv_aload_n hx hb dX8_takes_44 rfl (lv_at hl 0 rfl) ?_
          refine g_get (v := .int iNewRoads) X hT hG fl_X8_100 0 rfl rfl rfl dX8_takes_45 ?_
          refine lv_bipush (v := 11) hx hb dX8_takes_48 (by decide) ?_
          refine lv_icmp_ge (tgt := 57) hx hb dX8_takes_50 (by decide) (fun cb9 => ?_) (fun cb9 => ?_)
          · have er6 := ite_t cb9 er6
            refine lv_iconst (v := 0) hx hb dX8_takes_57 (by decide) ?_
            cases er6
            exact J6 H locs ls hG (lv_sub hl [0] rfl)
          · have er6 := ite_f cb9 er6
            refine lv_iconst (v := 1) hx hb dX8_takes_53 (by decide) ?_
            refine lv_goto (tgt := 58) hx hb dX8_takes_54 (by decide) ?_
            cases er6
            exact J6 H locs ls hG (lv_sub hl [0] rfl)
    · have h := ite_f cb4 h
      refine lv_aload_n hx hb dX8_takes_25 rfl (lv_at hl 0 rfl) ?_
      refine lv_iload_n hx hb dX8_takes_26 rfl (lv_at hl 1 rfl) ?_
      obtain ⟨r_17, iFigures_18, aNewLength_19, ec20, h⟩ := bnd3_some h
      refine g_callVr [.int p1] [] 0 X hT hG ml_X8_110 (c_X8_takesFigure hq ec20) rfl rfl rfl rfl rfl hl.1 (Nat.le_of_ble_eq_true rfl) (by rw [hR]; exact ⟨Nat.le_of_ble_eq_true rfl, Nat.le_of_ble_eq_true rfl⟩) dX8_takes_27 (fun H locs hG => ?_)
      have hG : GH D cI cZ layM q s ([iPageLength, iRoads, iRead, iAltered, iRanked, iStage, iFigures_18, iNewRoads, iTold, iRouted, iRouteSum], [jH], [aPage, aBeginOf, aEndOf, aLengthOf, aCosts, aRankOf, aRoadAt, aWorths, aMiddles, aLeasts, aBusy, aNewBegin, aNewEnd, aNewLength_19, aIsLeft, aAround, aWhole, aIsNeeded, aWereRanks, aWaitFrom, aWaitTo, aToldAt, aRisen, aUps, aTried, aRoutes]) H locs := hG
      obtain ⟨hz, h⟩ := ckb_some h
      cases h
      rw [hQ]
      exact g_zret X hT hG hr hlk hz dX8_takes_30
  · have h := ite_f cb1 h
    refine lv_aload_n hx hb dX8_takes_8 rfl (lv_at hl 0 rfl) ?_
    refine lv_iload_n hx hb dX8_takes_9 rfl (lv_at hl 1 rfl) ?_
    obtain ⟨r_21, iStage_22, iFigures_23, aNewBegin_24, aNewEnd_25, ec26, h⟩ := bnd5_some h
    refine g_callVr [.int p1] [] 0 X hT hG ml_X8_106 (c_X8_takesPlace hq ec26) rfl rfl rfl rfl rfl hl.1 (Nat.le_of_ble_eq_true rfl) (by rw [hR]; exact ⟨Nat.le_of_ble_eq_true rfl, Nat.le_of_ble_eq_true rfl⟩) dX8_takes_10 (fun H locs hG => ?_)
    have hG : GH D cI cZ layM q s ([iPageLength, iRoads, iRead, iAltered, iRanked, iStage_22, iFigures_23, iNewRoads, iTold, iRouted, iRouteSum], [jH], [aPage, aBeginOf, aEndOf, aLengthOf, aCosts, aRankOf, aRoadAt, aWorths, aMiddles, aLeasts, aBusy, aNewBegin_24, aNewEnd_25, aNewLength, aIsLeft, aAround, aWhole, aIsNeeded, aWereRanks, aWaitFrom, aWaitTo, aToldAt, aRisen, aUps, aTried, aRoutes]) H locs := hG
    obtain ⟨hz, h⟩ := ckb_some h
    cases h
    rw [hQ]
    exact g_zret X hT hG hr hlk hz dX8_takes_13
def f8_readPage_b1 (iPageLength : Int32) (aPage : (Nat → Int32)) (x1_1 : Int32) (iStage_2 : Int32) (iFigures_3 : Int32) (iNewRoads_4 : Int32) (aNewBegin_5 : (Nat → Int32)) (aNewEnd_6 : (Nat → Int32)) (aNewLength_7 : (Nat → Int32)) : Option ((Int32 × Int32 × Int32 × Int32 × (Nat → Int32) × (Nat → Int32) × (Nat → Int32)) ⊕ (Int32 × Int32 × Int32 × Int32 × (Nat → Int32) × (Nat → Int32) × (Nat → Int32))) :=
  if iPageLength ≤ x1_1 then (some (.inr (x1_1, iStage_2, iFigures_3, iNewRoads_4, aNewBegin_5, aNewEnd_6, aNewLength_7))) else ckin x1_1 60 (bnd7 (f8_takes iStage_2 (aPage x1_1.toNatClampNeg) iFigures_3 iNewRoads_4 aNewBegin_5 aNewEnd_6 aNewLength_7) fun (r_18 : Int32) (iStage_19 : Int32) (iFigures_20 : Int32) (iNewRoads_21 : Int32) (aNewBegin_22 : (Nat → Int32)) (aNewEnd_23 : (Nat → Int32)) (aNewLength_24 : (Nat → Int32)) => if r_18 = 0 then (some (.inr (x1_1, iStage_19, iFigures_20, iNewRoads_21, aNewBegin_22, aNewEnd_23, aNewLength_24))) else bd (x1_1 + 1) fun x1_27 => some (.inl (x1_27, iStage_19, iFigures_20, iNewRoads_21, aNewBegin_22, aNewEnd_23, aNewLength_24)))
def f8_readPage (fu : Nat) (iPageLength : Int32) (aPage : (Nat → Int32)) (aNewBegin : (Nat → Int32)) (aNewEnd : (Nat → Int32)) (aNewLength : (Nat → Int32)) : Option (Int32 × Int32 × Int32 × Int32 × (Nat → Int32) × (Nat → Int32) × (Nat → Int32)) :=
  bnd7 (lpG (fun z => f8_readPage_b1 iPageLength aPage z.1 z.2.1 z.2.2.1 z.2.2.2.1 z.2.2.2.2.1 z.2.2.2.2.2.1 z.2.2.2.2.2.2) fu ((0 : Int32), (0 : Int32), (0 : Int32), (0 : Int32), aNewBegin, aNewEnd, aNewLength)) fun (x1_8 : Int32) (iStage_9 : Int32) (iFigures_10 : Int32) (iNewRoads_11 : Int32) (aNewBegin_12 : (Nat → Int32)) (aNewEnd_13 : (Nat → Int32)) (aNewLength_14 : (Nat → Int32)) => some (x1_8, iStage_9, iFigures_10, iNewRoads_11, aNewBegin_12, aNewEnd_13, aNewLength_14)
set_option maxHeartbeats 4000000 in
set_option maxRecDepth 100000 in
theorem c_X8_readPage (hq : gJ layM q) {fu : Nat} {o_r : Int32} {o_iStage : Int32} {o_iFigures : Int32} {o_iNewRoads : Int32} {o_aNewBegin : (Nat → Int32)} {o_aNewEnd : (Nat → Int32)} {o_aNewLength : (Nat → Int32)} (h : f8_readPage fu iPageLength aPage aNewBegin aNewEnd aNewLength = some (o_r, o_iStage, o_iFigures, o_iNewRoads, o_aNewBegin, o_aNewEnd, o_aNewLength)) :
    GM l yX8_readPage cX8_readPage 2 (some .int) 3 67 D cI cZ layM q [.ref (q 0)] ([iPageLength, iRoads, iRead, iAltered, iRanked, iStage, iFigures, iNewRoads, iTold, iRouted, iRouteSum], [jH], [aPage, aBeginOf, aEndOf, aLengthOf, aCosts, aRankOf, aRoadAt, aWorths, aMiddles, aLeasts, aBusy, aNewBegin, aNewEnd, aNewLength, aIsLeft, aAround, aWhole, aIsNeeded, aWereRanks, aWaitFrom, aWaitTo, aToldAt, aRisen, aUps, aTried, aRoutes]) (some (.int o_r)) ([iPageLength, iRoads, iRead, iAltered, iRanked, o_iStage, o_iFigures, o_iNewRoads, iTold, iRouted, iRouteSum], [jH], [aPage, aBeginOf, aEndOf, aLengthOf, aCosts, aRankOf, aRoadAt, aWorths, aMiddles, aLeasts, aBusy, o_aNewBegin, o_aNewEnd, o_aNewLength, aIsLeft, aAround, aWhole, aIsNeeded, aWereRanks, aWaitFrom, aWaitTo, aToldAt, aRisen, aUps, aTried, aRoutes]) := by
  refine GM.go RX8 (by decide) rfl (Nat.le_of_ble_eq_true rfl) ?_
  intro p e s m args below meth c ls R Q H locs X hr hlk hT hG hl hR hQ
  have hx := X.1
  have hb := X.2.1
  have hl : lv_has ls 2 [(0, .ref (q 0))] := hl
  unfold f8_readPage at h
  refine lv_aload_n hx hb dX8_readPage_0 rfl (lv_at hl 0 rfl) ?_
  refine lv_iconst (v := 0) hx hb dX8_readPage_1 (by decide) ?_
  refine g_putI (w' := ([iPageLength, iRoads, iRead, iAltered, iRanked, 0, iFigures, iNewRoads, iTold, iRouted, iRouteSum], [jH], [aPage, aBeginOf, aEndOf, aLengthOf, aCosts, aRankOf, aRoadAt, aWorths, aMiddles, aLeasts, aBusy, aNewBegin, aNewEnd, aNewLength, aIsLeft, aAround, aWhole, aIsNeeded, aWereRanks, aWaitFrom, aWaitTo, aToldAt, aRisen, aUps, aTried, aRoutes])) X hT hq hG fp_X8_97 0 rfl rfl gu_M_iStage (Nat.le_of_ble_eq_true rfl) rfl dX8_readPage_2 (fun H locs hG => ?_)
  refine lv_aload_n hx hb dX8_readPage_5 rfl (lv_at hl 0 rfl) ?_
  refine lv_iconst (v := 0) hx hb dX8_readPage_6 (by decide) ?_
  refine g_putI (w' := ([iPageLength, iRoads, iRead, iAltered, iRanked, 0, 0, iNewRoads, iTold, iRouted, iRouteSum], [jH], [aPage, aBeginOf, aEndOf, aLengthOf, aCosts, aRankOf, aRoadAt, aWorths, aMiddles, aLeasts, aBusy, aNewBegin, aNewEnd, aNewLength, aIsLeft, aAround, aWhole, aIsNeeded, aWereRanks, aWaitFrom, aWaitTo, aToldAt, aRisen, aUps, aTried, aRoutes])) X hT hq hG fp_X8_103 0 rfl rfl gu_M_iFigures (Nat.le_of_ble_eq_true rfl) rfl dX8_readPage_7 (fun H locs hG => ?_)
  refine lv_aload_n hx hb dX8_readPage_10 rfl (lv_at hl 0 rfl) ?_
  refine lv_iconst (v := 0) hx hb dX8_readPage_11 (by decide) ?_
  refine g_putI (w' := ([iPageLength, iRoads, iRead, iAltered, iRanked, 0, 0, 0, iTold, iRouted, iRouteSum], [jH], [aPage, aBeginOf, aEndOf, aLengthOf, aCosts, aRankOf, aRoadAt, aWorths, aMiddles, aLeasts, aBusy, aNewBegin, aNewEnd, aNewLength, aIsLeft, aAround, aWhole, aIsNeeded, aWereRanks, aWaitFrom, aWaitTo, aToldAt, aRisen, aUps, aTried, aRoutes])) X hT hq hG fp_X8_100 0 rfl rfl gu_M_iNewRoads (Nat.le_of_ble_eq_true rfl) rfl dX8_readPage_12 (fun H locs hG => ?_)
  refine lv_iconst (v := 0) hx hb dX8_readPage_15 (by decide) ?_
  refine lv_istore_n (lv' := [(1, .int 0), (0, .ref (q 0))]) hx hb dX8_readPage_16 rfl hl (by decide) rfl (fun ls hl => ?_)
  obtain ⟨x1_8, iStage_9, iFigures_10, iNewRoads_11, aNewBegin_12, aNewEnd_13, aNewLength_14, eL15, h⟩ := bnd7_some h
  have JX15 : ∀ (H : Heap) (locs : List Loc) (ls : Array Slot), GH D cI cZ layM q s ([iPageLength, iRoads, iRead, iAltered, iRanked, iStage_9, iFigures_10, iNewRoads_11, iTold, iRouted, iRouteSum], [jH], [aPage, aBeginOf, aEndOf, aLengthOf, aCosts, aRankOf, aRoadAt, aWorths, aMiddles, aLeasts, aBusy, aNewBegin_12, aNewEnd_13, aNewLength_14, aIsLeft, aAround, aWhole, aIsNeeded, aWereRanks, aWaitFrom, aWaitTo, aToldAt, aRisen, aUps, aTried, aRoutes]) H locs → lv_has ls 2 [(1, .int x1_8)] → W p l e R s m args below meth c H locs 0 0 Q (F0 m 44 ls []) := by
    intro H locs ls hG hl
    refine lv_iload_n hx hb dX8_readPage_44 rfl (lv_at hl 0 rfl) ?_
    cases h
    rw [hQ]
    exact g_iret X hT hG hr hlk dX8_readPage_45
  refine lpG_W (Wh := fun z => ∀ (H : Heap) (locs : List Loc) (ls : Array Slot), GH D cI cZ layM q s ([iPageLength, iRoads, iRead, iAltered, iRanked, z.2.1, z.2.2.1, z.2.2.2.1, iTold, iRouted, iRouteSum], [jH], [aPage, aBeginOf, aEndOf, aLengthOf, aCosts, aRankOf, aRoadAt, aWorths, aMiddles, aLeasts, aBusy, z.2.2.2.2.1, z.2.2.2.2.2.1, z.2.2.2.2.2.2, aIsLeft, aAround, aWhole, aIsNeeded, aWereRanks, aWaitFrom, aWaitTo, aToldAt, aRisen, aUps, aTried, aRoutes]) H locs → lv_has ls 2 [(0, .ref (q 0)), (1, .int (z.1))] → W p l e R s m args below meth c H locs 0 0 Q (F0 m 17 ls [])) ?_ fu _ eL15 H locs ls hG (lv_sub hl [1, 0] rfl)
  intro z rr15 hb15 hin15 hout15
  obtain ⟨x1_1, iStage_2, iFigures_3, iNewRoads_4, aNewBegin_5, aNewEnd_6, aNewLength_7⟩ := z
  intro H locs ls hG hl
  have hb15 : f8_readPage_b1 iPageLength aPage x1_1 iStage_2 iFigures_3 iNewRoads_4 aNewBegin_5 aNewEnd_6 aNewLength_7 = some rr15 := hb15
  have hG : GH D cI cZ layM q s ([iPageLength, iRoads, iRead, iAltered, iRanked, iStage_2, iFigures_3, iNewRoads_4, iTold, iRouted, iRouteSum], [jH], [aPage, aBeginOf, aEndOf, aLengthOf, aCosts, aRankOf, aRoadAt, aWorths, aMiddles, aLeasts, aBusy, aNewBegin_5, aNewEnd_6, aNewLength_7, aIsLeft, aAround, aWhole, aIsNeeded, aWereRanks, aWaitFrom, aWaitTo, aToldAt, aRisen, aUps, aTried, aRoutes]) H locs := hG
  have hl : lv_has ls 2 [(0, .ref (q 0)), (1, .int x1_1)] := hl
  unfold f8_readPage_b1 at hb15
  refine lv_iload_n hx hb dX8_readPage_17 rfl (lv_at hl 1 rfl) ?_
  refine lv_aload_n hx hb dX8_readPage_18 rfl (lv_at hl 0 rfl) ?_
  refine g_get (v := .int iPageLength) X hT hG fl_X8_93 0 rfl rfl rfl dX8_readPage_19 ?_
  refine lv_icmp_ge (tgt := 44) hx hb dX8_readPage_22 (by decide) (fun cb16 => ?_) (fun cb16 => ?_)
  · have hb15 := ite_t cb16 hb15
    have eo := hout15 _ (Option.some.inj hb15).symm
    cases eo
    exact JX15 H locs ls hG (lv_sub hl [1] rfl)
  · have hb15 := ite_f cb16 hb15
    refine lv_aload_n hx hb dX8_readPage_25 rfl (lv_at hl 0 rfl) ?_
    refine lv_aload_n hx hb dX8_readPage_26 rfl (lv_at hl 0 rfl) ?_
    refine g_get (v := .ref (q 1)) X hT hG fl_X8_7 0 rfl rfl rfl dX8_readPage_27 ?_
    refine lv_iload_n hx hb dX8_readPage_30 rfl (lv_at hl 1 rfl) ?_
    obtain ⟨hi17, hb15⟩ := ckin_some hb15
    refine g_ald (f := aPage) X hT hG 1 rfl rfl hi17 dX8_readPage_31 ?_
    obtain ⟨r_18, iStage_19, iFigures_20, iNewRoads_21, aNewBegin_22, aNewEnd_23, aNewLength_24, ec25, hb15⟩ := bnd7_some hb15
    refine g_callVr [.int (aPage x1_1.toNatClampNeg)] [] 0 X hT hG ml_X8_113 (c_X8_takes hq ec25) rfl rfl rfl rfl rfl hl.1 (Nat.le_of_ble_eq_true rfl) (by rw [hR]; exact ⟨Nat.le_of_ble_eq_true rfl, Nat.le_of_ble_eq_true rfl⟩) dX8_readPage_32 (fun H locs hG => ?_)
    have hG : GH D cI cZ layM q s ([iPageLength, iRoads, iRead, iAltered, iRanked, iStage_19, iFigures_20, iNewRoads_21, iTold, iRouted, iRouteSum], [jH], [aPage, aBeginOf, aEndOf, aLengthOf, aCosts, aRankOf, aRoadAt, aWorths, aMiddles, aLeasts, aBusy, aNewBegin_22, aNewEnd_23, aNewLength_24, aIsLeft, aAround, aWhole, aIsNeeded, aWereRanks, aWaitFrom, aWaitTo, aToldAt, aRisen, aUps, aTried, aRoutes]) H locs := hG
    refine lv_if_eq (tgt := 44) hx hb dX8_readPage_35 (by decide) (fun cb26 => ?_) (fun cb26 => ?_)
    · have hb15 := ite_t cb26 hb15
      have eo := hout15 _ (Option.some.inj hb15).symm
      cases eo
      exact JX15 H locs ls hG (lv_sub hl [1] rfl)
    · have hb15 := ite_f cb26 hb15
      obtain ⟨x1_27, ex1_27⟩ : ∃ z : Int32, z = x1_1 + 1 := ⟨_, rfl⟩
      have hb15 := bd_e ex1_27 hb15
      refine lv_iinc (v := x1_27) (lv' := [(1, .int x1_27), (0, .ref (q 0))]) hx hb dX8_readPage_38 hl (k := 1) rfl (by rw [ex1_27]; rfl) (by decide) rfl (fun ls hl => ?_)
      refine lv_goto (tgt := 17) hx hb dX8_readPage_41 (by decide) ?_
      exact hin15 _ (Option.some.inj hb15).symm H locs ls hG (lv_sub hl [1, 0] rfl)
def f8_fault (fu : Nat) (iPageLength : Int32) (aPage : (Nat → Int32)) (aNewBegin : (Nat → Int32)) (aNewEnd : (Nat → Int32)) (aNewLength : (Nat → Int32)) : Option (Int32 × Int32 × Int32 × Int32 × (Nat → Int32) × (Nat → Int32) × (Nat → Int32)) :=
  bnd7 (f8_readPage fu iPageLength aPage aNewBegin aNewEnd aNewLength) fun (r_1 : Int32) (iStage_2 : Int32) (iFigures_3 : Int32) (iNewRoads_4 : Int32) (aNewBegin_5 : (Nat → Int32)) (aNewEnd_6 : (Nat → Int32)) (aNewLength_7 : (Nat → Int32)) => some (r_1, iStage_2, iFigures_3, iNewRoads_4, aNewBegin_5, aNewEnd_6, aNewLength_7)
set_option maxHeartbeats 4000000 in
set_option maxRecDepth 100000 in
theorem c_X8_fault (hq : gJ layM q) {fu : Nat} {o_r : Int32} {o_iStage : Int32} {o_iFigures : Int32} {o_iNewRoads : Int32} {o_aNewBegin : (Nat → Int32)} {o_aNewEnd : (Nat → Int32)} {o_aNewLength : (Nat → Int32)} (h : f8_fault fu iPageLength aPage aNewBegin aNewEnd aNewLength = some (o_r, o_iStage, o_iFigures, o_iNewRoads, o_aNewBegin, o_aNewEnd, o_aNewLength)) :
    GM l yX8_fault cX8_fault 1 (some .int) 4 88 D cI cZ layM q [.ref (q 0)] ([iPageLength, iRoads, iRead, iAltered, iRanked, iStage, iFigures, iNewRoads, iTold, iRouted, iRouteSum], [jH], [aPage, aBeginOf, aEndOf, aLengthOf, aCosts, aRankOf, aRoadAt, aWorths, aMiddles, aLeasts, aBusy, aNewBegin, aNewEnd, aNewLength, aIsLeft, aAround, aWhole, aIsNeeded, aWereRanks, aWaitFrom, aWaitTo, aToldAt, aRisen, aUps, aTried, aRoutes]) (some (.int o_r)) ([iPageLength, iRoads, iRead, iAltered, iRanked, o_iStage, o_iFigures, o_iNewRoads, iTold, iRouted, iRouteSum], [jH], [aPage, aBeginOf, aEndOf, aLengthOf, aCosts, aRankOf, aRoadAt, aWorths, aMiddles, aLeasts, aBusy, o_aNewBegin, o_aNewEnd, o_aNewLength, aIsLeft, aAround, aWhole, aIsNeeded, aWereRanks, aWaitFrom, aWaitTo, aToldAt, aRisen, aUps, aTried, aRoutes]) := by
  refine GM.go RX8 (by decide) rfl (Nat.le_of_ble_eq_true rfl) ?_
  intro p e s m args below meth c ls R Q H locs X hr hlk hT hG hl hR hQ
  have hx := X.1
  have hb := X.2.1
  have hl : lv_has ls 1 [(0, .ref (q 0))] := hl
  unfold f8_fault at h
  refine lv_aload_n hx hb dX8_fault_0 rfl (lv_at hl 0 rfl) ?_
  obtain ⟨r_1, iStage_2, iFigures_3, iNewRoads_4, aNewBegin_5, aNewEnd_6, aNewLength_7, ec8, h⟩ := bnd7_some h
  refine g_callVr [] [] 0 X hT hG ml_X8_116 (c_X8_readPage hq ec8) rfl rfl rfl rfl rfl hl.1 (Nat.le_of_ble_eq_true rfl) (by rw [hR]; exact ⟨Nat.le_of_ble_eq_true rfl, Nat.le_of_ble_eq_true rfl⟩) dX8_fault_1 (fun H locs hG => ?_)
  have hG : GH D cI cZ layM q s ([iPageLength, iRoads, iRead, iAltered, iRanked, iStage_2, iFigures_3, iNewRoads_4, iTold, iRouted, iRouteSum], [jH], [aPage, aBeginOf, aEndOf, aLengthOf, aCosts, aRankOf, aRoadAt, aWorths, aMiddles, aLeasts, aBusy, aNewBegin_5, aNewEnd_6, aNewLength_7, aIsLeft, aAround, aWhole, aIsNeeded, aWereRanks, aWaitFrom, aWaitTo, aToldAt, aRisen, aUps, aTried, aRoutes]) H locs := hG
  cases h
  rw [hQ]
  exact g_iret X hT hG hr hlk dX8_fault_4
def f8_isStep (p1 : Int32) (p2 : Int32) (aCosts : (Nat → Int32)) : Option (Int32) :=
  ckin ((12 * p1) + p2) 144 (bnd1 (if (aCosts ((12 * p1) + p2).toNatClampNeg) < 0 then (some 0) else some 1) fun (y_2 : Int32) => ckb y_2 (some y_2))
set_option maxHeartbeats 4000000 in
set_option maxRecDepth 100000 in
theorem c_X8_isStep (hq : gJ layM q) {p1 : Int32} {p2 : Int32} {o_r : Int32} (h : f8_isStep p1 p2 aCosts = some o_r) :
    GM l yX8_isStep cX8_isStep 3 (some .boolean) 0 0 D cI cZ layM q [.ref (q 0), .int p1, .int p2] ([iPageLength, iRoads, iRead, iAltered, iRanked, iStage, iFigures, iNewRoads, iTold, iRouted, iRouteSum], [jH], [aPage, aBeginOf, aEndOf, aLengthOf, aCosts, aRankOf, aRoadAt, aWorths, aMiddles, aLeasts, aBusy, aNewBegin, aNewEnd, aNewLength, aIsLeft, aAround, aWhole, aIsNeeded, aWereRanks, aWaitFrom, aWaitTo, aToldAt, aRisen, aUps, aTried, aRoutes]) (some (.int o_r)) ([iPageLength, iRoads, iRead, iAltered, iRanked, iStage, iFigures, iNewRoads, iTold, iRouted, iRouteSum], [jH], [aPage, aBeginOf, aEndOf, aLengthOf, aCosts, aRankOf, aRoadAt, aWorths, aMiddles, aLeasts, aBusy, aNewBegin, aNewEnd, aNewLength, aIsLeft, aAround, aWhole, aIsNeeded, aWereRanks, aWaitFrom, aWaitTo, aToldAt, aRisen, aUps, aTried, aRoutes]) := by
  refine GM.go RX8 (by decide) rfl (Nat.le_of_ble_eq_true rfl) ?_
  intro p e s m args below meth c ls R Q H locs X hr hlk hT hG hl hR hQ
  have hx := X.1
  have hb := X.2.1
  have hl : lv_has ls 3 [(0, .ref (q 0)), (1, .int p1), (2, .int p2)] := hl
  unfold f8_isStep at h
  refine lv_aload_n hx hb dX8_isStep_0 rfl (lv_at hl 0 rfl) ?_
  refine g_get (v := .ref (q 5)) X hT hG fl_X8_22 0 rfl rfl rfl dX8_isStep_1 ?_
  refine lv_bipush (v := 12) hx hb dX8_isStep_4 (by decide) ?_
  refine lv_iload_n hx hb dX8_isStep_6 rfl (lv_at hl 1 rfl) ?_
  refine lv_imul hx hb dX8_isStep_7 ?_
  refine lv_iload_n hx hb dX8_isStep_8 rfl (lv_at hl 2 rfl) ?_
  refine lv_iadd hx hb dX8_isStep_9 ?_
  obtain ⟨hi1, h⟩ := ckin_some h
  refine g_ald (f := aCosts) X hT hG 5 rfl rfl hi1 dX8_isStep_10 ?_
  obtain ⟨y_2, er3, h⟩ := bnd1_some h
  have J3 : ∀ (H : Heap) (locs : List Loc) (ls : Array Slot), GH D cI cZ layM q s ([iPageLength, iRoads, iRead, iAltered, iRanked, iStage, iFigures, iNewRoads, iTold, iRouted, iRouteSum], [jH], [aPage, aBeginOf, aEndOf, aLengthOf, aCosts, aRankOf, aRoadAt, aWorths, aMiddles, aLeasts, aBusy, aNewBegin, aNewEnd, aNewLength, aIsLeft, aAround, aWhole, aIsNeeded, aWereRanks, aWaitFrom, aWaitTo, aToldAt, aRisen, aUps, aTried, aRoutes]) H locs → lv_has ls 3 [] → W p l e R s m args below meth c H locs 0 0 Q (F0 m 19 ls [.int y_2]) := by
    intro H locs ls hG hl
    obtain ⟨hz, h⟩ := ckb_some h
    cases h
    rw [hQ]
    exact g_zret X hT hG hr hlk hz dX8_isStep_19
  refine lv_if_lt (tgt := 18) hx hb dX8_isStep_11 (by decide) (fun cb4 => ?_) (fun cb4 => ?_)
  · have er3 := ite_t cb4 er3
    refine lv_iconst (v := 0) hx hb dX8_isStep_18 (by decide) ?_
    cases er3
    exact J3 H locs ls hG (lv_sub hl [] rfl)
  · have er3 := ite_f cb4 er3
    refine lv_iconst (v := 1) hx hb dX8_isStep_14 (by decide) ?_
    refine lv_goto (tgt := 19) hx hb dX8_isStep_15 (by decide) ?_
    cases er3
    exact J3 H locs ls hG (lv_sub hl [] rfl)
def f8_laySteps_b2 (iRoads : Int32) (x1_1 : Int32) (aCosts : (Nat → Int32)) (aLengthOf : (Nat → Int32)) (x2_8 : Int32) (aWorths_9 : (Nat → Int32)) (aMiddles_10 : (Nat → Int32)) : Option ((Int32 × (Nat → Int32) × (Nat → Int32)) ⊕ ((Nat → Int32) × (Nat → Int32))) :=
  if iRoads ≤ x2_8 then (some (.inr (aWorths_9, aMiddles_10))) else bnd1 (f8_isStep x1_1 x2_8 aCosts) fun (r_15 : Int32) => bnd1 (if r_15 = 0 then (some 268435456) else ckin ((12 * x1_1) + x2_8) 144 (ckin x2_8 12 (some ((aCosts ((12 * x1_1) + x2_8).toNatClampNeg) + (aLengthOf x2_8.toNatClampNeg))))) fun (y_17 : Int32) => ckin ((12 * x1_1) + x2_8) 144 (bd (upd aWorths_9 ((12 * x1_1) + x2_8).toNatClampNeg y_17) fun aWorths_23 => ckin ((12 * x1_1) + x2_8) 144 (bd (upd aMiddles_10 ((12 * x1_1) + x2_8).toNatClampNeg (-1)) fun aMiddles_25 => bd (x2_8 + 1) fun x2_26 => some (.inl (x2_26, aWorths_23, aMiddles_25))))
def f8_laySteps_b1 (fu : Nat) (iRoads : Int32) (aCosts : (Nat → Int32)) (aLengthOf : (Nat → Int32)) (x1_1 : Int32) (aWorths_2 : (Nat → Int32)) (aMiddles_3 : (Nat → Int32)) : Option ((Int32 × (Nat → Int32) × (Nat → Int32)) ⊕ ((Nat → Int32) × (Nat → Int32))) :=
  if iRoads ≤ x1_1 then (some (.inr (aWorths_2, aMiddles_3))) else bnd2 (lpG (fun z => f8_laySteps_b2 iRoads x1_1 aCosts aLengthOf z.1 z.2.1 z.2.2) fu ((0 : Int32), aWorths_2, aMiddles_3)) fun (aWorths_11 : (Nat → Int32)) (aMiddles_12 : (Nat → Int32)) => bd (x1_1 + 1) fun x1_27 => some (.inl (x1_27, aWorths_11, aMiddles_12))
def f8_laySteps (fu : Nat) (iRoads : Int32) (aCosts : (Nat → Int32)) (aLengthOf : (Nat → Int32)) (aWorths : (Nat → Int32)) (aMiddles : (Nat → Int32)) : Option ((Nat → Int32) × (Nat → Int32)) :=
  bnd2 (lpG (fun z => f8_laySteps_b1 fu iRoads aCosts aLengthOf z.1 z.2.1 z.2.2) fu ((0 : Int32), aWorths, aMiddles)) fun (aWorths_4 : (Nat → Int32)) (aMiddles_5 : (Nat → Int32)) => some (aWorths_4, aMiddles_5)
set_option maxHeartbeats 4000000 in
set_option maxRecDepth 100000 in
theorem c_X8_laySteps (hq : gJ layM q) {fu : Nat} {o_aWorths : (Nat → Int32)} {o_aMiddles : (Nat → Int32)} (h : f8_laySteps fu iRoads aCosts aLengthOf aWorths aMiddles = some (o_aWorths, o_aMiddles)) :
    GM l yX8_laySteps cX8_laySteps 3 none 1 22 D cI cZ layM q [.ref (q 0)] ([iPageLength, iRoads, iRead, iAltered, iRanked, iStage, iFigures, iNewRoads, iTold, iRouted, iRouteSum], [jH], [aPage, aBeginOf, aEndOf, aLengthOf, aCosts, aRankOf, aRoadAt, aWorths, aMiddles, aLeasts, aBusy, aNewBegin, aNewEnd, aNewLength, aIsLeft, aAround, aWhole, aIsNeeded, aWereRanks, aWaitFrom, aWaitTo, aToldAt, aRisen, aUps, aTried, aRoutes]) none ([iPageLength, iRoads, iRead, iAltered, iRanked, iStage, iFigures, iNewRoads, iTold, iRouted, iRouteSum], [jH], [aPage, aBeginOf, aEndOf, aLengthOf, aCosts, aRankOf, aRoadAt, o_aWorths, o_aMiddles, aLeasts, aBusy, aNewBegin, aNewEnd, aNewLength, aIsLeft, aAround, aWhole, aIsNeeded, aWereRanks, aWaitFrom, aWaitTo, aToldAt, aRisen, aUps, aTried, aRoutes]) := by
  refine GM.go RX8 (by decide) rfl (Nat.le_of_ble_eq_true rfl) ?_
  intro p e s m args below meth c ls R Q H locs X hr hlk hT hG hl hR hQ
  have hx := X.1
  have hb := X.2.1
  have hl : lv_has ls 3 [(0, .ref (q 0))] := hl
  unfold f8_laySteps at h
  refine lv_iconst (v := 0) hx hb dX8_laySteps_0 (by decide) ?_
  refine lv_istore_n (lv' := [(1, .int 0), (0, .ref (q 0))]) hx hb dX8_laySteps_1 rfl hl (by decide) rfl (fun ls hl => ?_)
  obtain ⟨aWorths_4, aMiddles_5, eL6, h⟩ := bnd2_some h
  have JX6 : ∀ (H : Heap) (locs : List Loc) (ls : Array Slot), GH D cI cZ layM q s ([iPageLength, iRoads, iRead, iAltered, iRanked, iStage, iFigures, iNewRoads, iTold, iRouted, iRouteSum], [jH], [aPage, aBeginOf, aEndOf, aLengthOf, aCosts, aRankOf, aRoadAt, aWorths_4, aMiddles_5, aLeasts, aBusy, aNewBegin, aNewEnd, aNewLength, aIsLeft, aAround, aWhole, aIsNeeded, aWereRanks, aWaitFrom, aWaitTo, aToldAt, aRisen, aUps, aTried, aRoutes]) H locs → lv_has ls 3 [] → W p l e R s m args below meth c H locs 0 0 Q (F0 m 87 ls []) := by
    intro H locs ls hG hl
    cases h
    rw [hQ]
    exact g_vret X hT hG hr hlk dX8_laySteps_87
  refine lpG_W (Wh := fun z => ∀ (H : Heap) (locs : List Loc) (ls : Array Slot), GH D cI cZ layM q s ([iPageLength, iRoads, iRead, iAltered, iRanked, iStage, iFigures, iNewRoads, iTold, iRouted, iRouteSum], [jH], [aPage, aBeginOf, aEndOf, aLengthOf, aCosts, aRankOf, aRoadAt, z.2.1, z.2.2, aLeasts, aBusy, aNewBegin, aNewEnd, aNewLength, aIsLeft, aAround, aWhole, aIsNeeded, aWereRanks, aWaitFrom, aWaitTo, aToldAt, aRisen, aUps, aTried, aRoutes]) H locs → lv_has ls 3 [(0, .ref (q 0)), (1, .int (z.1))] → W p l e R s m args below meth c H locs 0 0 Q (F0 m 2 ls [])) ?_ fu _ eL6 H locs ls hG (lv_sub hl [1, 0] rfl)
  intro z rr6 hb6 hin6 hout6
  obtain ⟨x1_1, aWorths_2, aMiddles_3⟩ := z
  intro H locs ls hG hl
  have hb6 : f8_laySteps_b1 fu iRoads aCosts aLengthOf x1_1 aWorths_2 aMiddles_3 = some rr6 := hb6
  have hG : GH D cI cZ layM q s ([iPageLength, iRoads, iRead, iAltered, iRanked, iStage, iFigures, iNewRoads, iTold, iRouted, iRouteSum], [jH], [aPage, aBeginOf, aEndOf, aLengthOf, aCosts, aRankOf, aRoadAt, aWorths_2, aMiddles_3, aLeasts, aBusy, aNewBegin, aNewEnd, aNewLength, aIsLeft, aAround, aWhole, aIsNeeded, aWereRanks, aWaitFrom, aWaitTo, aToldAt, aRisen, aUps, aTried, aRoutes]) H locs := hG
  have hl : lv_has ls 3 [(0, .ref (q 0)), (1, .int x1_1)] := hl
  unfold f8_laySteps_b1 at hb6
  refine lv_iload_n hx hb dX8_laySteps_2 rfl (lv_at hl 1 rfl) ?_
  refine lv_aload_n hx hb dX8_laySteps_3 rfl (lv_at hl 0 rfl) ?_
  refine g_get (v := .int iRoads) X hT hG fl_X8_120 0 rfl rfl rfl dX8_laySteps_4 ?_
  refine lv_icmp_ge (tgt := 87) hx hb dX8_laySteps_7 (by decide) (fun cb7 => ?_) (fun cb7 => ?_)
  · have hb6 := ite_t cb7 hb6
    have eo := hout6 _ (Option.some.inj hb6).symm
    cases eo
    exact JX6 H locs ls hG (lv_sub hl [] rfl)
  · have hb6 := ite_f cb7 hb6
    refine lv_iconst (v := 0) hx hb dX8_laySteps_10 (by decide) ?_
    refine lv_istore_n (lv' := [(2, .int 0), (0, .ref (q 0)), (1, .int x1_1)]) hx hb dX8_laySteps_11 rfl hl (by decide) rfl (fun ls hl => ?_)
    obtain ⟨aWorths_11, aMiddles_12, eL13, hb6⟩ := bnd2_some hb6
    have JX13 : ∀ (H : Heap) (locs : List Loc) (ls : Array Slot), GH D cI cZ layM q s ([iPageLength, iRoads, iRead, iAltered, iRanked, iStage, iFigures, iNewRoads, iTold, iRouted, iRouteSum], [jH], [aPage, aBeginOf, aEndOf, aLengthOf, aCosts, aRankOf, aRoadAt, aWorths_11, aMiddles_12, aLeasts, aBusy, aNewBegin, aNewEnd, aNewLength, aIsLeft, aAround, aWhole, aIsNeeded, aWereRanks, aWaitFrom, aWaitTo, aToldAt, aRisen, aUps, aTried, aRoutes]) H locs → lv_has ls 3 [(0, .ref (q 0)), (1, .int x1_1)] → W p l e R s m args below meth c H locs 0 0 Q (F0 m 81 ls []) := by
      intro H locs ls hG hl
      obtain ⟨x1_27, ex1_27⟩ : ∃ z : Int32, z = x1_1 + 1 := ⟨_, rfl⟩
      have hb6 := bd_e ex1_27 hb6
      refine lv_iinc (v := x1_27) (lv' := [(1, .int x1_27), (0, .ref (q 0))]) hx hb dX8_laySteps_81 hl (k := 1) rfl (by rw [ex1_27]; rfl) (by decide) rfl (fun ls hl => ?_)
      refine lv_goto (tgt := 2) hx hb dX8_laySteps_84 (by decide) ?_
      exact hin6 _ (Option.some.inj hb6).symm H locs ls hG (lv_sub hl [1, 0] rfl)
    refine lpG_W (Wh := fun z => ∀ (H : Heap) (locs : List Loc) (ls : Array Slot), GH D cI cZ layM q s ([iPageLength, iRoads, iRead, iAltered, iRanked, iStage, iFigures, iNewRoads, iTold, iRouted, iRouteSum], [jH], [aPage, aBeginOf, aEndOf, aLengthOf, aCosts, aRankOf, aRoadAt, z.2.1, z.2.2, aLeasts, aBusy, aNewBegin, aNewEnd, aNewLength, aIsLeft, aAround, aWhole, aIsNeeded, aWereRanks, aWaitFrom, aWaitTo, aToldAt, aRisen, aUps, aTried, aRoutes]) H locs → lv_has ls 3 [(0, .ref (q 0)), (1, .int x1_1), (2, .int (z.1))] → W p l e R s m args below meth c H locs 0 0 Q (F0 m 12 ls [])) ?_ fu _ eL13 H locs ls hG (lv_sub hl [1, 2, 0] rfl)
    intro z rr13 hb13 hin13 hout13
    obtain ⟨x2_8, aWorths_9, aMiddles_10⟩ := z
    intro H locs ls hG hl
    have hb13 : f8_laySteps_b2 iRoads x1_1 aCosts aLengthOf x2_8 aWorths_9 aMiddles_10 = some rr13 := hb13
    have hG : GH D cI cZ layM q s ([iPageLength, iRoads, iRead, iAltered, iRanked, iStage, iFigures, iNewRoads, iTold, iRouted, iRouteSum], [jH], [aPage, aBeginOf, aEndOf, aLengthOf, aCosts, aRankOf, aRoadAt, aWorths_9, aMiddles_10, aLeasts, aBusy, aNewBegin, aNewEnd, aNewLength, aIsLeft, aAround, aWhole, aIsNeeded, aWereRanks, aWaitFrom, aWaitTo, aToldAt, aRisen, aUps, aTried, aRoutes]) H locs := hG
    have hl : lv_has ls 3 [(0, .ref (q 0)), (1, .int x1_1), (2, .int x2_8)] := hl
    unfold f8_laySteps_b2 at hb13
    refine lv_iload_n hx hb dX8_laySteps_12 rfl (lv_at hl 2 rfl) ?_
    refine lv_aload_n hx hb dX8_laySteps_13 rfl (lv_at hl 0 rfl) ?_
    refine g_get (v := .int iRoads) X hT hG fl_X8_120 0 rfl rfl rfl dX8_laySteps_14 ?_
    refine lv_icmp_ge (tgt := 81) hx hb dX8_laySteps_17 (by decide) (fun cb14 => ?_) (fun cb14 => ?_)
    · have hb13 := ite_t cb14 hb13
      have eo := hout13 _ (Option.some.inj hb13).symm
      cases eo
      exact JX13 H locs ls hG (lv_sub hl [0, 1] rfl)
    · have hb13 := ite_f cb14 hb13
      refine lv_aload_n hx hb dX8_laySteps_20 rfl (lv_at hl 0 rfl) ?_
      refine g_get (v := .ref (q 8)) X hT hG fl_X8_31 0 rfl rfl rfl dX8_laySteps_21 ?_
      refine lv_bipush (v := 12) hx hb dX8_laySteps_24 (by decide) ?_
      refine lv_iload_n hx hb dX8_laySteps_26 rfl (lv_at hl 1 rfl) ?_
      refine lv_imul hx hb dX8_laySteps_27 ?_
      refine lv_iload_n hx hb dX8_laySteps_28 rfl (lv_at hl 2 rfl) ?_
      refine lv_iadd hx hb dX8_laySteps_29 ?_
      refine lv_aload_n hx hb dX8_laySteps_30 rfl (lv_at hl 0 rfl) ?_
      refine lv_iload_n hx hb dX8_laySteps_31 rfl (lv_at hl 1 rfl) ?_
      refine lv_iload_n hx hb dX8_laySteps_32 rfl (lv_at hl 2 rfl) ?_
      obtain ⟨r_15, ec16, hb13⟩ := bnd1_some hb13
      refine g_callVr [.int x1_1, .int x2_8] [.int ((12 * x1_1) + x2_8), .ref (q 8)] 0 X hT hG ml_X8_132 (c_X8_isStep hq ec16) rfl rfl rfl rfl rfl hl.1 (Nat.le_of_ble_eq_true rfl) (by rw [hR]; exact ⟨Nat.le_of_ble_eq_true rfl, Nat.le_of_ble_eq_true rfl⟩) dX8_laySteps_33 (fun H locs hG => ?_)
      obtain ⟨y_17, er18, hb13⟩ := bnd1_some hb13
      have J18 : ∀ (H : Heap) (locs : List Loc) (ls : Array Slot), GH D cI cZ layM q s ([iPageLength, iRoads, iRead, iAltered, iRanked, iStage, iFigures, iNewRoads, iTold, iRouted, iRouteSum], [jH], [aPage, aBeginOf, aEndOf, aLengthOf, aCosts, aRankOf, aRoadAt, aWorths_9, aMiddles_10, aLeasts, aBusy, aNewBegin, aNewEnd, aNewLength, aIsLeft, aAround, aWhole, aIsNeeded, aWereRanks, aWaitFrom, aWaitTo, aToldAt, aRisen, aUps, aTried, aRoutes]) H locs → lv_has ls 3 [(0, .ref (q 0)), (1, .int x1_1), (2, .int x2_8)] → W p l e R s m args below meth c H locs 0 0 Q (F0 m 62 ls [.int y_17, .int ((12 * x1_1) + x2_8), .ref (q 8)]) := by
        intro H locs ls hG hl
        obtain ⟨hi22, hb13⟩ := ckin_some hb13
        obtain ⟨aWorths_23, eaWorths_23⟩ : ∃ z : Nat → Int32, z = upd aWorths_9 ((12 * x1_1) + x2_8).toNatClampNeg y_17 := ⟨_, rfl⟩
        have hb13 := bd_e eaWorths_23 hb13
        refine g_ast (w' := ([iPageLength, iRoads, iRead, iAltered, iRanked, iStage, iFigures, iNewRoads, iTold, iRouted, iRouteSum], [jH], [aPage, aBeginOf, aEndOf, aLengthOf, aCosts, aRankOf, aRoadAt, aWorths_23, aMiddles_10, aLeasts, aBusy, aNewBegin, aNewEnd, aNewLength, aIsLeft, aAround, aWhole, aIsNeeded, aWereRanks, aWaitFrom, aWaitTo, aToldAt, aRisen, aUps, aTried, aRoutes])) X hT hq hG 8 rfl ga_M_aWorths (Nat.le_of_ble_eq_true rfl) hi22 (by subst eaWorths_23; rfl) dX8_laySteps_62 (fun H locs hG => ?_)
        refine lv_aload_n hx hb dX8_laySteps_63 rfl (lv_at hl 0 rfl) ?_
        refine g_get (v := .ref (q 9)) X hT hG fl_X8_34 0 rfl rfl rfl dX8_laySteps_64 ?_
        refine lv_bipush (v := 12) hx hb dX8_laySteps_67 (by decide) ?_
        refine lv_iload_n hx hb dX8_laySteps_69 rfl (lv_at hl 1 rfl) ?_
        refine lv_imul hx hb dX8_laySteps_70 ?_
        refine lv_iload_n hx hb dX8_laySteps_71 rfl (lv_at hl 2 rfl) ?_
        refine lv_iadd hx hb dX8_laySteps_72 ?_
        refine lv_iconst (v := (-1)) hx hb dX8_laySteps_73 (by decide) ?_
        obtain ⟨hi24, hb13⟩ := ckin_some hb13
        obtain ⟨aMiddles_25, eaMiddles_25⟩ : ∃ z : Nat → Int32, z = upd aMiddles_10 ((12 * x1_1) + x2_8).toNatClampNeg (-1) := ⟨_, rfl⟩
        have hb13 := bd_e eaMiddles_25 hb13
        refine g_ast (w' := ([iPageLength, iRoads, iRead, iAltered, iRanked, iStage, iFigures, iNewRoads, iTold, iRouted, iRouteSum], [jH], [aPage, aBeginOf, aEndOf, aLengthOf, aCosts, aRankOf, aRoadAt, aWorths_23, aMiddles_25, aLeasts, aBusy, aNewBegin, aNewEnd, aNewLength, aIsLeft, aAround, aWhole, aIsNeeded, aWereRanks, aWaitFrom, aWaitTo, aToldAt, aRisen, aUps, aTried, aRoutes])) X hT hq hG 9 rfl ga_M_aMiddles (Nat.le_of_ble_eq_true rfl) hi24 (by subst eaMiddles_25; rfl) dX8_laySteps_74 (fun H locs hG => ?_)
        obtain ⟨x2_26, ex2_26⟩ : ∃ z : Int32, z = x2_8 + 1 := ⟨_, rfl⟩
        have hb13 := bd_e ex2_26 hb13
        refine lv_iinc (v := x2_26) (lv' := [(2, .int x2_26), (0, .ref (q 0)), (1, .int x1_1)]) hx hb dX8_laySteps_75 hl (k := 2) rfl (by rw [ex2_26]; rfl) (by decide) rfl (fun ls hl => ?_)
        refine lv_goto (tgt := 12) hx hb dX8_laySteps_78 (by decide) ?_
        exact hin13 _ (Option.some.inj hb13).symm H locs ls hG (lv_sub hl [1, 2, 0] rfl)
      refine lv_if_eq (tgt := 60) hx hb dX8_laySteps_36 (by decide) (fun cb19 => ?_) (fun cb19 => ?_)
      · have er18 := ite_t cb19 er18
        refine lv_ldc (v := 268435456) hx hb X.2.2.2.1 (X.2.2.2.2 _ cn_X8_136) dX8_laySteps_60 ?_
        cases er18
        exact J18 H locs ls hG (lv_sub hl [0, 1, 2] rfl)
      · have er18 := ite_f cb19 er18
        refine lv_aload_n hx hb dX8_laySteps_39 rfl (lv_at hl 0 rfl) ?_
        refine g_get (v := .ref (q 5)) X hT hG fl_X8_22 0 rfl rfl rfl dX8_laySteps_40 ?_
        refine lv_bipush (v := 12) hx hb dX8_laySteps_43 (by decide) ?_
        refine lv_iload_n hx hb dX8_laySteps_45 rfl (lv_at hl 1 rfl) ?_
        refine lv_imul hx hb dX8_laySteps_46 ?_
        refine lv_iload_n hx hb dX8_laySteps_47 rfl (lv_at hl 2 rfl) ?_
        refine lv_iadd hx hb dX8_laySteps_48 ?_
        obtain ⟨hi20, er18⟩ := ckin_some er18
        refine g_ald (f := aCosts) X hT hG 5 rfl rfl hi20 dX8_laySteps_49 ?_
        refine lv_aload_n hx hb dX8_laySteps_50 rfl (lv_at hl 0 rfl) ?_
        refine g_get (v := .ref (q 4)) X hT hG fl_X8_19 0 rfl rfl rfl dX8_laySteps_51 ?_
        refine lv_iload_n hx hb dX8_laySteps_54 rfl (lv_at hl 2 rfl) ?_
        obtain ⟨hi21, er18⟩ := ckin_some er18
        refine g_ald (f := aLengthOf) X hT hG 4 rfl rfl hi21 dX8_laySteps_55 ?_
        refine lv_iadd hx hb dX8_laySteps_56 ?_
        refine lv_goto (tgt := 62) hx hb dX8_laySteps_57 (by decide) ?_
        cases er18
        exact J18 H locs ls hG (lv_sub hl [0, 1, 2] rfl)
def f8_allLeft_b1 (iRoads : Int32) (x1_1 : Int32) (aIsLeft_2 : (Nat → Int32)) : Option ((Int32 × (Nat → Int32)) ⊕ ((Nat → Int32))) :=
  if iRoads ≤ x1_1 then (some (.inr aIsLeft_2)) else ckin x1_1 12 (bd (upd aIsLeft_2 x1_1.toNatClampNeg (vp_nar .boolean 1)) fun aIsLeft_7 => bd (x1_1 + 1) fun x1_8 => some (.inl (x1_8, aIsLeft_7)))
def f8_allLeft (fu : Nat) (iRoads : Int32) (aIsLeft : (Nat → Int32)) (aCosts : (Nat → Int32)) (aLengthOf : (Nat → Int32)) (aWorths : (Nat → Int32)) (aMiddles : (Nat → Int32)) : Option ((Nat → Int32) × (Nat → Int32) × (Nat → Int32)) :=
  bnd1 (lpG (fun z => f8_allLeft_b1 iRoads z.1 z.2) fu ((0 : Int32), aIsLeft)) fun (aIsLeft_3 : (Nat → Int32)) => bnd2 (f8_laySteps fu iRoads aCosts aLengthOf aWorths aMiddles) fun (aWorths_9 : (Nat → Int32)) (aMiddles_10 : (Nat → Int32)) => some (aWorths_9, aMiddles_10, aIsLeft_3)
set_option maxHeartbeats 4000000 in
set_option maxRecDepth 100000 in
theorem c_X8_allLeft (hq : gJ layM q) {fu : Nat} {o_aWorths : (Nat → Int32)} {o_aMiddles : (Nat → Int32)} {o_aIsLeft : (Nat → Int32)} (h : f8_allLeft fu iRoads aIsLeft aCosts aLengthOf aWorths aMiddles = some (o_aWorths, o_aMiddles, o_aIsLeft)) :
    GM l yX8_allLeft cX8_allLeft 2 none 2 44 D cI cZ layM q [.ref (q 0)] ([iPageLength, iRoads, iRead, iAltered, iRanked, iStage, iFigures, iNewRoads, iTold, iRouted, iRouteSum], [jH], [aPage, aBeginOf, aEndOf, aLengthOf, aCosts, aRankOf, aRoadAt, aWorths, aMiddles, aLeasts, aBusy, aNewBegin, aNewEnd, aNewLength, aIsLeft, aAround, aWhole, aIsNeeded, aWereRanks, aWaitFrom, aWaitTo, aToldAt, aRisen, aUps, aTried, aRoutes]) none ([iPageLength, iRoads, iRead, iAltered, iRanked, iStage, iFigures, iNewRoads, iTold, iRouted, iRouteSum], [jH], [aPage, aBeginOf, aEndOf, aLengthOf, aCosts, aRankOf, aRoadAt, o_aWorths, o_aMiddles, aLeasts, aBusy, aNewBegin, aNewEnd, aNewLength, o_aIsLeft, aAround, aWhole, aIsNeeded, aWereRanks, aWaitFrom, aWaitTo, aToldAt, aRisen, aUps, aTried, aRoutes]) := by
  refine GM.go RX8 (by decide) rfl (Nat.le_of_ble_eq_true rfl) ?_
  intro p e s m args below meth c ls R Q H locs X hr hlk hT hG hl hR hQ
  have hx := X.1
  have hb := X.2.1
  have hl : lv_has ls 2 [(0, .ref (q 0))] := hl
  unfold f8_allLeft at h
  refine lv_iconst (v := 0) hx hb dX8_allLeft_0 (by decide) ?_
  refine lv_istore_n (lv' := [(1, .int 0), (0, .ref (q 0))]) hx hb dX8_allLeft_1 rfl hl (by decide) rfl (fun ls hl => ?_)
  obtain ⟨aIsLeft_3, eL4, h⟩ := bnd1_some h
  have JX4 : ∀ (H : Heap) (locs : List Loc) (ls : Array Slot), GH D cI cZ layM q s ([iPageLength, iRoads, iRead, iAltered, iRanked, iStage, iFigures, iNewRoads, iTold, iRouted, iRouteSum], [jH], [aPage, aBeginOf, aEndOf, aLengthOf, aCosts, aRankOf, aRoadAt, aWorths, aMiddles, aLeasts, aBusy, aNewBegin, aNewEnd, aNewLength, aIsLeft_3, aAround, aWhole, aIsNeeded, aWereRanks, aWaitFrom, aWaitTo, aToldAt, aRisen, aUps, aTried, aRoutes]) H locs → lv_has ls 2 [(0, .ref (q 0))] → W p l e R s m args below meth c H locs 0 0 Q (F0 m 23 ls []) := by
    intro H locs ls hG hl
    refine lv_aload_n hx hb dX8_allLeft_23 rfl (lv_at hl 0 rfl) ?_
    obtain ⟨aWorths_9, aMiddles_10, ec11, h⟩ := bnd2_some h
    refine g_callVv [] [] 0 X hT hG ml_X8_148 (c_X8_laySteps hq ec11) rfl rfl rfl rfl rfl hl.1 (Nat.le_of_ble_eq_true rfl) (by rw [hR]; exact ⟨Nat.le_of_ble_eq_true rfl, Nat.le_of_ble_eq_true rfl⟩) dX8_allLeft_24 (fun H locs hG => ?_)
    have hG : GH D cI cZ layM q s ([iPageLength, iRoads, iRead, iAltered, iRanked, iStage, iFigures, iNewRoads, iTold, iRouted, iRouteSum], [jH], [aPage, aBeginOf, aEndOf, aLengthOf, aCosts, aRankOf, aRoadAt, aWorths_9, aMiddles_10, aLeasts, aBusy, aNewBegin, aNewEnd, aNewLength, aIsLeft_3, aAround, aWhole, aIsNeeded, aWereRanks, aWaitFrom, aWaitTo, aToldAt, aRisen, aUps, aTried, aRoutes]) H locs := hG
    cases h
    rw [hQ]
    exact g_vret X hT hG hr hlk dX8_allLeft_27
  refine lpG_W (Wh := fun z => ∀ (H : Heap) (locs : List Loc) (ls : Array Slot), GH D cI cZ layM q s ([iPageLength, iRoads, iRead, iAltered, iRanked, iStage, iFigures, iNewRoads, iTold, iRouted, iRouteSum], [jH], [aPage, aBeginOf, aEndOf, aLengthOf, aCosts, aRankOf, aRoadAt, aWorths, aMiddles, aLeasts, aBusy, aNewBegin, aNewEnd, aNewLength, z.2, aAround, aWhole, aIsNeeded, aWereRanks, aWaitFrom, aWaitTo, aToldAt, aRisen, aUps, aTried, aRoutes]) H locs → lv_has ls 2 [(0, .ref (q 0)), (1, .int (z.1))] → W p l e R s m args below meth c H locs 0 0 Q (F0 m 2 ls [])) ?_ fu _ eL4 H locs ls hG (lv_sub hl [1, 0] rfl)
  intro z rr4 hb4 hin4 hout4
  obtain ⟨x1_1, aIsLeft_2⟩ := z
  intro H locs ls hG hl
  have hb4 : f8_allLeft_b1 iRoads x1_1 aIsLeft_2 = some rr4 := hb4
  have hG : GH D cI cZ layM q s ([iPageLength, iRoads, iRead, iAltered, iRanked, iStage, iFigures, iNewRoads, iTold, iRouted, iRouteSum], [jH], [aPage, aBeginOf, aEndOf, aLengthOf, aCosts, aRankOf, aRoadAt, aWorths, aMiddles, aLeasts, aBusy, aNewBegin, aNewEnd, aNewLength, aIsLeft_2, aAround, aWhole, aIsNeeded, aWereRanks, aWaitFrom, aWaitTo, aToldAt, aRisen, aUps, aTried, aRoutes]) H locs := hG
  have hl : lv_has ls 2 [(0, .ref (q 0)), (1, .int x1_1)] := hl
  unfold f8_allLeft_b1 at hb4
  refine lv_iload_n hx hb dX8_allLeft_2 rfl (lv_at hl 1 rfl) ?_
  refine lv_aload_n hx hb dX8_allLeft_3 rfl (lv_at hl 0 rfl) ?_
  refine g_get (v := .int iRoads) X hT hG fl_X8_120 0 rfl rfl rfl dX8_allLeft_4 ?_
  refine lv_icmp_ge (tgt := 23) hx hb dX8_allLeft_7 (by decide) (fun cb5 => ?_) (fun cb5 => ?_)
  · have hb4 := ite_t cb5 hb4
    have eo := hout4 _ (Option.some.inj hb4).symm
    cases eo
    exact JX4 H locs ls hG (lv_sub hl [0] rfl)
  · have hb4 := ite_f cb5 hb4
    refine lv_aload_n hx hb dX8_allLeft_10 rfl (lv_at hl 0 rfl) ?_
    refine g_get (v := .ref (q 15)) X hT hG fl_X8_52 0 rfl rfl rfl dX8_allLeft_11 ?_
    refine lv_iload_n hx hb dX8_allLeft_14 rfl (lv_at hl 1 rfl) ?_
    refine lv_iconst (v := 1) hx hb dX8_allLeft_15 (by decide) ?_
    obtain ⟨hi6, hb4⟩ := ckin_some hb4
    obtain ⟨aIsLeft_7, eaIsLeft_7⟩ : ∃ z : Nat → Int32, z = upd aIsLeft_2 x1_1.toNatClampNeg (vp_nar .boolean 1) := ⟨_, rfl⟩
    have hb4 := bd_e eaIsLeft_7 hb4
    refine g_zast (w' := ([iPageLength, iRoads, iRead, iAltered, iRanked, iStage, iFigures, iNewRoads, iTold, iRouted, iRouteSum], [jH], [aPage, aBeginOf, aEndOf, aLengthOf, aCosts, aRankOf, aRoadAt, aWorths, aMiddles, aLeasts, aBusy, aNewBegin, aNewEnd, aNewLength, aIsLeft_7, aAround, aWhole, aIsNeeded, aWereRanks, aWaitFrom, aWaitTo, aToldAt, aRisen, aUps, aTried, aRoutes])) X hT hq hG 15 rfl ga_M_aIsLeft (Nat.le_of_ble_eq_true rfl) hi6 (by subst eaIsLeft_7; rfl) dX8_allLeft_16 (fun H locs hG => ?_)
    obtain ⟨x1_8, ex1_8⟩ : ∃ z : Int32, z = x1_1 + 1 := ⟨_, rfl⟩
    have hb4 := bd_e ex1_8 hb4
    refine lv_iinc (v := x1_8) (lv' := [(1, .int x1_8), (0, .ref (q 0))]) hx hb dX8_allLeft_17 hl (k := 1) rfl (by rw [ex1_8]; rfl) (by decide) rfl (fun ls hl => ?_)
    refine lv_goto (tgt := 2) hx hb dX8_allLeft_20 (by decide) ?_
    exact hin4 _ (Option.some.inj hb4).symm H locs ls hG (lv_sub hl [1, 0] rfl)
def f8_layAround_b1 (x2_1 : Int32) (aAround_2 : (Nat → Int32)) : Option ((Int32 × (Nat → Int32)) ⊕ ((Nat → Int32))) :=
  if 144 ≤ x2_1 then (some (.inr aAround_2)) else ckin x2_1 144 (bd (upd aAround_2 x2_1.toNatClampNeg 268435456) fun aAround_7 => bd (x2_1 + 1) fun x2_8 => some (.inl (x2_8, aAround_7)))
def f8_layAround_b3 (iRoads : Int32) (x2_9 : Int32) (aIsLeft : (Nat → Int32)) (p1 : Int32) (aWorths : (Nat → Int32)) (x3_14 : Int32) (aAround_15 : (Nat → Int32)) : Option ((Int32 × (Nat → Int32)) ⊕ ((Nat → Int32))) :=
  if iRoads ≤ x3_14 then (some (.inr aAround_15)) else ckin x2_9 12 (bnd1 (if (aIsLeft x2_9.toNatClampNeg) = 0 then (some 0) else ckin x3_14 12 (if (aIsLeft x3_14.toNatClampNeg) = 0 then (some 0) else if x2_9 = p1 then (some 0) else if x3_14 = p1 then (some 0) else some 1)) fun (y_20 : Int32) => bnd1 (if y_20 = 0 then (some 268435456) else ckin ((12 * x2_9) + x3_14) 144 (some (aWorths ((12 * x2_9) + x3_14).toNatClampNeg))) fun (y_27 : Int32) => ckin ((12 * x2_9) + x3_14) 144 (bd (upd aAround_15 ((12 * x2_9) + x3_14).toNatClampNeg y_27) fun aAround_32 => bd (x3_14 + 1) fun x3_33 => some (.inl (x3_33, aAround_32))))
def f8_layAround_b2 (fu : Nat) (iRoads : Int32) (aIsLeft : (Nat → Int32)) (p1 : Int32) (aWorths : (Nat → Int32)) (x2_9 : Int32) (aAround_10 : (Nat → Int32)) : Option ((Int32 × (Nat → Int32)) ⊕ ((Nat → Int32))) :=
  if iRoads ≤ x2_9 then (some (.inr aAround_10)) else bnd1 (lpG (fun z => f8_layAround_b3 iRoads x2_9 aIsLeft p1 aWorths z.1 z.2) fu ((0 : Int32), aAround_10)) fun (aAround_16 : (Nat → Int32)) => bd (x2_9 + 1) fun x2_34 => some (.inl (x2_34, aAround_16))
def f8_layAround_b6 (iRoads : Int32) (x3_40 : Int32) (x2_35 : Int32) (x4_45 : Int32) (aAround_46 : (Nat → Int32)) : Option ((Int32 × (Nat → Int32)) ⊕ ((Nat → Int32))) :=
  if iRoads ≤ x4_45 then (some (.inr aAround_46)) else ckin ((12 * x3_40) + x2_35) 144 (ckin ((12 * x2_35) + x4_45) 144 (bd (((aAround_46 ((12 * x3_40) + x2_35).toNatClampNeg) + (aAround_46 ((12 * x2_35) + x4_45).toNatClampNeg))) fun x5_52 => ckin ((12 * x3_40) + x4_45) 144 (bnd1 (if (aAround_46 ((12 * x3_40) + x4_45).toNatClampNeg) ≤ x5_52 then (ckin ((12 * x3_40) + x4_45) 144 (some (aAround_46 ((12 * x3_40) + x4_45).toNatClampNeg))) else some x5_52) fun (y_54 : Int32) => ckin ((12 * x3_40) + x4_45) 144 (bd (upd aAround_46 ((12 * x3_40) + x4_45).toNatClampNeg y_54) fun aAround_59 => bd (x4_45 + 1) fun x4_60 => some (.inl (x4_60, aAround_59))))))
def f8_layAround_b5 (fu : Nat) (iRoads : Int32) (x2_35 : Int32) (x3_40 : Int32) (aAround_41 : (Nat → Int32)) : Option ((Int32 × (Nat → Int32)) ⊕ ((Nat → Int32))) :=
  if iRoads ≤ x3_40 then (some (.inr aAround_41)) else bnd1 (lpG (fun z => f8_layAround_b6 iRoads x3_40 x2_35 z.1 z.2) fu ((0 : Int32), aAround_41)) fun (aAround_47 : (Nat → Int32)) => bd (x3_40 + 1) fun x3_61 => some (.inl (x3_61, aAround_47))
def f8_layAround_b4 (fu : Nat) (iRoads : Int32) (x2_35 : Int32) (aAround_36 : (Nat → Int32)) : Option ((Int32 × (Nat → Int32)) ⊕ ((Nat → Int32))) :=
  if iRoads ≤ x2_35 then (some (.inr aAround_36)) else bnd1 (lpG (fun z => f8_layAround_b5 fu iRoads x2_35 z.1 z.2) fu ((0 : Int32), aAround_36)) fun (aAround_42 : (Nat → Int32)) => bd (x2_35 + 1) fun x2_62 => some (.inl (x2_62, aAround_42))
def f8_layAround (fu : Nat) (aAround : (Nat → Int32)) (iRoads : Int32) (aIsLeft : (Nat → Int32)) (p1 : Int32) (aWorths : (Nat → Int32)) : Option ((Nat → Int32)) :=
  bnd1 (lpG (fun z => f8_layAround_b1 z.1 z.2) fu ((0 : Int32), aAround)) fun (aAround_3 : (Nat → Int32)) => bnd1 (lpG (fun z => f8_layAround_b2 fu iRoads aIsLeft p1 aWorths z.1 z.2) fu ((0 : Int32), aAround_3)) fun (aAround_11 : (Nat → Int32)) => bnd1 (lpG (fun z => f8_layAround_b4 fu iRoads z.1 z.2) fu ((0 : Int32), aAround_11)) fun (aAround_37 : (Nat → Int32)) => some aAround_37
set_option maxHeartbeats 4000000 in
set_option maxRecDepth 100000 in
theorem c_X8_layAround (hq : gJ layM q) {fu : Nat} {p1 : Int32} {o_aAround : (Nat → Int32)} (h : f8_layAround fu aAround iRoads aIsLeft p1 aWorths = some o_aAround) :
    GM l yX8_layAround cX8_layAround 6 none 0 0 D cI cZ layM q [.ref (q 0), .int p1] ([iPageLength, iRoads, iRead, iAltered, iRanked, iStage, iFigures, iNewRoads, iTold, iRouted, iRouteSum], [jH], [aPage, aBeginOf, aEndOf, aLengthOf, aCosts, aRankOf, aRoadAt, aWorths, aMiddles, aLeasts, aBusy, aNewBegin, aNewEnd, aNewLength, aIsLeft, aAround, aWhole, aIsNeeded, aWereRanks, aWaitFrom, aWaitTo, aToldAt, aRisen, aUps, aTried, aRoutes]) none ([iPageLength, iRoads, iRead, iAltered, iRanked, iStage, iFigures, iNewRoads, iTold, iRouted, iRouteSum], [jH], [aPage, aBeginOf, aEndOf, aLengthOf, aCosts, aRankOf, aRoadAt, aWorths, aMiddles, aLeasts, aBusy, aNewBegin, aNewEnd, aNewLength, aIsLeft, o_aAround, aWhole, aIsNeeded, aWereRanks, aWaitFrom, aWaitTo, aToldAt, aRisen, aUps, aTried, aRoutes]) := by
  refine GM.go RX8 (by decide) rfl (Nat.le_of_ble_eq_true rfl) ?_
  intro p e s m args below meth c ls R Q H locs X hr hlk hT hG hl hR hQ
  have hx := X.1
  have hb := X.2.1
  have hl : lv_has ls 6 [(0, .ref (q 0)), (1, .int p1)] := hl
  unfold f8_layAround at h
  refine lv_iconst (v := 0) hx hb dX8_layAround_0 (by decide) ?_
  refine lv_istore_n (lv' := [(2, .int 0), (0, .ref (q 0)), (1, .int p1)]) hx hb dX8_layAround_1 rfl hl (by decide) rfl (fun ls hl => ?_)
  obtain ⟨aAround_3, eL4, h⟩ := bnd1_some h
  have JX4 : ∀ (H : Heap) (locs : List Loc) (ls : Array Slot), GH D cI cZ layM q s ([iPageLength, iRoads, iRead, iAltered, iRanked, iStage, iFigures, iNewRoads, iTold, iRouted, iRouteSum], [jH], [aPage, aBeginOf, aEndOf, aLengthOf, aCosts, aRankOf, aRoadAt, aWorths, aMiddles, aLeasts, aBusy, aNewBegin, aNewEnd, aNewLength, aIsLeft, aAround_3, aWhole, aIsNeeded, aWereRanks, aWaitFrom, aWaitTo, aToldAt, aRisen, aUps, aTried, aRoutes]) H locs → lv_has ls 6 [(0, .ref (q 0)), (1, .int p1)] → W p l e R s m args below meth c H locs 0 0 Q (F0 m 23 ls []) := by
    intro H locs ls hG hl
    refine lv_iconst (v := 0) hx hb dX8_layAround_23 (by decide) ?_
    refine lv_istore_n (lv' := [(2, .int 0), (0, .ref (q 0)), (1, .int p1)]) hx hb dX8_layAround_24 rfl hl (by decide) rfl (fun ls hl => ?_)
    obtain ⟨aAround_11, eL12, h⟩ := bnd1_some h
    have JX12 : ∀ (H : Heap) (locs : List Loc) (ls : Array Slot), GH D cI cZ layM q s ([iPageLength, iRoads, iRead, iAltered, iRanked, iStage, iFigures, iNewRoads, iTold, iRouted, iRouteSum], [jH], [aPage, aBeginOf, aEndOf, aLengthOf, aCosts, aRankOf, aRoadAt, aWorths, aMiddles, aLeasts, aBusy, aNewBegin, aNewEnd, aNewLength, aIsLeft, aAround_11, aWhole, aIsNeeded, aWereRanks, aWaitFrom, aWaitTo, aToldAt, aRisen, aUps, aTried, aRoutes]) H locs → lv_has ls 6 [(0, .ref (q 0))] → W p l e R s m args below meth c H locs 0 0 Q (F0 m 122 ls []) := by
      intro H locs ls hG hl
      refine lv_iconst (v := 0) hx hb dX8_layAround_122 (by decide) ?_
      refine lv_istore_n (lv' := [(2, .int 0), (0, .ref (q 0))]) hx hb dX8_layAround_123 rfl hl (by decide) rfl (fun ls hl => ?_)
      obtain ⟨aAround_37, eL38, h⟩ := bnd1_some h
      have JX38 : ∀ (H : Heap) (locs : List Loc) (ls : Array Slot), GH D cI cZ layM q s ([iPageLength, iRoads, iRead, iAltered, iRanked, iStage, iFigures, iNewRoads, iTold, iRouted, iRouteSum], [jH], [aPage, aBeginOf, aEndOf, aLengthOf, aCosts, aRankOf, aRoadAt, aWorths, aMiddles, aLeasts, aBusy, aNewBegin, aNewEnd, aNewLength, aIsLeft, aAround_37, aWhole, aIsNeeded, aWereRanks, aWaitFrom, aWaitTo, aToldAt, aRisen, aUps, aTried, aRoutes]) H locs → lv_has ls 6 [] → W p l e R s m args below meth c H locs 0 0 Q (F0 m 244 ls []) := by
        intro H locs ls hG hl
        cases h
        rw [hQ]
        exact g_vret X hT hG hr hlk dX8_layAround_244
      refine lpG_W (Wh := fun z => ∀ (H : Heap) (locs : List Loc) (ls : Array Slot), GH D cI cZ layM q s ([iPageLength, iRoads, iRead, iAltered, iRanked, iStage, iFigures, iNewRoads, iTold, iRouted, iRouteSum], [jH], [aPage, aBeginOf, aEndOf, aLengthOf, aCosts, aRankOf, aRoadAt, aWorths, aMiddles, aLeasts, aBusy, aNewBegin, aNewEnd, aNewLength, aIsLeft, z.2, aWhole, aIsNeeded, aWereRanks, aWaitFrom, aWaitTo, aToldAt, aRisen, aUps, aTried, aRoutes]) H locs → lv_has ls 6 [(0, .ref (q 0)), (2, .int (z.1))] → W p l e R s m args below meth c H locs 0 0 Q (F0 m 124 ls [])) ?_ fu _ eL38 H locs ls hG (lv_sub hl [1, 0] rfl)
      intro z rr38 hb38 hin38 hout38
      obtain ⟨x2_35, aAround_36⟩ := z
      intro H locs ls hG hl
      have hb38 : f8_layAround_b4 fu iRoads x2_35 aAround_36 = some rr38 := hb38
      have hG : GH D cI cZ layM q s ([iPageLength, iRoads, iRead, iAltered, iRanked, iStage, iFigures, iNewRoads, iTold, iRouted, iRouteSum], [jH], [aPage, aBeginOf, aEndOf, aLengthOf, aCosts, aRankOf, aRoadAt, aWorths, aMiddles, aLeasts, aBusy, aNewBegin, aNewEnd, aNewLength, aIsLeft, aAround_36, aWhole, aIsNeeded, aWereRanks, aWaitFrom, aWaitTo, aToldAt, aRisen, aUps, aTried, aRoutes]) H locs := hG
      have hl : lv_has ls 6 [(0, .ref (q 0)), (2, .int x2_35)] := hl
      unfold f8_layAround_b4 at hb38
      refine lv_iload_n hx hb dX8_layAround_124 rfl (lv_at hl 1 rfl) ?_
      refine lv_aload_n hx hb dX8_layAround_125 rfl (lv_at hl 0 rfl) ?_
      refine g_get (v := .int iRoads) X hT hG fl_X8_120 0 rfl rfl rfl dX8_layAround_126 ?_
      refine lv_icmp_ge (tgt := 244) hx hb dX8_layAround_129 (by decide) (fun cb39 => ?_) (fun cb39 => ?_)
      · have hb38 := ite_t cb39 hb38
        have eo := hout38 _ (Option.some.inj hb38).symm
        cases eo
        exact JX38 H locs ls hG (lv_sub hl [] rfl)
      · have hb38 := ite_f cb39 hb38
        refine lv_iconst (v := 0) hx hb dX8_layAround_132 (by decide) ?_
        refine lv_istore_n (lv' := [(3, .int 0), (0, .ref (q 0)), (2, .int x2_35)]) hx hb dX8_layAround_133 rfl hl (by decide) rfl (fun ls hl => ?_)
        obtain ⟨aAround_42, eL43, hb38⟩ := bnd1_some hb38
        have JX43 : ∀ (H : Heap) (locs : List Loc) (ls : Array Slot), GH D cI cZ layM q s ([iPageLength, iRoads, iRead, iAltered, iRanked, iStage, iFigures, iNewRoads, iTold, iRouted, iRouteSum], [jH], [aPage, aBeginOf, aEndOf, aLengthOf, aCosts, aRankOf, aRoadAt, aWorths, aMiddles, aLeasts, aBusy, aNewBegin, aNewEnd, aNewLength, aIsLeft, aAround_42, aWhole, aIsNeeded, aWereRanks, aWaitFrom, aWaitTo, aToldAt, aRisen, aUps, aTried, aRoutes]) H locs → lv_has ls 6 [(0, .ref (q 0)), (2, .int x2_35)] → W p l e R s m args below meth c H locs 0 0 Q (F0 m 238 ls []) := by
          intro H locs ls hG hl
          obtain ⟨x2_62, ex2_62⟩ : ∃ z : Int32, z = x2_35 + 1 := ⟨_, rfl⟩
          have hb38 := bd_e ex2_62 hb38
          refine lv_iinc (v := x2_62) (lv' := [(2, .int x2_62), (0, .ref (q 0))]) hx hb dX8_layAround_238 hl (k := 1) rfl (by rw [ex2_62]; rfl) (by decide) rfl (fun ls hl => ?_)
          refine lv_goto (tgt := 124) hx hb dX8_layAround_241 (by decide) ?_
          exact hin38 _ (Option.some.inj hb38).symm H locs ls hG (lv_sub hl [1, 0] rfl)
        refine lpG_W (Wh := fun z => ∀ (H : Heap) (locs : List Loc) (ls : Array Slot), GH D cI cZ layM q s ([iPageLength, iRoads, iRead, iAltered, iRanked, iStage, iFigures, iNewRoads, iTold, iRouted, iRouteSum], [jH], [aPage, aBeginOf, aEndOf, aLengthOf, aCosts, aRankOf, aRoadAt, aWorths, aMiddles, aLeasts, aBusy, aNewBegin, aNewEnd, aNewLength, aIsLeft, z.2, aWhole, aIsNeeded, aWereRanks, aWaitFrom, aWaitTo, aToldAt, aRisen, aUps, aTried, aRoutes]) H locs → lv_has ls 6 [(0, .ref (q 0)), (2, .int x2_35), (3, .int (z.1))] → W p l e R s m args below meth c H locs 0 0 Q (F0 m 134 ls [])) ?_ fu _ eL43 H locs ls hG (lv_sub hl [1, 2, 0] rfl)
        intro z rr43 hb43 hin43 hout43
        obtain ⟨x3_40, aAround_41⟩ := z
        intro H locs ls hG hl
        have hb43 : f8_layAround_b5 fu iRoads x2_35 x3_40 aAround_41 = some rr43 := hb43
        have hG : GH D cI cZ layM q s ([iPageLength, iRoads, iRead, iAltered, iRanked, iStage, iFigures, iNewRoads, iTold, iRouted, iRouteSum], [jH], [aPage, aBeginOf, aEndOf, aLengthOf, aCosts, aRankOf, aRoadAt, aWorths, aMiddles, aLeasts, aBusy, aNewBegin, aNewEnd, aNewLength, aIsLeft, aAround_41, aWhole, aIsNeeded, aWereRanks, aWaitFrom, aWaitTo, aToldAt, aRisen, aUps, aTried, aRoutes]) H locs := hG
        have hl : lv_has ls 6 [(0, .ref (q 0)), (2, .int x2_35), (3, .int x3_40)] := hl
        unfold f8_layAround_b5 at hb43
        refine lv_iload_n hx hb dX8_layAround_134 rfl (lv_at hl 2 rfl) ?_
        refine lv_aload_n hx hb dX8_layAround_135 rfl (lv_at hl 0 rfl) ?_
        refine g_get (v := .int iRoads) X hT hG fl_X8_120 0 rfl rfl rfl dX8_layAround_136 ?_
        refine lv_icmp_ge (tgt := 238) hx hb dX8_layAround_139 (by decide) (fun cb44 => ?_) (fun cb44 => ?_)
        · have hb43 := ite_t cb44 hb43
          have eo := hout43 _ (Option.some.inj hb43).symm
          cases eo
          exact JX43 H locs ls hG (lv_sub hl [0, 1] rfl)
        · have hb43 := ite_f cb44 hb43
          refine lv_iconst (v := 0) hx hb dX8_layAround_142 (by decide) ?_
          refine lv_istore (lv' := [(4, .int 0), (0, .ref (q 0)), (2, .int x2_35), (3, .int x3_40)]) hx hb dX8_layAround_143 hl (by decide) rfl (fun ls hl => ?_)
          obtain ⟨aAround_47, eL48, hb43⟩ := bnd1_some hb43
          have JX48 : ∀ (H : Heap) (locs : List Loc) (ls : Array Slot), GH D cI cZ layM q s ([iPageLength, iRoads, iRead, iAltered, iRanked, iStage, iFigures, iNewRoads, iTold, iRouted, iRouteSum], [jH], [aPage, aBeginOf, aEndOf, aLengthOf, aCosts, aRankOf, aRoadAt, aWorths, aMiddles, aLeasts, aBusy, aNewBegin, aNewEnd, aNewLength, aIsLeft, aAround_47, aWhole, aIsNeeded, aWereRanks, aWaitFrom, aWaitTo, aToldAt, aRisen, aUps, aTried, aRoutes]) H locs → lv_has ls 6 [(0, .ref (q 0)), (2, .int x2_35), (3, .int x3_40)] → W p l e R s m args below meth c H locs 0 0 Q (F0 m 232 ls []) := by
            intro H locs ls hG hl
            obtain ⟨x3_61, ex3_61⟩ : ∃ z : Int32, z = x3_40 + 1 := ⟨_, rfl⟩
            have hb43 := bd_e ex3_61 hb43
            refine lv_iinc (v := x3_61) (lv' := [(3, .int x3_61), (0, .ref (q 0)), (2, .int x2_35)]) hx hb dX8_layAround_232 hl (k := 2) rfl (by rw [ex3_61]; rfl) (by decide) rfl (fun ls hl => ?_)
            refine lv_goto (tgt := 134) hx hb dX8_layAround_235 (by decide) ?_
            exact hin43 _ (Option.some.inj hb43).symm H locs ls hG (lv_sub hl [1, 2, 0] rfl)
          refine lpG_W (Wh := fun z => ∀ (H : Heap) (locs : List Loc) (ls : Array Slot), GH D cI cZ layM q s ([iPageLength, iRoads, iRead, iAltered, iRanked, iStage, iFigures, iNewRoads, iTold, iRouted, iRouteSum], [jH], [aPage, aBeginOf, aEndOf, aLengthOf, aCosts, aRankOf, aRoadAt, aWorths, aMiddles, aLeasts, aBusy, aNewBegin, aNewEnd, aNewLength, aIsLeft, z.2, aWhole, aIsNeeded, aWereRanks, aWaitFrom, aWaitTo, aToldAt, aRisen, aUps, aTried, aRoutes]) H locs → lv_has ls 6 [(0, .ref (q 0)), (2, .int x2_35), (3, .int x3_40), (4, .int (z.1))] → W p l e R s m args below meth c H locs 0 0 Q (F0 m 145 ls [])) ?_ fu _ eL48 H locs ls hG (lv_sub hl [1, 2, 3, 0] rfl)
          intro z rr48 hb48 hin48 hout48
          obtain ⟨x4_45, aAround_46⟩ := z
          intro H locs ls hG hl
          have hb48 : f8_layAround_b6 iRoads x3_40 x2_35 x4_45 aAround_46 = some rr48 := hb48
          have hG : GH D cI cZ layM q s ([iPageLength, iRoads, iRead, iAltered, iRanked, iStage, iFigures, iNewRoads, iTold, iRouted, iRouteSum], [jH], [aPage, aBeginOf, aEndOf, aLengthOf, aCosts, aRankOf, aRoadAt, aWorths, aMiddles, aLeasts, aBusy, aNewBegin, aNewEnd, aNewLength, aIsLeft, aAround_46, aWhole, aIsNeeded, aWereRanks, aWaitFrom, aWaitTo, aToldAt, aRisen, aUps, aTried, aRoutes]) H locs := hG
          have hl : lv_has ls 6 [(0, .ref (q 0)), (2, .int x2_35), (3, .int x3_40), (4, .int x4_45)] := hl
          unfold f8_layAround_b6 at hb48
          refine lv_iload hx hb dX8_layAround_145 (lv_at hl 3 rfl) ?_
          refine lv_aload_n hx hb dX8_layAround_147 rfl (lv_at hl 0 rfl) ?_
          refine g_get (v := .int iRoads) X hT hG fl_X8_120 0 rfl rfl rfl dX8_layAround_148 ?_
          refine lv_icmp_ge (tgt := 232) hx hb dX8_layAround_151 (by decide) (fun cb49 => ?_) (fun cb49 => ?_)
          · have hb48 := ite_t cb49 hb48
            have eo := hout48 _ (Option.some.inj hb48).symm
            cases eo
            exact JX48 H locs ls hG (lv_sub hl [0, 1, 2] rfl)
          · have hb48 := ite_f cb49 hb48
            refine lv_aload_n hx hb dX8_layAround_154 rfl (lv_at hl 0 rfl) ?_
            refine g_get (v := .ref (q 16)) X hT hG fl_X8_56 0 rfl rfl rfl dX8_layAround_155 ?_
            refine lv_bipush (v := 12) hx hb dX8_layAround_158 (by decide) ?_
            refine lv_iload_n hx hb dX8_layAround_160 rfl (lv_at hl 2 rfl) ?_
            refine lv_imul hx hb dX8_layAround_161 ?_
            refine lv_iload_n hx hb dX8_layAround_162 rfl (lv_at hl 1 rfl) ?_
            refine lv_iadd hx hb dX8_layAround_163 ?_
            obtain ⟨hi50, hb48⟩ := ckin_some hb48
            refine g_ald (f := aAround_46) X hT hG 16 rfl rfl hi50 dX8_layAround_164 ?_
            refine lv_aload_n hx hb dX8_layAround_165 rfl (lv_at hl 0 rfl) ?_
            refine g_get (v := .ref (q 16)) X hT hG fl_X8_56 0 rfl rfl rfl dX8_layAround_166 ?_
            refine lv_bipush (v := 12) hx hb dX8_layAround_169 (by decide) ?_
            refine lv_iload_n hx hb dX8_layAround_171 rfl (lv_at hl 1 rfl) ?_
            refine lv_imul hx hb dX8_layAround_172 ?_
            refine lv_iload hx hb dX8_layAround_173 (lv_at hl 3 rfl) ?_
            refine lv_iadd hx hb dX8_layAround_175 ?_
            obtain ⟨hi51, hb48⟩ := ckin_some hb48
            refine g_ald (f := aAround_46) X hT hG 16 rfl rfl hi51 dX8_layAround_176 ?_
            refine lv_iadd hx hb dX8_layAround_177 ?_
            refine lv_topi (fun x5_52 ex5_52 => ?_)
            have hb48 := bd_e ex5_52 hb48
            refine lv_istore (lv' := [(5, .int x5_52), (0, .ref (q 0)), (2, .int x2_35), (3, .int x3_40), (4, .int x4_45)]) hx hb dX8_layAround_178 hl (by decide) rfl (fun ls hl => ?_)
            refine lv_aload_n hx hb dX8_layAround_180 rfl (lv_at hl 1 rfl) ?_
            refine g_get (v := .ref (q 16)) X hT hG fl_X8_56 0 rfl rfl rfl dX8_layAround_181 ?_
            refine lv_bipush (v := 12) hx hb dX8_layAround_184 (by decide) ?_
            refine lv_iload_n hx hb dX8_layAround_186 rfl (lv_at hl 3 rfl) ?_
            refine lv_imul hx hb dX8_layAround_187 ?_
            refine lv_iload hx hb dX8_layAround_188 (lv_at hl 4 rfl) ?_
            refine lv_iadd hx hb dX8_layAround_190 ?_
            refine lv_iload hx hb dX8_layAround_191 (lv_at hl 0 rfl) ?_
            refine lv_aload_n hx hb dX8_layAround_193 rfl (lv_at hl 1 rfl) ?_
            refine g_get (v := .ref (q 16)) X hT hG fl_X8_56 0 rfl rfl rfl dX8_layAround_194 ?_
            refine lv_bipush (v := 12) hx hb dX8_layAround_197 (by decide) ?_
            refine lv_iload_n hx hb dX8_layAround_199 rfl (lv_at hl 3 rfl) ?_
            refine lv_imul hx hb dX8_layAround_200 ?_
            refine lv_iload hx hb dX8_layAround_201 (lv_at hl 4 rfl) ?_
            refine lv_iadd hx hb dX8_layAround_203 ?_
            obtain ⟨hi53, hb48⟩ := ckin_some hb48
            refine g_ald (f := aAround_46) X hT hG 16 rfl rfl hi53 dX8_layAround_204 ?_
            obtain ⟨y_54, er55, hb48⟩ := bnd1_some hb48
            have J55 : ∀ (H : Heap) (locs : List Loc) (ls : Array Slot), GH D cI cZ layM q s ([iPageLength, iRoads, iRead, iAltered, iRanked, iStage, iFigures, iNewRoads, iTold, iRouted, iRouteSum], [jH], [aPage, aBeginOf, aEndOf, aLengthOf, aCosts, aRankOf, aRoadAt, aWorths, aMiddles, aLeasts, aBusy, aNewBegin, aNewEnd, aNewLength, aIsLeft, aAround_46, aWhole, aIsNeeded, aWereRanks, aWaitFrom, aWaitTo, aToldAt, aRisen, aUps, aTried, aRoutes]) H locs → lv_has ls 6 [(0, .ref (q 0)), (2, .int x2_35), (3, .int x3_40), (4, .int x4_45)] → W p l e R s m args below meth c H locs 0 0 Q (F0 m 225 ls [.int y_54, .int ((12 * x3_40) + x4_45), .ref (q 16)]) := by
              intro H locs ls hG hl
              obtain ⟨hi58, hb48⟩ := ckin_some hb48
              obtain ⟨aAround_59, eaAround_59⟩ : ∃ z : Nat → Int32, z = upd aAround_46 ((12 * x3_40) + x4_45).toNatClampNeg y_54 := ⟨_, rfl⟩
              have hb48 := bd_e eaAround_59 hb48
              refine g_ast (w' := ([iPageLength, iRoads, iRead, iAltered, iRanked, iStage, iFigures, iNewRoads, iTold, iRouted, iRouteSum], [jH], [aPage, aBeginOf, aEndOf, aLengthOf, aCosts, aRankOf, aRoadAt, aWorths, aMiddles, aLeasts, aBusy, aNewBegin, aNewEnd, aNewLength, aIsLeft, aAround_59, aWhole, aIsNeeded, aWereRanks, aWaitFrom, aWaitTo, aToldAt, aRisen, aUps, aTried, aRoutes])) X hT hq hG 16 rfl ga_M_aAround (Nat.le_of_ble_eq_true rfl) hi58 (by subst eaAround_59; rfl) dX8_layAround_225 (fun H locs hG => ?_)
              obtain ⟨x4_60, ex4_60⟩ : ∃ z : Int32, z = x4_45 + 1 := ⟨_, rfl⟩
              have hb48 := bd_e ex4_60 hb48
              refine lv_iinc (v := x4_60) (lv' := [(4, .int x4_60), (0, .ref (q 0)), (2, .int x2_35), (3, .int x3_40)]) hx hb dX8_layAround_226 hl (k := 3) rfl (by rw [ex4_60]; rfl) (by decide) rfl (fun ls hl => ?_)
              refine lv_goto (tgt := 145) hx hb dX8_layAround_229 (by decide) ?_
              exact hin48 _ (Option.some.inj hb48).symm H locs ls hG (lv_sub hl [1, 2, 3, 0] rfl)
            refine lv_icmp_ge (tgt := 213) hx hb dX8_layAround_205 (by decide) (fun cb56 => ?_) (fun cb56 => ?_)
            · have er55 := ite_t cb56 er55
              refine lv_aload_n hx hb dX8_layAround_213 rfl (lv_at hl 1 rfl) ?_
              refine g_get (v := .ref (q 16)) X hT hG fl_X8_56 0 rfl rfl rfl dX8_layAround_214 ?_
              refine lv_bipush (v := 12) hx hb dX8_layAround_217 (by decide) ?_
              refine lv_iload_n hx hb dX8_layAround_219 rfl (lv_at hl 3 rfl) ?_
              refine lv_imul hx hb dX8_layAround_220 ?_
              refine lv_iload hx hb dX8_layAround_221 (lv_at hl 4 rfl) ?_
              refine lv_iadd hx hb dX8_layAround_223 ?_
              obtain ⟨hi57, er55⟩ := ckin_some er55
              refine g_ald (f := aAround_46) X hT hG 16 rfl rfl hi57 dX8_layAround_224 ?_
              cases er55
              exact J55 H locs ls hG (lv_sub hl [1, 2, 3, 4] rfl)
            · have er55 := ite_f cb56 er55
              refine lv_iload hx hb dX8_layAround_208 (lv_at hl 0 rfl) ?_
              refine lv_goto (tgt := 225) hx hb dX8_layAround_210 (by decide) ?_
              cases er55
              exact J55 H locs ls hG (lv_sub hl [1, 2, 3, 4] rfl)
    refine lpG_W (Wh := fun z => ∀ (H : Heap) (locs : List Loc) (ls : Array Slot), GH D cI cZ layM q s ([iPageLength, iRoads, iRead, iAltered, iRanked, iStage, iFigures, iNewRoads, iTold, iRouted, iRouteSum], [jH], [aPage, aBeginOf, aEndOf, aLengthOf, aCosts, aRankOf, aRoadAt, aWorths, aMiddles, aLeasts, aBusy, aNewBegin, aNewEnd, aNewLength, aIsLeft, z.2, aWhole, aIsNeeded, aWereRanks, aWaitFrom, aWaitTo, aToldAt, aRisen, aUps, aTried, aRoutes]) H locs → lv_has ls 6 [(0, .ref (q 0)), (1, .int p1), (2, .int (z.1))] → W p l e R s m args below meth c H locs 0 0 Q (F0 m 25 ls [])) ?_ fu _ eL12 H locs ls hG (lv_sub hl [1, 2, 0] rfl)
    intro z rr12 hb12 hin12 hout12
    obtain ⟨x2_9, aAround_10⟩ := z
    intro H locs ls hG hl
    have hb12 : f8_layAround_b2 fu iRoads aIsLeft p1 aWorths x2_9 aAround_10 = some rr12 := hb12
    have hG : GH D cI cZ layM q s ([iPageLength, iRoads, iRead, iAltered, iRanked, iStage, iFigures, iNewRoads, iTold, iRouted, iRouteSum], [jH], [aPage, aBeginOf, aEndOf, aLengthOf, aCosts, aRankOf, aRoadAt, aWorths, aMiddles, aLeasts, aBusy, aNewBegin, aNewEnd, aNewLength, aIsLeft, aAround_10, aWhole, aIsNeeded, aWereRanks, aWaitFrom, aWaitTo, aToldAt, aRisen, aUps, aTried, aRoutes]) H locs := hG
    have hl : lv_has ls 6 [(0, .ref (q 0)), (1, .int p1), (2, .int x2_9)] := hl
    unfold f8_layAround_b2 at hb12
    refine lv_iload_n hx hb dX8_layAround_25 rfl (lv_at hl 2 rfl) ?_
    refine lv_aload_n hx hb dX8_layAround_26 rfl (lv_at hl 0 rfl) ?_
    refine g_get (v := .int iRoads) X hT hG fl_X8_120 0 rfl rfl rfl dX8_layAround_27 ?_
    refine lv_icmp_ge (tgt := 122) hx hb dX8_layAround_30 (by decide) (fun cb13 => ?_) (fun cb13 => ?_)
    · have hb12 := ite_t cb13 hb12
      have eo := hout12 _ (Option.some.inj hb12).symm
      cases eo
      exact JX12 H locs ls hG (lv_sub hl [0] rfl)
    · have hb12 := ite_f cb13 hb12
      refine lv_iconst (v := 0) hx hb dX8_layAround_33 (by decide) ?_
      refine lv_istore_n (lv' := [(3, .int 0), (0, .ref (q 0)), (1, .int p1), (2, .int x2_9)]) hx hb dX8_layAround_34 rfl hl (by decide) rfl (fun ls hl => ?_)
      obtain ⟨aAround_16, eL17, hb12⟩ := bnd1_some hb12
      have JX17 : ∀ (H : Heap) (locs : List Loc) (ls : Array Slot), GH D cI cZ layM q s ([iPageLength, iRoads, iRead, iAltered, iRanked, iStage, iFigures, iNewRoads, iTold, iRouted, iRouteSum], [jH], [aPage, aBeginOf, aEndOf, aLengthOf, aCosts, aRankOf, aRoadAt, aWorths, aMiddles, aLeasts, aBusy, aNewBegin, aNewEnd, aNewLength, aIsLeft, aAround_16, aWhole, aIsNeeded, aWereRanks, aWaitFrom, aWaitTo, aToldAt, aRisen, aUps, aTried, aRoutes]) H locs → lv_has ls 6 [(0, .ref (q 0)), (1, .int p1), (2, .int x2_9)] → W p l e R s m args below meth c H locs 0 0 Q (F0 m 116 ls []) := by
        intro H locs ls hG hl
        obtain ⟨x2_34, ex2_34⟩ : ∃ z : Int32, z = x2_9 + 1 := ⟨_, rfl⟩
        have hb12 := bd_e ex2_34 hb12
        refine lv_iinc (v := x2_34) (lv' := [(2, .int x2_34), (0, .ref (q 0)), (1, .int p1)]) hx hb dX8_layAround_116 hl (k := 2) rfl (by rw [ex2_34]; rfl) (by decide) rfl (fun ls hl => ?_)
        refine lv_goto (tgt := 25) hx hb dX8_layAround_119 (by decide) ?_
        exact hin12 _ (Option.some.inj hb12).symm H locs ls hG (lv_sub hl [1, 2, 0] rfl)
      refine lpG_W (Wh := fun z => ∀ (H : Heap) (locs : List Loc) (ls : Array Slot), GH D cI cZ layM q s ([iPageLength, iRoads, iRead, iAltered, iRanked, iStage, iFigures, iNewRoads, iTold, iRouted, iRouteSum], [jH], [aPage, aBeginOf, aEndOf, aLengthOf, aCosts, aRankOf, aRoadAt, aWorths, aMiddles, aLeasts, aBusy, aNewBegin, aNewEnd, aNewLength, aIsLeft, z.2, aWhole, aIsNeeded, aWereRanks, aWaitFrom, aWaitTo, aToldAt, aRisen, aUps, aTried, aRoutes]) H locs → lv_has ls 6 [(0, .ref (q 0)), (1, .int p1), (2, .int x2_9), (3, .int (z.1))] → W p l e R s m args below meth c H locs 0 0 Q (F0 m 35 ls [])) ?_ fu _ eL17 H locs ls hG (lv_sub hl [1, 2, 3, 0] rfl)
      intro z rr17 hb17 hin17 hout17
      obtain ⟨x3_14, aAround_15⟩ := z
      intro H locs ls hG hl
      have hb17 : f8_layAround_b3 iRoads x2_9 aIsLeft p1 aWorths x3_14 aAround_15 = some rr17 := hb17
      have hG : GH D cI cZ layM q s ([iPageLength, iRoads, iRead, iAltered, iRanked, iStage, iFigures, iNewRoads, iTold, iRouted, iRouteSum], [jH], [aPage, aBeginOf, aEndOf, aLengthOf, aCosts, aRankOf, aRoadAt, aWorths, aMiddles, aLeasts, aBusy, aNewBegin, aNewEnd, aNewLength, aIsLeft, aAround_15, aWhole, aIsNeeded, aWereRanks, aWaitFrom, aWaitTo, aToldAt, aRisen, aUps, aTried, aRoutes]) H locs := hG
      have hl : lv_has ls 6 [(0, .ref (q 0)), (1, .int p1), (2, .int x2_9), (3, .int x3_14)] := hl
      unfold f8_layAround_b3 at hb17
      refine lv_iload_n hx hb dX8_layAround_35 rfl (lv_at hl 3 rfl) ?_
      refine lv_aload_n hx hb dX8_layAround_36 rfl (lv_at hl 0 rfl) ?_
      refine g_get (v := .int iRoads) X hT hG fl_X8_120 0 rfl rfl rfl dX8_layAround_37 ?_
      refine lv_icmp_ge (tgt := 116) hx hb dX8_layAround_40 (by decide) (fun cb18 => ?_) (fun cb18 => ?_)
      · have hb17 := ite_t cb18 hb17
        have eo := hout17 _ (Option.some.inj hb17).symm
        cases eo
        exact JX17 H locs ls hG (lv_sub hl [0, 1, 2] rfl)
      · have hb17 := ite_f cb18 hb17
        refine lv_aload_n hx hb dX8_layAround_43 rfl (lv_at hl 0 rfl) ?_
        refine g_get (v := .ref (q 15)) X hT hG fl_X8_52 0 rfl rfl rfl dX8_layAround_44 ?_
        refine lv_iload_n hx hb dX8_layAround_47 rfl (lv_at hl 2 rfl) ?_
        obtain ⟨hi19, hb17⟩ := ckin_some hb17
        refine g_zald (f := aIsLeft) X hT hG 15 rfl rfl hi19 dX8_layAround_48 ?_
        obtain ⟨y_20, er21, hb17⟩ := bnd1_some hb17
        have J21 : ∀ (H : Heap) (locs : List Loc) (ls : Array Slot), GH D cI cZ layM q s ([iPageLength, iRoads, iRead, iAltered, iRanked, iStage, iFigures, iNewRoads, iTold, iRouted, iRouteSum], [jH], [aPage, aBeginOf, aEndOf, aLengthOf, aCosts, aRankOf, aRoadAt, aWorths, aMiddles, aLeasts, aBusy, aNewBegin, aNewEnd, aNewLength, aIsLeft, aAround_15, aWhole, aIsNeeded, aWereRanks, aWaitFrom, aWaitTo, aToldAt, aRisen, aUps, aTried, aRoutes]) H locs → lv_has ls 6 [(0, .ref (q 0)), (1, .int p1), (2, .int x2_9), (3, .int x3_14)] → W p l e R s m args below meth c H locs 0 0 Q (F0 m 76 ls [.int y_20]) := by
          intro H locs ls hG hl
          refine lv_istore (lv' := [(4, .int y_20), (0, .ref (q 0)), (1, .int p1), (2, .int x2_9), (3, .int x3_14)]) hx hb dX8_layAround_76 hl (by decide) rfl (fun ls hl => ?_)
          refine lv_aload_n hx hb dX8_layAround_78 rfl (lv_at hl 1 rfl) ?_
          refine g_get (v := .ref (q 16)) X hT hG fl_X8_56 0 rfl rfl rfl dX8_layAround_79 ?_
          refine lv_bipush (v := 12) hx hb dX8_layAround_82 (by decide) ?_
          refine lv_iload_n hx hb dX8_layAround_84 rfl (lv_at hl 3 rfl) ?_
          refine lv_imul hx hb dX8_layAround_85 ?_
          refine lv_iload_n hx hb dX8_layAround_86 rfl (lv_at hl 4 rfl) ?_
          refine lv_iadd hx hb dX8_layAround_87 ?_
          refine lv_iload hx hb dX8_layAround_88 (lv_at hl 0 rfl) ?_
          obtain ⟨y_27, er28, hb17⟩ := bnd1_some hb17
          have J28 : ∀ (H : Heap) (locs : List Loc) (ls : Array Slot), GH D cI cZ layM q s ([iPageLength, iRoads, iRead, iAltered, iRanked, iStage, iFigures, iNewRoads, iTold, iRouted, iRouteSum], [jH], [aPage, aBeginOf, aEndOf, aLengthOf, aCosts, aRankOf, aRoadAt, aWorths, aMiddles, aLeasts, aBusy, aNewBegin, aNewEnd, aNewLength, aIsLeft, aAround_15, aWhole, aIsNeeded, aWereRanks, aWaitFrom, aWaitTo, aToldAt, aRisen, aUps, aTried, aRoutes]) H locs → lv_has ls 6 [(0, .ref (q 0)), (1, .int p1), (2, .int x2_9), (3, .int x3_14)] → W p l e R s m args below meth c H locs 0 0 Q (F0 m 109 ls [.int y_27, .int ((12 * x2_9) + x3_14), .ref (q 16)]) := by
            intro H locs ls hG hl
            obtain ⟨hi31, hb17⟩ := ckin_some hb17
            obtain ⟨aAround_32, eaAround_32⟩ : ∃ z : Nat → Int32, z = upd aAround_15 ((12 * x2_9) + x3_14).toNatClampNeg y_27 := ⟨_, rfl⟩
            have hb17 := bd_e eaAround_32 hb17
            refine g_ast (w' := ([iPageLength, iRoads, iRead, iAltered, iRanked, iStage, iFigures, iNewRoads, iTold, iRouted, iRouteSum], [jH], [aPage, aBeginOf, aEndOf, aLengthOf, aCosts, aRankOf, aRoadAt, aWorths, aMiddles, aLeasts, aBusy, aNewBegin, aNewEnd, aNewLength, aIsLeft, aAround_32, aWhole, aIsNeeded, aWereRanks, aWaitFrom, aWaitTo, aToldAt, aRisen, aUps, aTried, aRoutes])) X hT hq hG 16 rfl ga_M_aAround (Nat.le_of_ble_eq_true rfl) hi31 (by subst eaAround_32; rfl) dX8_layAround_109 (fun H locs hG => ?_)
            obtain ⟨x3_33, ex3_33⟩ : ∃ z : Int32, z = x3_14 + 1 := ⟨_, rfl⟩
            have hb17 := bd_e ex3_33 hb17
            refine lv_iinc (v := x3_33) (lv' := [(3, .int x3_33), (0, .ref (q 0)), (1, .int p1), (2, .int x2_9)]) hx hb dX8_layAround_110 hl (k := 3) rfl (by rw [ex3_33]; rfl) (by decide) rfl (fun ls hl => ?_)
            refine lv_goto (tgt := 35) hx hb dX8_layAround_113 (by decide) ?_
            exact hin17 _ (Option.some.inj hb17).symm H locs ls hG (lv_sub hl [1, 2, 3, 0] rfl)
          refine lv_if_eq (tgt := 107) hx hb dX8_layAround_90 (by decide) (fun cb29 => ?_) (fun cb29 => ?_)
          · have er28 := ite_t cb29 er28
            refine lv_ldc (v := 268435456) hx hb X.2.2.2.1 (X.2.2.2.2 _ cn_X8_136) dX8_layAround_107 ?_
            cases er28
            exact J28 H locs ls hG (lv_sub hl [1, 2, 3, 4] rfl)
          · have er28 := ite_f cb29 er28
            refine lv_aload_n hx hb dX8_layAround_93 rfl (lv_at hl 1 rfl) ?_
            refine g_get (v := .ref (q 8)) X hT hG fl_X8_31 0 rfl rfl rfl dX8_layAround_94 ?_
            refine lv_bipush (v := 12) hx hb dX8_layAround_97 (by decide) ?_
            refine lv_iload_n hx hb dX8_layAround_99 rfl (lv_at hl 3 rfl) ?_
            refine lv_imul hx hb dX8_layAround_100 ?_
            refine lv_iload_n hx hb dX8_layAround_101 rfl (lv_at hl 4 rfl) ?_
            refine lv_iadd hx hb dX8_layAround_102 ?_
            obtain ⟨hi30, er28⟩ := ckin_some er28
            refine g_ald (f := aWorths) X hT hG 8 rfl rfl hi30 dX8_layAround_103 ?_
            refine lv_goto (tgt := 109) hx hb dX8_layAround_104 (by decide) ?_
            cases er28
            exact J28 H locs ls hG (lv_sub hl [1, 2, 3, 4] rfl)
        refine lv_if_eq (tgt := 75) hx hb dX8_layAround_49 (by decide) (fun cb22 => ?_) (fun cb22 => ?_)
        · have er21 := ite_t cb22 er21
          refine lv_iconst (v := 0) hx hb dX8_layAround_75 (by decide) ?_
          cases er21
          exact J21 H locs ls hG (lv_sub hl [0, 1, 2, 3] rfl)
        · have er21 := ite_f cb22 er21
          refine lv_aload_n hx hb dX8_layAround_52 rfl (lv_at hl 0 rfl) ?_
          refine g_get (v := .ref (q 15)) X hT hG fl_X8_52 0 rfl rfl rfl dX8_layAround_53 ?_
          refine lv_iload_n hx hb dX8_layAround_56 rfl (lv_at hl 3 rfl) ?_
          obtain ⟨hi23, er21⟩ := ckin_some er21
          refine g_zald (f := aIsLeft) X hT hG 15 rfl rfl hi23 dX8_layAround_57 ?_
          refine lv_if_eq (tgt := 75) hx hb dX8_layAround_58 (by decide) (fun cb24 => ?_) (fun cb24 => ?_)
          · have er21 := ite_t cb24 er21
            refine lv_iconst (v := 0) hx hb dX8_layAround_75 (by decide) ?_
            cases er21
            exact J21 H locs ls hG (lv_sub hl [0, 1, 2, 3] rfl)
          · have er21 := ite_f cb24 er21
            refine lv_iload_n hx hb dX8_layAround_61 rfl (lv_at hl 2 rfl) ?_
            refine lv_iload_n hx hb dX8_layAround_62 rfl (lv_at hl 1 rfl) ?_
            refine lv_icmp_eq (tgt := 75) hx hb dX8_layAround_63 (by decide) (fun cb25 => ?_) (fun cb25 => ?_)
            · have er21 := ite_t cb25 er21
              refine lv_iconst (v := 0) hx hb dX8_layAround_75 (by decide) ?_
              cases er21
              exact J21 H locs ls hG (lv_sub hl [0, 1, 2, 3] rfl)
            · have er21 := ite_f cb25 er21
              refine lv_iload_n hx hb dX8_layAround_66 rfl (lv_at hl 3 rfl) ?_
              refine lv_iload_n hx hb dX8_layAround_67 rfl (lv_at hl 1 rfl) ?_
              refine lv_icmp_eq (tgt := 75) hx hb dX8_layAround_68 (by decide) (fun cb26 => ?_) (fun cb26 => ?_)
              · have er21 := ite_t cb26 er21
                refine lv_iconst (v := 0) hx hb dX8_layAround_75 (by decide) ?_
                cases er21
                exact J21 H locs ls hG (lv_sub hl [0, 1, 2, 3] rfl)
              · have er21 := ite_f cb26 er21
                refine lv_iconst (v := 1) hx hb dX8_layAround_71 (by decide) ?_
                refine lv_goto (tgt := 76) hx hb dX8_layAround_72 (by decide) ?_
                cases er21
                exact J21 H locs ls hG (lv_sub hl [0, 1, 2, 3] rfl)
  refine lpG_W (Wh := fun z => ∀ (H : Heap) (locs : List Loc) (ls : Array Slot), GH D cI cZ layM q s ([iPageLength, iRoads, iRead, iAltered, iRanked, iStage, iFigures, iNewRoads, iTold, iRouted, iRouteSum], [jH], [aPage, aBeginOf, aEndOf, aLengthOf, aCosts, aRankOf, aRoadAt, aWorths, aMiddles, aLeasts, aBusy, aNewBegin, aNewEnd, aNewLength, aIsLeft, z.2, aWhole, aIsNeeded, aWereRanks, aWaitFrom, aWaitTo, aToldAt, aRisen, aUps, aTried, aRoutes]) H locs → lv_has ls 6 [(0, .ref (q 0)), (1, .int p1), (2, .int (z.1))] → W p l e R s m args below meth c H locs 0 0 Q (F0 m 2 ls [])) ?_ fu _ eL4 H locs ls hG (lv_sub hl [1, 2, 0] rfl)
  intro z rr4 hb4 hin4 hout4
  obtain ⟨x2_1, aAround_2⟩ := z
  intro H locs ls hG hl
  have hb4 : f8_layAround_b1 x2_1 aAround_2 = some rr4 := hb4
  have hG : GH D cI cZ layM q s ([iPageLength, iRoads, iRead, iAltered, iRanked, iStage, iFigures, iNewRoads, iTold, iRouted, iRouteSum], [jH], [aPage, aBeginOf, aEndOf, aLengthOf, aCosts, aRankOf, aRoadAt, aWorths, aMiddles, aLeasts, aBusy, aNewBegin, aNewEnd, aNewLength, aIsLeft, aAround_2, aWhole, aIsNeeded, aWereRanks, aWaitFrom, aWaitTo, aToldAt, aRisen, aUps, aTried, aRoutes]) H locs := hG
  have hl : lv_has ls 6 [(0, .ref (q 0)), (1, .int p1), (2, .int x2_1)] := hl
  unfold f8_layAround_b1 at hb4
  refine lv_iload_n hx hb dX8_layAround_2 rfl (lv_at hl 2 rfl) ?_
  refine lv_sipush (v := 144) hx hb dX8_layAround_3 (by decide) ?_
  refine lv_icmp_ge (tgt := 23) hx hb dX8_layAround_6 (by decide) (fun cb5 => ?_) (fun cb5 => ?_)
  · have hb4 := ite_t cb5 hb4
    have eo := hout4 _ (Option.some.inj hb4).symm
    cases eo
    exact JX4 H locs ls hG (lv_sub hl [0, 1] rfl)
  · have hb4 := ite_f cb5 hb4
    refine lv_aload_n hx hb dX8_layAround_9 rfl (lv_at hl 0 rfl) ?_
    refine g_get (v := .ref (q 16)) X hT hG fl_X8_56 0 rfl rfl rfl dX8_layAround_10 ?_
    refine lv_iload_n hx hb dX8_layAround_13 rfl (lv_at hl 2 rfl) ?_
    refine lv_ldc (v := 268435456) hx hb X.2.2.2.1 (X.2.2.2.2 _ cn_X8_136) dX8_layAround_14 ?_
    obtain ⟨hi6, hb4⟩ := ckin_some hb4
    obtain ⟨aAround_7, eaAround_7⟩ : ∃ z : Nat → Int32, z = upd aAround_2 x2_1.toNatClampNeg 268435456 := ⟨_, rfl⟩
    have hb4 := bd_e eaAround_7 hb4
    refine g_ast (w' := ([iPageLength, iRoads, iRead, iAltered, iRanked, iStage, iFigures, iNewRoads, iTold, iRouted, iRouteSum], [jH], [aPage, aBeginOf, aEndOf, aLengthOf, aCosts, aRankOf, aRoadAt, aWorths, aMiddles, aLeasts, aBusy, aNewBegin, aNewEnd, aNewLength, aIsLeft, aAround_7, aWhole, aIsNeeded, aWereRanks, aWaitFrom, aWaitTo, aToldAt, aRisen, aUps, aTried, aRoutes])) X hT hq hG 16 rfl ga_M_aAround (Nat.le_of_ble_eq_true rfl) hi6 (by subst eaAround_7; rfl) dX8_layAround_16 (fun H locs hG => ?_)
    obtain ⟨x2_8, ex2_8⟩ : ∃ z : Int32, z = x2_1 + 1 := ⟨_, rfl⟩
    have hb4 := bd_e ex2_8 hb4
    refine lv_iinc (v := x2_8) (lv' := [(2, .int x2_8), (0, .ref (q 0)), (1, .int p1)]) hx hb dX8_layAround_17 hl (k := 2) rfl (by rw [ex2_8]; rfl) (by decide) rfl (fun ls hl => ?_)
    refine lv_goto (tgt := 2) hx hb dX8_layAround_20 (by decide) ?_
    exact hin4 _ (Option.some.inj hb4).symm H locs ls hG (lv_sub hl [1, 2, 0] rfl)
def f8_layNeeds_b1 (aAround_1 : (Nat → Int32)) (x2_3 : Int32) (aWhole_4 : (Nat → Int32)) : Option ((Int32 × (Nat → Int32)) ⊕ ((Nat → Int32))) :=
  if 144 ≤ x2_3 then (some (.inr aWhole_4)) else ckin x2_3 144 (ckin x2_3 144 (bd (upd aWhole_4 x2_3.toNatClampNeg (aAround_1 x2_3.toNatClampNeg)) fun aWhole_10 => bd (x2_3 + 1) fun x2_11 => some (.inl (x2_11, aWhole_10))))
def f8_layNeeds_b3 (iRoads : Int32) (x3_15 : Int32) (p1 : Int32) (aIsLeft : (Nat → Int32)) (aWorths : (Nat → Int32)) (aWhole_5 : (Nat → Int32)) (aAround_12 : (Nat → Int32)) (x2_21 : Int32) (x4_22 : Int32) (aIsNeeded_23 : (Nat → Int32)) : Option ((Int32 × Int32 × (Nat → Int32)) ⊕ (Int32 × (Nat → Int32))) :=
  if iRoads ≤ x4_22 then (some (.inr (x2_21, aIsNeeded_23))) else bnd1 (if x3_15 = x4_22 then (some 0) else if x3_15 = p1 then (some 0) else if x4_22 = p1 then (some 0) else ckin x3_15 12 (if (aIsLeft x3_15.toNatClampNeg) = 0 then (some 0) else ckin x4_22 12 (if (aIsLeft x4_22.toNatClampNeg) = 0 then (some 0) else some 1))) fun (y_28 : Int32) => ckin ((12 * x3_15) + p1) 144 (ckin ((12 * p1) + x4_22) 144 (bd (((aWorths ((12 * x3_15) + p1).toNatClampNeg) + (aWorths ((12 * p1) + x4_22).toNatClampNeg))) fun x6_39 => ckin ((12 * x3_15) + p1) 144 (ckin ((12 * p1) + x4_22) 144 (bnd1 (if ((aWhole_5 ((12 * x3_15) + p1).toNatClampNeg) + (aWhole_5 ((12 * p1) + x4_22).toNatClampNeg)) < x6_39 then (some 0) else ckin ((12 * x3_15) + x4_22) 144 (if (aAround_12 ((12 * x3_15) + x4_22).toNatClampNeg) ≤ x6_39 then (some 0) else some 1)) fun (y_42 : Int32) => bnd1 (if y_28 = 0 then (some 0) else if 268435456 ≤ x6_39 then (some 0) else if y_42 = 0 then (some 0) else some 1) fun (y_47 : Int32) => ckin ((12 * x3_15) + x4_22) 144 (bd (upd aIsNeeded_23 ((12 * x3_15) + x4_22).toNatClampNeg (vp_nar .boolean y_47)) fun aIsNeeded_53 => ckin ((12 * x3_15) + x4_22) 144 (bnd1 (if (aIsNeeded_53 ((12 * x3_15) + x4_22).toNatClampNeg) = 0 then (some 0) else some 1) fun (y_55 : Int32) => bd ((x2_21 + y_55)) fun x2_58 => bd (x4_22 + 1) fun x4_59 => some (.inl (x2_58, x4_59, aIsNeeded_53))))))))
def f8_layNeeds_b2 (fu : Nat) (iRoads : Int32) (p1 : Int32) (aIsLeft : (Nat → Int32)) (aWorths : (Nat → Int32)) (aWhole_5 : (Nat → Int32)) (aAround_12 : (Nat → Int32)) (x2_14 : Int32) (x3_15 : Int32) (aIsNeeded_16 : (Nat → Int32)) : Option ((Int32 × Int32 × (Nat → Int32)) ⊕ (Int32 × (Nat → Int32))) :=
  if iRoads ≤ x3_15 then (some (.inr (x2_14, aIsNeeded_16))) else bnd2 (lpG (fun z => f8_layNeeds_b3 iRoads x3_15 p1 aIsLeft aWorths aWhole_5 aAround_12 z.1 z.2.1 z.2.2) fu (x2_14, (0 : Int32), aIsNeeded_16)) fun (x2_24 : Int32) (aIsNeeded_25 : (Nat → Int32)) => bd (x3_15 + 1) fun x3_60 => some (.inl (x2_24, x3_60, aIsNeeded_25))
def f8_layNeeds (fu : Nat) (aAround : (Nat → Int32)) (iRoads : Int32) (aIsLeft : (Nat → Int32)) (aWorths : (Nat → Int32)) (aWhole : (Nat → Int32)) (p1 : Int32) (aIsNeeded : (Nat → Int32)) : Option (Int32 × (Nat → Int32) × (Nat → Int32) × (Nat → Int32)) :=
  bnd1 (f8_layAround fu aAround iRoads aIsLeft (-1) aWorths) fun (aAround_1 : (Nat → Int32)) => bnd1 (lpG (fun z => f8_layNeeds_b1 aAround_1 z.1 z.2) fu ((0 : Int32), aWhole)) fun (aWhole_5 : (Nat → Int32)) => bnd1 (f8_layAround fu aAround_1 iRoads aIsLeft p1 aWorths) fun (aAround_12 : (Nat → Int32)) => bnd2 (lpG (fun z => f8_layNeeds_b2 fu iRoads p1 aIsLeft aWorths aWhole_5 aAround_12 z.1 z.2.1 z.2.2) fu ((0 : Int32), (0 : Int32), aIsNeeded)) fun (x2_17 : Int32) (aIsNeeded_18 : (Nat → Int32)) => some (x2_17, aAround_12, aWhole_5, aIsNeeded_18)
set_option maxHeartbeats 4000000 in
set_option maxRecDepth 100000 in
theorem c_X8_layNeeds (hq : gJ layM q) {fu : Nat} {p1 : Int32} {o_r : Int32} {o_aAround : (Nat → Int32)} {o_aWhole : (Nat → Int32)} {o_aIsNeeded : (Nat → Int32)} (h : f8_layNeeds fu aAround iRoads aIsLeft aWorths aWhole p1 aIsNeeded = some (o_r, o_aAround, o_aWhole, o_aIsNeeded)) :
    GM l yX8_layNeeds cX8_layNeeds 8 (some .int) 1 25 D cI cZ layM q [.ref (q 0), .int p1] ([iPageLength, iRoads, iRead, iAltered, iRanked, iStage, iFigures, iNewRoads, iTold, iRouted, iRouteSum], [jH], [aPage, aBeginOf, aEndOf, aLengthOf, aCosts, aRankOf, aRoadAt, aWorths, aMiddles, aLeasts, aBusy, aNewBegin, aNewEnd, aNewLength, aIsLeft, aAround, aWhole, aIsNeeded, aWereRanks, aWaitFrom, aWaitTo, aToldAt, aRisen, aUps, aTried, aRoutes]) (some (.int o_r)) ([iPageLength, iRoads, iRead, iAltered, iRanked, iStage, iFigures, iNewRoads, iTold, iRouted, iRouteSum], [jH], [aPage, aBeginOf, aEndOf, aLengthOf, aCosts, aRankOf, aRoadAt, aWorths, aMiddles, aLeasts, aBusy, aNewBegin, aNewEnd, aNewLength, aIsLeft, o_aAround, o_aWhole, o_aIsNeeded, aWereRanks, aWaitFrom, aWaitTo, aToldAt, aRisen, aUps, aTried, aRoutes]) := by
  refine GM.go RX8 (by decide) rfl (Nat.le_of_ble_eq_true rfl) ?_
  intro p e s m args below meth c ls R Q H locs X hr hlk hT hG hl hR hQ
  have hx := X.1
  have hb := X.2.1
  have hl : lv_has ls 8 [(0, .ref (q 0)), (1, .int p1)] := hl
  unfold f8_layNeeds at h
  refine lv_aload_n hx hb dX8_layNeeds_0 rfl (lv_at hl 0 rfl) ?_
  refine lv_iconst (v := (-1)) hx hb dX8_layNeeds_1 (by decide) ?_
  obtain ⟨aAround_1, ec2, h⟩ := bnd1_some h
  refine g_callVv [.int (-1)] [] 0 X hT hG ml_X8_137 (c_X8_layAround hq ec2) rfl rfl rfl rfl rfl hl.1 (Nat.le_of_ble_eq_true rfl) (by rw [hR]; exact ⟨Nat.le_of_ble_eq_true rfl, Nat.le_of_ble_eq_true rfl⟩) dX8_layNeeds_2 (fun H locs hG => ?_)
  have hG : GH D cI cZ layM q s ([iPageLength, iRoads, iRead, iAltered, iRanked, iStage, iFigures, iNewRoads, iTold, iRouted, iRouteSum], [jH], [aPage, aBeginOf, aEndOf, aLengthOf, aCosts, aRankOf, aRoadAt, aWorths, aMiddles, aLeasts, aBusy, aNewBegin, aNewEnd, aNewLength, aIsLeft, aAround_1, aWhole, aIsNeeded, aWereRanks, aWaitFrom, aWaitTo, aToldAt, aRisen, aUps, aTried, aRoutes]) H locs := hG
  refine lv_iconst (v := 0) hx hb dX8_layNeeds_5 (by decide) ?_
  refine lv_istore_n (lv' := [(2, .int 0), (0, .ref (q 0)), (1, .int p1)]) hx hb dX8_layNeeds_6 rfl hl (by decide) rfl (fun ls hl => ?_)
  obtain ⟨aWhole_5, eL6, h⟩ := bnd1_some h
  have JX6 : ∀ (H : Heap) (locs : List Loc) (ls : Array Slot), GH D cI cZ layM q s ([iPageLength, iRoads, iRead, iAltered, iRanked, iStage, iFigures, iNewRoads, iTold, iRouted, iRouteSum], [jH], [aPage, aBeginOf, aEndOf, aLengthOf, aCosts, aRankOf, aRoadAt, aWorths, aMiddles, aLeasts, aBusy, aNewBegin, aNewEnd, aNewLength, aIsLeft, aAround_1, aWhole_5, aIsNeeded, aWereRanks, aWaitFrom, aWaitTo, aToldAt, aRisen, aUps, aTried, aRoutes]) H locs → lv_has ls 8 [(0, .ref (q 0)), (1, .int p1)] → W p l e R s m args below meth c H locs 0 0 Q (F0 m 32 ls []) := by
    intro H locs ls hG hl
    refine lv_aload_n hx hb dX8_layNeeds_32 rfl (lv_at hl 0 rfl) ?_
    refine lv_iload_n hx hb dX8_layNeeds_33 rfl (lv_at hl 1 rfl) ?_
    obtain ⟨aAround_12, ec13, h⟩ := bnd1_some h
    refine g_callVv [.int p1] [] 0 X hT hG ml_X8_137 (c_X8_layAround hq ec13) rfl rfl rfl rfl rfl hl.1 (Nat.le_of_ble_eq_true rfl) (by rw [hR]; exact ⟨Nat.le_of_ble_eq_true rfl, Nat.le_of_ble_eq_true rfl⟩) dX8_layNeeds_34 (fun H locs hG => ?_)
    have hG : GH D cI cZ layM q s ([iPageLength, iRoads, iRead, iAltered, iRanked, iStage, iFigures, iNewRoads, iTold, iRouted, iRouteSum], [jH], [aPage, aBeginOf, aEndOf, aLengthOf, aCosts, aRankOf, aRoadAt, aWorths, aMiddles, aLeasts, aBusy, aNewBegin, aNewEnd, aNewLength, aIsLeft, aAround_12, aWhole_5, aIsNeeded, aWereRanks, aWaitFrom, aWaitTo, aToldAt, aRisen, aUps, aTried, aRoutes]) H locs := hG
    refine lv_iconst (v := 0) hx hb dX8_layNeeds_37 (by decide) ?_
    refine lv_istore_n (lv' := [(2, .int 0), (0, .ref (q 0)), (1, .int p1)]) hx hb dX8_layNeeds_38 rfl hl (by decide) rfl (fun ls hl => ?_)
    refine lv_iconst (v := 0) hx hb dX8_layNeeds_39 (by decide) ?_
    refine lv_istore_n (lv' := [(3, .int 0), (2, .int 0), (0, .ref (q 0)), (1, .int p1)]) hx hb dX8_layNeeds_40 rfl hl (by decide) rfl (fun ls hl => ?_)
    obtain ⟨x2_17, aIsNeeded_18, eL19, h⟩ := bnd2_some h
    have JX19 : ∀ (H : Heap) (locs : List Loc) (ls : Array Slot), GH D cI cZ layM q s ([iPageLength, iRoads, iRead, iAltered, iRanked, iStage, iFigures, iNewRoads, iTold, iRouted, iRouteSum], [jH], [aPage, aBeginOf, aEndOf, aLengthOf, aCosts, aRankOf, aRoadAt, aWorths, aMiddles, aLeasts, aBusy, aNewBegin, aNewEnd, aNewLength, aIsLeft, aAround_12, aWhole_5, aIsNeeded_18, aWereRanks, aWaitFrom, aWaitTo, aToldAt, aRisen, aUps, aTried, aRoutes]) H locs → lv_has ls 8 [(2, .int x2_17)] → W p l e R s m args below meth c H locs 0 0 Q (F0 m 252 ls []) := by
      intro H locs ls hG hl
      refine lv_iload_n hx hb dX8_layNeeds_252 rfl (lv_at hl 0 rfl) ?_
      cases h
      rw [hQ]
      exact g_iret X hT hG hr hlk dX8_layNeeds_253
    refine lpG_W (Wh := fun z => ∀ (H : Heap) (locs : List Loc) (ls : Array Slot), GH D cI cZ layM q s ([iPageLength, iRoads, iRead, iAltered, iRanked, iStage, iFigures, iNewRoads, iTold, iRouted, iRouteSum], [jH], [aPage, aBeginOf, aEndOf, aLengthOf, aCosts, aRankOf, aRoadAt, aWorths, aMiddles, aLeasts, aBusy, aNewBegin, aNewEnd, aNewLength, aIsLeft, aAround_12, aWhole_5, z.2.2, aWereRanks, aWaitFrom, aWaitTo, aToldAt, aRisen, aUps, aTried, aRoutes]) H locs → lv_has ls 8 [(0, .ref (q 0)), (1, .int p1), (2, .int (z.1)), (3, .int (z.2.1))] → W p l e R s m args below meth c H locs 0 0 Q (F0 m 41 ls [])) ?_ fu _ eL19 H locs ls hG (lv_sub hl [2, 3, 1, 0] rfl)
    intro z rr19 hb19 hin19 hout19
    obtain ⟨x2_14, x3_15, aIsNeeded_16⟩ := z
    intro H locs ls hG hl
    have hb19 : f8_layNeeds_b2 fu iRoads p1 aIsLeft aWorths aWhole_5 aAround_12 x2_14 x3_15 aIsNeeded_16 = some rr19 := hb19
    have hG : GH D cI cZ layM q s ([iPageLength, iRoads, iRead, iAltered, iRanked, iStage, iFigures, iNewRoads, iTold, iRouted, iRouteSum], [jH], [aPage, aBeginOf, aEndOf, aLengthOf, aCosts, aRankOf, aRoadAt, aWorths, aMiddles, aLeasts, aBusy, aNewBegin, aNewEnd, aNewLength, aIsLeft, aAround_12, aWhole_5, aIsNeeded_16, aWereRanks, aWaitFrom, aWaitTo, aToldAt, aRisen, aUps, aTried, aRoutes]) H locs := hG
    have hl : lv_has ls 8 [(0, .ref (q 0)), (1, .int p1), (2, .int x2_14), (3, .int x3_15)] := hl
    unfold f8_layNeeds_b2 at hb19
    refine lv_iload_n hx hb dX8_layNeeds_41 rfl (lv_at hl 3 rfl) ?_
    refine lv_aload_n hx hb dX8_layNeeds_42 rfl (lv_at hl 0 rfl) ?_
    refine g_get (v := .int iRoads) X hT hG fl_X8_120 0 rfl rfl rfl dX8_layNeeds_43 ?_
    refine lv_icmp_ge (tgt := 252) hx hb dX8_layNeeds_46 (by decide) (fun cb20 => ?_) (fun cb20 => ?_)
    · have hb19 := ite_t cb20 hb19
      have eo := hout19 _ (Option.some.inj hb19).symm
      cases eo
      exact JX19 H locs ls hG (lv_sub hl [2] rfl)
    · have hb19 := ite_f cb20 hb19
      refine lv_iconst (v := 0) hx hb dX8_layNeeds_49 (by decide) ?_
      refine lv_istore (lv' := [(4, .int 0), (0, .ref (q 0)), (1, .int p1), (2, .int x2_14), (3, .int x3_15)]) hx hb dX8_layNeeds_50 hl (by decide) rfl (fun ls hl => ?_)
      obtain ⟨x2_24, aIsNeeded_25, eL26, hb19⟩ := bnd2_some hb19
      have JX26 : ∀ (H : Heap) (locs : List Loc) (ls : Array Slot), GH D cI cZ layM q s ([iPageLength, iRoads, iRead, iAltered, iRanked, iStage, iFigures, iNewRoads, iTold, iRouted, iRouteSum], [jH], [aPage, aBeginOf, aEndOf, aLengthOf, aCosts, aRankOf, aRoadAt, aWorths, aMiddles, aLeasts, aBusy, aNewBegin, aNewEnd, aNewLength, aIsLeft, aAround_12, aWhole_5, aIsNeeded_25, aWereRanks, aWaitFrom, aWaitTo, aToldAt, aRisen, aUps, aTried, aRoutes]) H locs → lv_has ls 8 [(0, .ref (q 0)), (1, .int p1), (2, .int x2_24), (3, .int x3_15)] → W p l e R s m args below meth c H locs 0 0 Q (F0 m 246 ls []) := by
        intro H locs ls hG hl
        obtain ⟨x3_60, ex3_60⟩ : ∃ z : Int32, z = x3_15 + 1 := ⟨_, rfl⟩
        have hb19 := bd_e ex3_60 hb19
        refine lv_iinc (v := x3_60) (lv' := [(3, .int x3_60), (0, .ref (q 0)), (1, .int p1), (2, .int x2_24)]) hx hb dX8_layNeeds_246 hl (k := 3) rfl (by rw [ex3_60]; rfl) (by decide) rfl (fun ls hl => ?_)
        refine lv_goto (tgt := 41) hx hb dX8_layNeeds_249 (by decide) ?_
        exact hin19 _ (Option.some.inj hb19).symm H locs ls hG (lv_sub hl [1, 2, 3, 0] rfl)
      refine lpG_W (Wh := fun z => ∀ (H : Heap) (locs : List Loc) (ls : Array Slot), GH D cI cZ layM q s ([iPageLength, iRoads, iRead, iAltered, iRanked, iStage, iFigures, iNewRoads, iTold, iRouted, iRouteSum], [jH], [aPage, aBeginOf, aEndOf, aLengthOf, aCosts, aRankOf, aRoadAt, aWorths, aMiddles, aLeasts, aBusy, aNewBegin, aNewEnd, aNewLength, aIsLeft, aAround_12, aWhole_5, z.2.2, aWereRanks, aWaitFrom, aWaitTo, aToldAt, aRisen, aUps, aTried, aRoutes]) H locs → lv_has ls 8 [(0, .ref (q 0)), (1, .int p1), (2, .int (z.1)), (3, .int x3_15), (4, .int (z.2.1))] → W p l e R s m args below meth c H locs 0 0 Q (F0 m 52 ls [])) ?_ fu _ eL26 H locs ls hG (lv_sub hl [1, 2, 3, 4, 0] rfl)
      intro z rr26 hb26 hin26 hout26
      obtain ⟨x2_21, x4_22, aIsNeeded_23⟩ := z
      intro H locs ls hG hl
      have hb26 : f8_layNeeds_b3 iRoads x3_15 p1 aIsLeft aWorths aWhole_5 aAround_12 x2_21 x4_22 aIsNeeded_23 = some rr26 := hb26
      have hG : GH D cI cZ layM q s ([iPageLength, iRoads, iRead, iAltered, iRanked, iStage, iFigures, iNewRoads, iTold, iRouted, iRouteSum], [jH], [aPage, aBeginOf, aEndOf, aLengthOf, aCosts, aRankOf, aRoadAt, aWorths, aMiddles, aLeasts, aBusy, aNewBegin, aNewEnd, aNewLength, aIsLeft, aAround_12, aWhole_5, aIsNeeded_23, aWereRanks, aWaitFrom, aWaitTo, aToldAt, aRisen, aUps, aTried, aRoutes]) H locs := hG
      have hl : lv_has ls 8 [(0, .ref (q 0)), (1, .int p1), (2, .int x2_21), (3, .int x3_15), (4, .int x4_22)] := hl
      unfold f8_layNeeds_b3 at hb26
      refine lv_iload hx hb dX8_layNeeds_52 (lv_at hl 4 rfl) ?_
      refine lv_aload_n hx hb dX8_layNeeds_54 rfl (lv_at hl 0 rfl) ?_
      refine g_get (v := .int iRoads) X hT hG fl_X8_120 0 rfl rfl rfl dX8_layNeeds_55 ?_
      refine lv_icmp_ge (tgt := 246) hx hb dX8_layNeeds_58 (by decide) (fun cb27 => ?_) (fun cb27 => ?_)
      · have hb26 := ite_t cb27 hb26
        have eo := hout26 _ (Option.some.inj hb26).symm
        cases eo
        exact JX26 H locs ls hG (lv_sub hl [0, 1, 2, 3] rfl)
      · have hb26 := ite_f cb27 hb26
        refine lv_iload_n hx hb dX8_layNeeds_61 rfl (lv_at hl 3 rfl) ?_
        refine lv_iload hx hb dX8_layNeeds_62 (lv_at hl 4 rfl) ?_
        obtain ⟨y_28, er29, hb26⟩ := bnd1_some hb26
        have J29 : ∀ (H : Heap) (locs : List Loc) (ls : Array Slot), GH D cI cZ layM q s ([iPageLength, iRoads, iRead, iAltered, iRanked, iStage, iFigures, iNewRoads, iTold, iRouted, iRouteSum], [jH], [aPage, aBeginOf, aEndOf, aLengthOf, aCosts, aRankOf, aRoadAt, aWorths, aMiddles, aLeasts, aBusy, aNewBegin, aNewEnd, aNewLength, aIsLeft, aAround_12, aWhole_5, aIsNeeded_23, aWereRanks, aWaitFrom, aWaitTo, aToldAt, aRisen, aUps, aTried, aRoutes]) H locs → lv_has ls 8 [(0, .ref (q 0)), (1, .int p1), (2, .int x2_21), (3, .int x3_15), (4, .int x4_22)] → W p l e R s m args below meth c H locs 0 0 Q (F0 m 102 ls [.int y_28]) := by
          intro H locs ls hG hl
          refine lv_istore (lv' := [(5, .int y_28), (0, .ref (q 0)), (1, .int p1), (2, .int x2_21), (3, .int x3_15), (4, .int x4_22)]) hx hb dX8_layNeeds_102 hl (by decide) rfl (fun ls hl => ?_)
          refine lv_aload_n hx hb dX8_layNeeds_104 rfl (lv_at hl 1 rfl) ?_
          refine g_get (v := .ref (q 8)) X hT hG fl_X8_31 0 rfl rfl rfl dX8_layNeeds_105 ?_
          refine lv_bipush (v := 12) hx hb dX8_layNeeds_108 (by decide) ?_
          refine lv_iload_n hx hb dX8_layNeeds_110 rfl (lv_at hl 4 rfl) ?_
          refine lv_imul hx hb dX8_layNeeds_111 ?_
          refine lv_iload_n hx hb dX8_layNeeds_112 rfl (lv_at hl 2 rfl) ?_
          refine lv_iadd hx hb dX8_layNeeds_113 ?_
          obtain ⟨hi37, hb26⟩ := ckin_some hb26
          refine g_ald (f := aWorths) X hT hG 8 rfl rfl hi37 dX8_layNeeds_114 ?_
          refine lv_aload_n hx hb dX8_layNeeds_115 rfl (lv_at hl 1 rfl) ?_
          refine g_get (v := .ref (q 8)) X hT hG fl_X8_31 0 rfl rfl rfl dX8_layNeeds_116 ?_
          refine lv_bipush (v := 12) hx hb dX8_layNeeds_119 (by decide) ?_
          refine lv_iload_n hx hb dX8_layNeeds_121 rfl (lv_at hl 2 rfl) ?_
          refine lv_imul hx hb dX8_layNeeds_122 ?_
          refine lv_iload hx hb dX8_layNeeds_123 (lv_at hl 5 rfl) ?_
          refine lv_iadd hx hb dX8_layNeeds_125 ?_
          obtain ⟨hi38, hb26⟩ := ckin_some hb26
          refine g_ald (f := aWorths) X hT hG 8 rfl rfl hi38 dX8_layNeeds_126 ?_
          refine lv_iadd hx hb dX8_layNeeds_127 ?_
          refine lv_topi (fun x6_39 ex6_39 => ?_)
          have hb26 := bd_e ex6_39 hb26
          refine lv_istore (lv' := [(6, .int x6_39), (5, .int y_28), (0, .ref (q 0)), (1, .int p1), (2, .int x2_21), (3, .int x3_15), (4, .int x4_22)]) hx hb dX8_layNeeds_128 hl (by decide) rfl (fun ls hl => ?_)
          refine lv_aload_n hx hb dX8_layNeeds_130 rfl (lv_at hl 2 rfl) ?_
          refine g_get (v := .ref (q 17)) X hT hG fl_X8_59 0 rfl rfl rfl dX8_layNeeds_131 ?_
          refine lv_bipush (v := 12) hx hb dX8_layNeeds_134 (by decide) ?_
          refine lv_iload_n hx hb dX8_layNeeds_136 rfl (lv_at hl 5 rfl) ?_
          refine lv_imul hx hb dX8_layNeeds_137 ?_
          refine lv_iload_n hx hb dX8_layNeeds_138 rfl (lv_at hl 3 rfl) ?_
          refine lv_iadd hx hb dX8_layNeeds_139 ?_
          obtain ⟨hi40, hb26⟩ := ckin_some hb26
          refine g_ald (f := aWhole_5) X hT hG 17 rfl rfl hi40 dX8_layNeeds_140 ?_
          refine lv_aload_n hx hb dX8_layNeeds_141 rfl (lv_at hl 2 rfl) ?_
          refine g_get (v := .ref (q 17)) X hT hG fl_X8_59 0 rfl rfl rfl dX8_layNeeds_142 ?_
          refine lv_bipush (v := 12) hx hb dX8_layNeeds_145 (by decide) ?_
          refine lv_iload_n hx hb dX8_layNeeds_147 rfl (lv_at hl 3 rfl) ?_
          refine lv_imul hx hb dX8_layNeeds_148 ?_
          refine lv_iload hx hb dX8_layNeeds_149 (lv_at hl 6 rfl) ?_
          refine lv_iadd hx hb dX8_layNeeds_151 ?_
          obtain ⟨hi41, hb26⟩ := ckin_some hb26
          refine g_ald (f := aWhole_5) X hT hG 17 rfl rfl hi41 dX8_layNeeds_152 ?_
          refine lv_iadd hx hb dX8_layNeeds_153 ?_
          refine lv_iload hx hb dX8_layNeeds_154 (lv_at hl 0 rfl) ?_
          obtain ⟨y_42, er43, hb26⟩ := bnd1_some hb26
          have J43 : ∀ (H : Heap) (locs : List Loc) (ls : Array Slot), GH D cI cZ layM q s ([iPageLength, iRoads, iRead, iAltered, iRanked, iStage, iFigures, iNewRoads, iTold, iRouted, iRouteSum], [jH], [aPage, aBeginOf, aEndOf, aLengthOf, aCosts, aRankOf, aRoadAt, aWorths, aMiddles, aLeasts, aBusy, aNewBegin, aNewEnd, aNewLength, aIsLeft, aAround_12, aWhole_5, aIsNeeded_23, aWereRanks, aWaitFrom, aWaitTo, aToldAt, aRisen, aUps, aTried, aRoutes]) H locs → lv_has ls 8 [(0, .ref (q 0)), (1, .int p1), (2, .int x2_21), (3, .int x3_15), (4, .int x4_22), (5, .int y_28), (6, .int x6_39)] → W p l e R s m args below meth c H locs 0 0 Q (F0 m 181 ls [.int y_42]) := by
            intro H locs ls hG hl
            refine lv_istore (lv' := [(7, .int y_42), (0, .ref (q 0)), (1, .int p1), (2, .int x2_21), (3, .int x3_15), (4, .int x4_22), (5, .int y_28), (6, .int x6_39)]) hx hb dX8_layNeeds_181 hl (by decide) rfl (fun ls hl => ?_)
            refine lv_aload_n hx hb dX8_layNeeds_183 rfl (lv_at hl 1 rfl) ?_
            refine g_get (v := .ref (q 18)) X hT hG fl_X8_62 0 rfl rfl rfl dX8_layNeeds_184 ?_
            refine lv_bipush (v := 12) hx hb dX8_layNeeds_187 (by decide) ?_
            refine lv_iload_n hx hb dX8_layNeeds_189 rfl (lv_at hl 4 rfl) ?_
            refine lv_imul hx hb dX8_layNeeds_190 ?_
            refine lv_iload hx hb dX8_layNeeds_191 (lv_at hl 5 rfl) ?_
            refine lv_iadd hx hb dX8_layNeeds_193 ?_
            refine lv_iload hx hb dX8_layNeeds_194 (lv_at hl 6 rfl) ?_
            obtain ⟨y_47, er48, hb26⟩ := bnd1_some hb26
            have J48 : ∀ (H : Heap) (locs : List Loc) (ls : Array Slot), GH D cI cZ layM q s ([iPageLength, iRoads, iRead, iAltered, iRanked, iStage, iFigures, iNewRoads, iTold, iRouted, iRouteSum], [jH], [aPage, aBeginOf, aEndOf, aLengthOf, aCosts, aRankOf, aRoadAt, aWorths, aMiddles, aLeasts, aBusy, aNewBegin, aNewEnd, aNewLength, aIsLeft, aAround_12, aWhole_5, aIsNeeded_23, aWereRanks, aWaitFrom, aWaitTo, aToldAt, aRisen, aUps, aTried, aRoutes]) H locs → lv_has ls 8 [(0, .ref (q 0)), (1, .int p1), (2, .int x2_21), (3, .int x3_15), (4, .int x4_22)] → W p l e R s m args below meth c H locs 0 0 Q (F0 m 216 ls [.int y_47, .int ((12 * x3_15) + x4_22), .ref (q 18)]) := by
              intro H locs ls hG hl
              obtain ⟨hi52, hb26⟩ := ckin_some hb26
              obtain ⟨aIsNeeded_53, eaIsNeeded_53⟩ : ∃ z : Nat → Int32, z = upd aIsNeeded_23 ((12 * x3_15) + x4_22).toNatClampNeg (vp_nar .boolean y_47) := ⟨_, rfl⟩
              have hb26 := bd_e eaIsNeeded_53 hb26
              refine g_zast (w' := ([iPageLength, iRoads, iRead, iAltered, iRanked, iStage, iFigures, iNewRoads, iTold, iRouted, iRouteSum], [jH], [aPage, aBeginOf, aEndOf, aLengthOf, aCosts, aRankOf, aRoadAt, aWorths, aMiddles, aLeasts, aBusy, aNewBegin, aNewEnd, aNewLength, aIsLeft, aAround_12, aWhole_5, aIsNeeded_53, aWereRanks, aWaitFrom, aWaitTo, aToldAt, aRisen, aUps, aTried, aRoutes])) X hT hq hG 18 rfl ga_M_aIsNeeded (Nat.le_of_ble_eq_true rfl) hi52 (by subst eaIsNeeded_53; rfl) dX8_layNeeds_216 (fun H locs hG => ?_)
              refine lv_iload_n hx hb dX8_layNeeds_217 rfl (lv_at hl 2 rfl) ?_
              refine lv_aload_n hx hb dX8_layNeeds_218 rfl (lv_at hl 0 rfl) ?_
              refine g_get (v := .ref (q 18)) X hT hG fl_X8_62 0 rfl rfl rfl dX8_layNeeds_219 ?_
              refine lv_bipush (v := 12) hx hb dX8_layNeeds_222 (by decide) ?_
              refine lv_iload_n hx hb dX8_layNeeds_224 rfl (lv_at hl 3 rfl) ?_
              refine lv_imul hx hb dX8_layNeeds_225 ?_
              refine lv_iload hx hb dX8_layNeeds_226 (lv_at hl 4 rfl) ?_
              refine lv_iadd hx hb dX8_layNeeds_228 ?_
              obtain ⟨hi54, hb26⟩ := ckin_some hb26
              refine g_zald (f := aIsNeeded_53) X hT hG 18 rfl rfl hi54 dX8_layNeeds_229 ?_
              obtain ⟨y_55, er56, hb26⟩ := bnd1_some hb26
              have J56 : ∀ (H : Heap) (locs : List Loc) (ls : Array Slot), GH D cI cZ layM q s ([iPageLength, iRoads, iRead, iAltered, iRanked, iStage, iFigures, iNewRoads, iTold, iRouted, iRouteSum], [jH], [aPage, aBeginOf, aEndOf, aLengthOf, aCosts, aRankOf, aRoadAt, aWorths, aMiddles, aLeasts, aBusy, aNewBegin, aNewEnd, aNewLength, aIsLeft, aAround_12, aWhole_5, aIsNeeded_53, aWereRanks, aWaitFrom, aWaitTo, aToldAt, aRisen, aUps, aTried, aRoutes]) H locs → lv_has ls 8 [(0, .ref (q 0)), (1, .int p1), (3, .int x3_15), (4, .int x4_22)] → W p l e R s m args below meth c H locs 0 0 Q (F0 m 238 ls [.int y_55, .int x2_21]) := by
                intro H locs ls hG hl
                refine lv_iadd hx hb dX8_layNeeds_238 ?_
                refine lv_topi (fun x2_58 ex2_58 => ?_)
                have hb26 := bd_e ex2_58 hb26
                refine lv_istore_n (lv' := [(2, .int x2_58), (0, .ref (q 0)), (1, .int p1), (3, .int x3_15), (4, .int x4_22)]) hx hb dX8_layNeeds_239 rfl hl (by decide) rfl (fun ls hl => ?_)
                obtain ⟨x4_59, ex4_59⟩ : ∃ z : Int32, z = x4_22 + 1 := ⟨_, rfl⟩
                have hb26 := bd_e ex4_59 hb26
                refine lv_iinc (v := x4_59) (lv' := [(4, .int x4_59), (2, .int x2_58), (0, .ref (q 0)), (1, .int p1), (3, .int x3_15)]) hx hb dX8_layNeeds_240 hl (k := 4) rfl (by rw [ex4_59]; rfl) (by decide) rfl (fun ls hl => ?_)
                refine lv_goto (tgt := 52) hx hb dX8_layNeeds_243 (by decide) ?_
                exact hin26 _ (Option.some.inj hb26).symm H locs ls hG (lv_sub hl [2, 3, 1, 4, 0] rfl)
              refine lv_if_eq (tgt := 237) hx hb dX8_layNeeds_230 (by decide) (fun cb57 => ?_) (fun cb57 => ?_)
              · have er56 := ite_t cb57 er56
                refine lv_iconst (v := 0) hx hb dX8_layNeeds_237 (by decide) ?_
                cases er56
                exact J56 H locs ls hG (lv_sub hl [0, 1, 3, 4] rfl)
              · have er56 := ite_f cb57 er56
                refine lv_iconst (v := 1) hx hb dX8_layNeeds_233 (by decide) ?_
                refine lv_goto (tgt := 238) hx hb dX8_layNeeds_234 (by decide) ?_
                cases er56
                exact J56 H locs ls hG (lv_sub hl [0, 1, 3, 4] rfl)
            refine lv_if_eq (tgt := 215) hx hb dX8_layNeeds_196 (by decide) (fun cb49 => ?_) (fun cb49 => ?_)
            · have er48 := ite_t cb49 er48
              refine lv_iconst (v := 0) hx hb dX8_layNeeds_215 (by decide) ?_
              cases er48
              exact J48 H locs ls hG (lv_sub hl [1, 2, 3, 4, 5] rfl)
            · have er48 := ite_f cb49 er48
              refine lv_iload hx hb dX8_layNeeds_199 (lv_at hl 7 rfl) ?_
              refine lv_ldc (v := 268435456) hx hb X.2.2.2.1 (X.2.2.2.2 _ cn_X8_136) dX8_layNeeds_201 ?_
              refine lv_icmp_ge (tgt := 215) hx hb dX8_layNeeds_203 (by decide) (fun cb50 => ?_) (fun cb50 => ?_)
              · have er48 := ite_t cb50 er48
                refine lv_iconst (v := 0) hx hb dX8_layNeeds_215 (by decide) ?_
                cases er48
                exact J48 H locs ls hG (lv_sub hl [1, 2, 3, 4, 5] rfl)
              · have er48 := ite_f cb50 er48
                refine lv_iload hx hb dX8_layNeeds_206 (lv_at hl 0 rfl) ?_
                refine lv_if_eq (tgt := 215) hx hb dX8_layNeeds_208 (by decide) (fun cb51 => ?_) (fun cb51 => ?_)
                · have er48 := ite_t cb51 er48
                  refine lv_iconst (v := 0) hx hb dX8_layNeeds_215 (by decide) ?_
                  cases er48
                  exact J48 H locs ls hG (lv_sub hl [1, 2, 3, 4, 5] rfl)
                · have er48 := ite_f cb51 er48
                  refine lv_iconst (v := 1) hx hb dX8_layNeeds_211 (by decide) ?_
                  refine lv_goto (tgt := 216) hx hb dX8_layNeeds_212 (by decide) ?_
                  cases er48
                  exact J48 H locs ls hG (lv_sub hl [1, 2, 3, 4, 5] rfl)
          refine lv_icmp_lt (tgt := 180) hx hb dX8_layNeeds_156 (by decide) (fun cb44 => ?_) (fun cb44 => ?_)
          · have er43 := ite_t cb44 er43
            refine lv_iconst (v := 0) hx hb dX8_layNeeds_180 (by decide) ?_
            cases er43
            exact J43 H locs ls hG (lv_sub hl [2, 3, 4, 5, 6, 1, 0] rfl)
          · have er43 := ite_f cb44 er43
            refine lv_aload_n hx hb dX8_layNeeds_159 rfl (lv_at hl 2 rfl) ?_
            refine g_get (v := .ref (q 16)) X hT hG fl_X8_56 0 rfl rfl rfl dX8_layNeeds_160 ?_
            refine lv_bipush (v := 12) hx hb dX8_layNeeds_163 (by decide) ?_
            refine lv_iload_n hx hb dX8_layNeeds_165 rfl (lv_at hl 5 rfl) ?_
            refine lv_imul hx hb dX8_layNeeds_166 ?_
            refine lv_iload hx hb dX8_layNeeds_167 (lv_at hl 6 rfl) ?_
            refine lv_iadd hx hb dX8_layNeeds_169 ?_
            obtain ⟨hi45, er43⟩ := ckin_some er43
            refine g_ald (f := aAround_12) X hT hG 16 rfl rfl hi45 dX8_layNeeds_170 ?_
            refine lv_iload hx hb dX8_layNeeds_171 (lv_at hl 0 rfl) ?_
            refine lv_icmp_le (tgt := 180) hx hb dX8_layNeeds_173 (by decide) (fun cb46 => ?_) (fun cb46 => ?_)
            · have er43 := ite_t cb46 er43
              refine lv_iconst (v := 0) hx hb dX8_layNeeds_180 (by decide) ?_
              cases er43
              exact J43 H locs ls hG (lv_sub hl [2, 3, 4, 5, 6, 1, 0] rfl)
            · have er43 := ite_f cb46 er43
              refine lv_iconst (v := 1) hx hb dX8_layNeeds_176 (by decide) ?_
              refine lv_goto (tgt := 181) hx hb dX8_layNeeds_177 (by decide) ?_
              cases er43
              exact J43 H locs ls hG (lv_sub hl [2, 3, 4, 5, 6, 1, 0] rfl)
        refine lv_icmp_eq (tgt := 101) hx hb dX8_layNeeds_64 (by decide) (fun cb30 => ?_) (fun cb30 => ?_)
        · have er29 := ite_t cb30 er29
          refine lv_iconst (v := 0) hx hb dX8_layNeeds_101 (by decide) ?_
          cases er29
          exact J29 H locs ls hG (lv_sub hl [0, 1, 2, 3, 4] rfl)
        · have er29 := ite_f cb30 er29
          refine lv_iload_n hx hb dX8_layNeeds_67 rfl (lv_at hl 3 rfl) ?_
          refine lv_iload_n hx hb dX8_layNeeds_68 rfl (lv_at hl 1 rfl) ?_
          refine lv_icmp_eq (tgt := 101) hx hb dX8_layNeeds_69 (by decide) (fun cb31 => ?_) (fun cb31 => ?_)
          · have er29 := ite_t cb31 er29
            refine lv_iconst (v := 0) hx hb dX8_layNeeds_101 (by decide) ?_
            cases er29
            exact J29 H locs ls hG (lv_sub hl [0, 1, 2, 3, 4] rfl)
          · have er29 := ite_f cb31 er29
            refine lv_iload hx hb dX8_layNeeds_72 (lv_at hl 4 rfl) ?_
            refine lv_iload_n hx hb dX8_layNeeds_74 rfl (lv_at hl 1 rfl) ?_
            refine lv_icmp_eq (tgt := 101) hx hb dX8_layNeeds_75 (by decide) (fun cb32 => ?_) (fun cb32 => ?_)
            · have er29 := ite_t cb32 er29
              refine lv_iconst (v := 0) hx hb dX8_layNeeds_101 (by decide) ?_
              cases er29
              exact J29 H locs ls hG (lv_sub hl [0, 1, 2, 3, 4] rfl)
            · have er29 := ite_f cb32 er29
              refine lv_aload_n hx hb dX8_layNeeds_78 rfl (lv_at hl 0 rfl) ?_
              refine g_get (v := .ref (q 15)) X hT hG fl_X8_52 0 rfl rfl rfl dX8_layNeeds_79 ?_
              refine lv_iload_n hx hb dX8_layNeeds_82 rfl (lv_at hl 3 rfl) ?_
              obtain ⟨hi33, er29⟩ := ckin_some er29
              refine g_zald (f := aIsLeft) X hT hG 15 rfl rfl hi33 dX8_layNeeds_83 ?_
              refine lv_if_eq (tgt := 101) hx hb dX8_layNeeds_84 (by decide) (fun cb34 => ?_) (fun cb34 => ?_)
              · have er29 := ite_t cb34 er29
                refine lv_iconst (v := 0) hx hb dX8_layNeeds_101 (by decide) ?_
                cases er29
                exact J29 H locs ls hG (lv_sub hl [0, 1, 2, 3, 4] rfl)
              · have er29 := ite_f cb34 er29
                refine lv_aload_n hx hb dX8_layNeeds_87 rfl (lv_at hl 0 rfl) ?_
                refine g_get (v := .ref (q 15)) X hT hG fl_X8_52 0 rfl rfl rfl dX8_layNeeds_88 ?_
                refine lv_iload hx hb dX8_layNeeds_91 (lv_at hl 4 rfl) ?_
                obtain ⟨hi35, er29⟩ := ckin_some er29
                refine g_zald (f := aIsLeft) X hT hG 15 rfl rfl hi35 dX8_layNeeds_93 ?_
                refine lv_if_eq (tgt := 101) hx hb dX8_layNeeds_94 (by decide) (fun cb36 => ?_) (fun cb36 => ?_)
                · have er29 := ite_t cb36 er29
                  refine lv_iconst (v := 0) hx hb dX8_layNeeds_101 (by decide) ?_
                  cases er29
                  exact J29 H locs ls hG (lv_sub hl [0, 1, 2, 3, 4] rfl)
                · have er29 := ite_f cb36 er29
                  refine lv_iconst (v := 1) hx hb dX8_layNeeds_97 (by decide) ?_
                  refine lv_goto (tgt := 102) hx hb dX8_layNeeds_98 (by decide) ?_
                  cases er29
                  exact J29 H locs ls hG (lv_sub hl [0, 1, 2, 3, 4] rfl)
  refine lpG_W (Wh := fun z => ∀ (H : Heap) (locs : List Loc) (ls : Array Slot), GH D cI cZ layM q s ([iPageLength, iRoads, iRead, iAltered, iRanked, iStage, iFigures, iNewRoads, iTold, iRouted, iRouteSum], [jH], [aPage, aBeginOf, aEndOf, aLengthOf, aCosts, aRankOf, aRoadAt, aWorths, aMiddles, aLeasts, aBusy, aNewBegin, aNewEnd, aNewLength, aIsLeft, aAround_1, z.2, aIsNeeded, aWereRanks, aWaitFrom, aWaitTo, aToldAt, aRisen, aUps, aTried, aRoutes]) H locs → lv_has ls 8 [(0, .ref (q 0)), (1, .int p1), (2, .int (z.1))] → W p l e R s m args below meth c H locs 0 0 Q (F0 m 7 ls [])) ?_ fu _ eL6 H locs ls hG (lv_sub hl [1, 2, 0] rfl)
  intro z rr6 hb6 hin6 hout6
  obtain ⟨x2_3, aWhole_4⟩ := z
  intro H locs ls hG hl
  have hb6 : f8_layNeeds_b1 aAround_1 x2_3 aWhole_4 = some rr6 := hb6
  have hG : GH D cI cZ layM q s ([iPageLength, iRoads, iRead, iAltered, iRanked, iStage, iFigures, iNewRoads, iTold, iRouted, iRouteSum], [jH], [aPage, aBeginOf, aEndOf, aLengthOf, aCosts, aRankOf, aRoadAt, aWorths, aMiddles, aLeasts, aBusy, aNewBegin, aNewEnd, aNewLength, aIsLeft, aAround_1, aWhole_4, aIsNeeded, aWereRanks, aWaitFrom, aWaitTo, aToldAt, aRisen, aUps, aTried, aRoutes]) H locs := hG
  have hl : lv_has ls 8 [(0, .ref (q 0)), (1, .int p1), (2, .int x2_3)] := hl
  unfold f8_layNeeds_b1 at hb6
  refine lv_iload_n hx hb dX8_layNeeds_7 rfl (lv_at hl 2 rfl) ?_
  refine lv_sipush (v := 144) hx hb dX8_layNeeds_8 (by decide) ?_
  refine lv_icmp_ge (tgt := 32) hx hb dX8_layNeeds_11 (by decide) (fun cb7 => ?_) (fun cb7 => ?_)
  · have hb6 := ite_t cb7 hb6
    have eo := hout6 _ (Option.some.inj hb6).symm
    cases eo
    exact JX6 H locs ls hG (lv_sub hl [0, 1] rfl)
  · have hb6 := ite_f cb7 hb6
    refine lv_aload_n hx hb dX8_layNeeds_14 rfl (lv_at hl 0 rfl) ?_
    refine g_get (v := .ref (q 17)) X hT hG fl_X8_59 0 rfl rfl rfl dX8_layNeeds_15 ?_
    refine lv_iload_n hx hb dX8_layNeeds_18 rfl (lv_at hl 2 rfl) ?_
    refine lv_aload_n hx hb dX8_layNeeds_19 rfl (lv_at hl 0 rfl) ?_
    refine g_get (v := .ref (q 16)) X hT hG fl_X8_56 0 rfl rfl rfl dX8_layNeeds_20 ?_
    refine lv_iload_n hx hb dX8_layNeeds_23 rfl (lv_at hl 2 rfl) ?_
    obtain ⟨hi8, hb6⟩ := ckin_some hb6
    refine g_ald (f := aAround_1) X hT hG 16 rfl rfl hi8 dX8_layNeeds_24 ?_
    obtain ⟨hi9, hb6⟩ := ckin_some hb6
    obtain ⟨aWhole_10, eaWhole_10⟩ : ∃ z : Nat → Int32, z = upd aWhole_4 x2_3.toNatClampNeg (aAround_1 x2_3.toNatClampNeg) := ⟨_, rfl⟩
    have hb6 := bd_e eaWhole_10 hb6
    refine g_ast (w' := ([iPageLength, iRoads, iRead, iAltered, iRanked, iStage, iFigures, iNewRoads, iTold, iRouted, iRouteSum], [jH], [aPage, aBeginOf, aEndOf, aLengthOf, aCosts, aRankOf, aRoadAt, aWorths, aMiddles, aLeasts, aBusy, aNewBegin, aNewEnd, aNewLength, aIsLeft, aAround_1, aWhole_10, aIsNeeded, aWereRanks, aWaitFrom, aWaitTo, aToldAt, aRisen, aUps, aTried, aRoutes])) X hT hq hG 17 rfl ga_M_aWhole (Nat.le_of_ble_eq_true rfl) hi9 (by subst eaWhole_10; rfl) dX8_layNeeds_25 (fun H locs hG => ?_)
    obtain ⟨x2_11, ex2_11⟩ : ∃ z : Int32, z = x2_3 + 1 := ⟨_, rfl⟩
    have hb6 := bd_e ex2_11 hb6
    refine lv_iinc (v := x2_11) (lv' := [(2, .int x2_11), (0, .ref (q 0)), (1, .int p1)]) hx hb dX8_layNeeds_26 hl (k := 2) rfl (by rw [ex2_11]; rfl) (by decide) rfl (fun ls hl => ?_)
    refine lv_goto (tgt := 7) hx hb dX8_layNeeds_29 (by decide) ?_
    exact hin6 _ (Option.some.inj hb6).symm H locs ls hG (lv_sub hl [1, 2, 0] rfl)
def f8_arcsAt_b1 (iRoads : Int32) (p1 : Int32) (aIsLeft : (Nat → Int32)) (aWorths : (Nat → Int32)) (x2_1 : Int32) (x3_2 : Int32) : Option ((Int32 × Int32) ⊕ (Int32)) :=
  if iRoads ≤ x3_2 then (some (.inr x2_1)) else bnd1 (if x3_2 = p1 then (some 0) else ckin x3_2 12 (if (aIsLeft x3_2.toNatClampNeg) = 0 then (some 0) else ckin ((12 * x3_2) + p1) 144 (if 268435456 ≤ (aWorths ((12 * x3_2) + p1).toNatClampNeg) then (some 0) else some 1))) fun (y_6 : Int32) => bd ((x2_1 + y_6)) fun x2_13 => bnd1 (if x3_2 = p1 then (some 0) else ckin x3_2 12 (if (aIsLeft x3_2.toNatClampNeg) = 0 then (some 0) else ckin ((12 * p1) + x3_2) 144 (if 268435456 ≤ (aWorths ((12 * p1) + x3_2).toNatClampNeg) then (some 0) else some 1))) fun (y_14 : Int32) => bd ((x2_13 + y_14)) fun x2_21 => bd (x3_2 + 1) fun x3_22 => some (.inl (x2_21, x3_22))
def f8_arcsAt (fu : Nat) (iRoads : Int32) (p1 : Int32) (aIsLeft : (Nat → Int32)) (aWorths : (Nat → Int32)) : Option (Int32) :=
  bnd1 (lpG (fun z => f8_arcsAt_b1 iRoads p1 aIsLeft aWorths z.1 z.2) fu ((0 : Int32), (0 : Int32))) fun (x2_3 : Int32) => some x2_3
set_option maxHeartbeats 4000000 in
set_option maxRecDepth 100000 in
theorem c_X8_arcsAt (hq : gJ layM q) {fu : Nat} {p1 : Int32} {o_r : Int32} (h : f8_arcsAt fu iRoads p1 aIsLeft aWorths = some o_r) :
    GM l yX8_arcsAt cX8_arcsAt 4 (some .int) 0 0 D cI cZ layM q [.ref (q 0), .int p1] ([iPageLength, iRoads, iRead, iAltered, iRanked, iStage, iFigures, iNewRoads, iTold, iRouted, iRouteSum], [jH], [aPage, aBeginOf, aEndOf, aLengthOf, aCosts, aRankOf, aRoadAt, aWorths, aMiddles, aLeasts, aBusy, aNewBegin, aNewEnd, aNewLength, aIsLeft, aAround, aWhole, aIsNeeded, aWereRanks, aWaitFrom, aWaitTo, aToldAt, aRisen, aUps, aTried, aRoutes]) (some (.int o_r)) ([iPageLength, iRoads, iRead, iAltered, iRanked, iStage, iFigures, iNewRoads, iTold, iRouted, iRouteSum], [jH], [aPage, aBeginOf, aEndOf, aLengthOf, aCosts, aRankOf, aRoadAt, aWorths, aMiddles, aLeasts, aBusy, aNewBegin, aNewEnd, aNewLength, aIsLeft, aAround, aWhole, aIsNeeded, aWereRanks, aWaitFrom, aWaitTo, aToldAt, aRisen, aUps, aTried, aRoutes]) := by
  refine GM.go RX8 (by decide) rfl (Nat.le_of_ble_eq_true rfl) ?_
  intro p e s m args below meth c ls R Q H locs X hr hlk hT hG hl hR hQ
  have hx := X.1
  have hb := X.2.1
  have hl : lv_has ls 4 [(0, .ref (q 0)), (1, .int p1)] := hl
  unfold f8_arcsAt at h
  refine lv_iconst (v := 0) hx hb dX8_arcsAt_0 (by decide) ?_
  refine lv_istore_n (lv' := [(2, .int 0), (0, .ref (q 0)), (1, .int p1)]) hx hb dX8_arcsAt_1 rfl hl (by decide) rfl (fun ls hl => ?_)
  refine lv_iconst (v := 0) hx hb dX8_arcsAt_2 (by decide) ?_
  refine lv_istore_n (lv' := [(3, .int 0), (2, .int 0), (0, .ref (q 0)), (1, .int p1)]) hx hb dX8_arcsAt_3 rfl hl (by decide) rfl (fun ls hl => ?_)
  obtain ⟨x2_3, eL4, h⟩ := bnd1_some h
  have JX4 : ∀ (H : Heap) (locs : List Loc) (ls : Array Slot), GH D cI cZ layM q s ([iPageLength, iRoads, iRead, iAltered, iRanked, iStage, iFigures, iNewRoads, iTold, iRouted, iRouteSum], [jH], [aPage, aBeginOf, aEndOf, aLengthOf, aCosts, aRankOf, aRoadAt, aWorths, aMiddles, aLeasts, aBusy, aNewBegin, aNewEnd, aNewLength, aIsLeft, aAround, aWhole, aIsNeeded, aWereRanks, aWaitFrom, aWaitTo, aToldAt, aRisen, aUps, aTried, aRoutes]) H locs → lv_has ls 4 [(2, .int x2_3)] → W p l e R s m args below meth c H locs 0 0 Q (F0 m 94 ls []) := by
    intro H locs ls hG hl
    refine lv_iload_n hx hb dX8_arcsAt_94 rfl (lv_at hl 0 rfl) ?_
    cases h
    rw [hQ]
    exact g_iret X hT hG hr hlk dX8_arcsAt_95
  refine lpG_W (Wh := fun z => ∀ (H : Heap) (locs : List Loc) (ls : Array Slot), GH D cI cZ layM q s ([iPageLength, iRoads, iRead, iAltered, iRanked, iStage, iFigures, iNewRoads, iTold, iRouted, iRouteSum], [jH], [aPage, aBeginOf, aEndOf, aLengthOf, aCosts, aRankOf, aRoadAt, aWorths, aMiddles, aLeasts, aBusy, aNewBegin, aNewEnd, aNewLength, aIsLeft, aAround, aWhole, aIsNeeded, aWereRanks, aWaitFrom, aWaitTo, aToldAt, aRisen, aUps, aTried, aRoutes]) H locs → lv_has ls 4 [(0, .ref (q 0)), (1, .int p1), (2, .int (z.1)), (3, .int (z.2))] → W p l e R s m args below meth c H locs 0 0 Q (F0 m 4 ls [])) ?_ fu _ eL4 H locs ls hG (lv_sub hl [2, 3, 1, 0] rfl)
  intro z rr4 hb4 hin4 hout4
  obtain ⟨x2_1, x3_2⟩ := z
  intro H locs ls hG hl
  have hb4 : f8_arcsAt_b1 iRoads p1 aIsLeft aWorths x2_1 x3_2 = some rr4 := hb4
  have hG : GH D cI cZ layM q s ([iPageLength, iRoads, iRead, iAltered, iRanked, iStage, iFigures, iNewRoads, iTold, iRouted, iRouteSum], [jH], [aPage, aBeginOf, aEndOf, aLengthOf, aCosts, aRankOf, aRoadAt, aWorths, aMiddles, aLeasts, aBusy, aNewBegin, aNewEnd, aNewLength, aIsLeft, aAround, aWhole, aIsNeeded, aWereRanks, aWaitFrom, aWaitTo, aToldAt, aRisen, aUps, aTried, aRoutes]) H locs := hG
  have hl : lv_has ls 4 [(0, .ref (q 0)), (1, .int p1), (2, .int x2_1), (3, .int x3_2)] := hl
  unfold f8_arcsAt_b1 at hb4
  refine lv_iload_n hx hb dX8_arcsAt_4 rfl (lv_at hl 3 rfl) ?_
  refine lv_aload_n hx hb dX8_arcsAt_5 rfl (lv_at hl 0 rfl) ?_
  refine g_get (v := .int iRoads) X hT hG fl_X8_120 0 rfl rfl rfl dX8_arcsAt_6 ?_
  refine lv_icmp_ge (tgt := 94) hx hb dX8_arcsAt_9 (by decide) (fun cb5 => ?_) (fun cb5 => ?_)
  · have hb4 := ite_t cb5 hb4
    have eo := hout4 _ (Option.some.inj hb4).symm
    cases eo
    exact JX4 H locs ls hG (lv_sub hl [2] rfl)
  · have hb4 := ite_f cb5 hb4
    refine lv_iload_n hx hb dX8_arcsAt_12 rfl (lv_at hl 2 rfl) ?_
    refine lv_iload_n hx hb dX8_arcsAt_13 rfl (lv_at hl 3 rfl) ?_
    refine lv_iload_n hx hb dX8_arcsAt_14 rfl (lv_at hl 1 rfl) ?_
    obtain ⟨y_6, er7, hb4⟩ := bnd1_some hb4
    have J7 : ∀ (H : Heap) (locs : List Loc) (ls : Array Slot), GH D cI cZ layM q s ([iPageLength, iRoads, iRead, iAltered, iRanked, iStage, iFigures, iNewRoads, iTold, iRouted, iRouteSum], [jH], [aPage, aBeginOf, aEndOf, aLengthOf, aCosts, aRankOf, aRoadAt, aWorths, aMiddles, aLeasts, aBusy, aNewBegin, aNewEnd, aNewLength, aIsLeft, aAround, aWhole, aIsNeeded, aWereRanks, aWaitFrom, aWaitTo, aToldAt, aRisen, aUps, aTried, aRoutes]) H locs → lv_has ls 4 [(0, .ref (q 0)), (1, .int p1), (3, .int x3_2)] → W p l e R s m args below meth c H locs 0 0 Q (F0 m 48 ls [.int y_6, .int x2_1]) := by
      intro H locs ls hG hl
      refine lv_iadd hx hb dX8_arcsAt_48 ?_
      refine lv_topi (fun x2_13 ex2_13 => ?_)
      have hb4 := bd_e ex2_13 hb4
      refine lv_istore_n (lv' := [(2, .int x2_13), (0, .ref (q 0)), (1, .int p1), (3, .int x3_2)]) hx hb dX8_arcsAt_49 rfl hl (by decide) rfl (fun ls hl => ?_)
      refine lv_iload_n hx hb dX8_arcsAt_50 rfl (lv_at hl 0 rfl) ?_
      refine lv_iload_n hx hb dX8_arcsAt_51 rfl (lv_at hl 3 rfl) ?_
      refine lv_iload_n hx hb dX8_arcsAt_52 rfl (lv_at hl 2 rfl) ?_
      obtain ⟨y_14, er15, hb4⟩ := bnd1_some hb4
      have J15 : ∀ (H : Heap) (locs : List Loc) (ls : Array Slot), GH D cI cZ layM q s ([iPageLength, iRoads, iRead, iAltered, iRanked, iStage, iFigures, iNewRoads, iTold, iRouted, iRouteSum], [jH], [aPage, aBeginOf, aEndOf, aLengthOf, aCosts, aRankOf, aRoadAt, aWorths, aMiddles, aLeasts, aBusy, aNewBegin, aNewEnd, aNewLength, aIsLeft, aAround, aWhole, aIsNeeded, aWereRanks, aWaitFrom, aWaitTo, aToldAt, aRisen, aUps, aTried, aRoutes]) H locs → lv_has ls 4 [(0, .ref (q 0)), (1, .int p1), (3, .int x3_2)] → W p l e R s m args below meth c H locs 0 0 Q (F0 m 86 ls [.int y_14, .int x2_13]) := by
        intro H locs ls hG hl
        refine lv_iadd hx hb dX8_arcsAt_86 ?_
        refine lv_topi (fun x2_21 ex2_21 => ?_)
        have hb4 := bd_e ex2_21 hb4
        refine lv_istore_n (lv' := [(2, .int x2_21), (0, .ref (q 0)), (1, .int p1), (3, .int x3_2)]) hx hb dX8_arcsAt_87 rfl hl (by decide) rfl (fun ls hl => ?_)
        obtain ⟨x3_22, ex3_22⟩ : ∃ z : Int32, z = x3_2 + 1 := ⟨_, rfl⟩
        have hb4 := bd_e ex3_22 hb4
        refine lv_iinc (v := x3_22) (lv' := [(3, .int x3_22), (2, .int x2_21), (0, .ref (q 0)), (1, .int p1)]) hx hb dX8_arcsAt_88 hl (k := 3) rfl (by rw [ex3_22]; rfl) (by decide) rfl (fun ls hl => ?_)
        refine lv_goto (tgt := 4) hx hb dX8_arcsAt_91 (by decide) ?_
        exact hin4 _ (Option.some.inj hb4).symm H locs ls hG (lv_sub hl [2, 3, 1, 0] rfl)
      refine lv_icmp_eq (tgt := 85) hx hb dX8_arcsAt_53 (by decide) (fun cb16 => ?_) (fun cb16 => ?_)
      · have er15 := ite_t cb16 er15
        refine lv_iconst (v := 0) hx hb dX8_arcsAt_85 (by decide) ?_
        cases er15
        exact J15 H locs ls hG (lv_sub hl [1, 2, 3] rfl)
      · have er15 := ite_f cb16 er15
        refine lv_aload_n hx hb dX8_arcsAt_56 rfl (lv_at hl 1 rfl) ?_
        refine g_get (v := .ref (q 15)) X hT hG fl_X8_52 0 rfl rfl rfl dX8_arcsAt_57 ?_
        refine lv_iload_n hx hb dX8_arcsAt_60 rfl (lv_at hl 3 rfl) ?_
        obtain ⟨hi17, er15⟩ := ckin_some er15
        refine g_zald (f := aIsLeft) X hT hG 15 rfl rfl hi17 dX8_arcsAt_61 ?_
        refine lv_if_eq (tgt := 85) hx hb dX8_arcsAt_62 (by decide) (fun cb18 => ?_) (fun cb18 => ?_)
        · have er15 := ite_t cb18 er15
          refine lv_iconst (v := 0) hx hb dX8_arcsAt_85 (by decide) ?_
          cases er15
          exact J15 H locs ls hG (lv_sub hl [1, 2, 3] rfl)
        · have er15 := ite_f cb18 er15
          refine lv_aload_n hx hb dX8_arcsAt_65 rfl (lv_at hl 1 rfl) ?_
          refine g_get (v := .ref (q 8)) X hT hG fl_X8_31 0 rfl rfl rfl dX8_arcsAt_66 ?_
          refine lv_bipush (v := 12) hx hb dX8_arcsAt_69 (by decide) ?_
          refine lv_iload_n hx hb dX8_arcsAt_71 rfl (lv_at hl 2 rfl) ?_
          refine lv_imul hx hb dX8_arcsAt_72 ?_
          refine lv_iload_n hx hb dX8_arcsAt_73 rfl (lv_at hl 3 rfl) ?_
          refine lv_iadd hx hb dX8_arcsAt_74 ?_
          obtain ⟨hi19, er15⟩ := ckin_some er15
          refine g_ald (f := aWorths) X hT hG 8 rfl rfl hi19 dX8_arcsAt_75 ?_
          refine lv_ldc (v := 268435456) hx hb X.2.2.2.1 (X.2.2.2.2 _ cn_X8_136) dX8_arcsAt_76 ?_
          refine lv_icmp_ge (tgt := 85) hx hb dX8_arcsAt_78 (by decide) (fun cb20 => ?_) (fun cb20 => ?_)
          · have er15 := ite_t cb20 er15
            refine lv_iconst (v := 0) hx hb dX8_arcsAt_85 (by decide) ?_
            cases er15
            exact J15 H locs ls hG (lv_sub hl [1, 2, 3] rfl)
          · have er15 := ite_f cb20 er15
            refine lv_iconst (v := 1) hx hb dX8_arcsAt_81 (by decide) ?_
            refine lv_goto (tgt := 86) hx hb dX8_arcsAt_82 (by decide) ?_
            cases er15
            exact J15 H locs ls hG (lv_sub hl [1, 2, 3] rfl)
    refine lv_icmp_eq (tgt := 47) hx hb dX8_arcsAt_15 (by decide) (fun cb8 => ?_) (fun cb8 => ?_)
    · have er7 := ite_t cb8 er7
      refine lv_iconst (v := 0) hx hb dX8_arcsAt_47 (by decide) ?_
      cases er7
      exact J7 H locs ls hG (lv_sub hl [0, 1, 3] rfl)
    · have er7 := ite_f cb8 er7
      refine lv_aload_n hx hb dX8_arcsAt_18 rfl (lv_at hl 0 rfl) ?_
      refine g_get (v := .ref (q 15)) X hT hG fl_X8_52 0 rfl rfl rfl dX8_arcsAt_19 ?_
      refine lv_iload_n hx hb dX8_arcsAt_22 rfl (lv_at hl 3 rfl) ?_
      obtain ⟨hi9, er7⟩ := ckin_some er7
      refine g_zald (f := aIsLeft) X hT hG 15 rfl rfl hi9 dX8_arcsAt_23 ?_
      refine lv_if_eq (tgt := 47) hx hb dX8_arcsAt_24 (by decide) (fun cb10 => ?_) (fun cb10 => ?_)
      · have er7 := ite_t cb10 er7
        refine lv_iconst (v := 0) hx hb dX8_arcsAt_47 (by decide) ?_
        cases er7
        exact J7 H locs ls hG (lv_sub hl [0, 1, 3] rfl)
      · have er7 := ite_f cb10 er7
        refine lv_aload_n hx hb dX8_arcsAt_27 rfl (lv_at hl 0 rfl) ?_
        refine g_get (v := .ref (q 8)) X hT hG fl_X8_31 0 rfl rfl rfl dX8_arcsAt_28 ?_
        refine lv_bipush (v := 12) hx hb dX8_arcsAt_31 (by decide) ?_
        refine lv_iload_n hx hb dX8_arcsAt_33 rfl (lv_at hl 3 rfl) ?_
        refine lv_imul hx hb dX8_arcsAt_34 ?_
        refine lv_iload_n hx hb dX8_arcsAt_35 rfl (lv_at hl 1 rfl) ?_
        refine lv_iadd hx hb dX8_arcsAt_36 ?_
        obtain ⟨hi11, er7⟩ := ckin_some er7
        refine g_ald (f := aWorths) X hT hG 8 rfl rfl hi11 dX8_arcsAt_37 ?_
        refine lv_ldc (v := 268435456) hx hb X.2.2.2.1 (X.2.2.2.2 _ cn_X8_136) dX8_arcsAt_38 ?_
        refine lv_icmp_ge (tgt := 47) hx hb dX8_arcsAt_40 (by decide) (fun cb12 => ?_) (fun cb12 => ?_)
        · have er7 := ite_t cb12 er7
          refine lv_iconst (v := 0) hx hb dX8_arcsAt_47 (by decide) ?_
          cases er7
          exact J7 H locs ls hG (lv_sub hl [0, 1, 3] rfl)
        · have er7 := ite_f cb12 er7
          refine lv_iconst (v := 1) hx hb dX8_arcsAt_43 (by decide) ?_
          refine lv_goto (tgt := 48) hx hb dX8_arcsAt_44 (by decide) ?_
          cases er7
          exact J7 H locs ls hG (lv_sub hl [0, 1, 3] rfl)
def f8_nextRoad_b1 (fu : Nat) (iRoads : Int32) (aIsLeft : (Nat → Int32)) (aWorths : (Nat → Int32)) (x1_1 : Int32) (x2_2 : Int32) (x3_3 : Int32) (aAround_4 : (Nat → Int32)) (aWhole_5 : (Nat → Int32)) (aIsNeeded_6 : (Nat → Int32)) : Option ((Int32 × Int32 × Int32 × (Nat → Int32) × (Nat → Int32) × (Nat → Int32)) ⊕ (Int32 × (Nat → Int32) × (Nat → Int32) × (Nat → Int32))) :=
  if iRoads ≤ x3_3 then (some (.inr (x1_1, aAround_4, aWhole_5, aIsNeeded_6))) else ckin x3_3 12 (bnd5 (if (aIsLeft x3_3.toNatClampNeg) = 0 then (some (x1_1, x2_2, aAround_4, aWhole_5, aIsNeeded_6)) else bnd4 (f8_layNeeds fu aAround_4 iRoads aIsLeft aWorths aWhole_5 x3_3 aIsNeeded_6) fun (r_21 : Int32) (aAround_22 : (Nat → Int32)) (aWhole_23 : (Nat → Int32)) (aIsNeeded_24 : (Nat → Int32)) => bnd1 (f8_arcsAt fu iRoads x3_3 aIsLeft aWorths) fun (r_26 : Int32) => bd ((r_21 - r_26)) fun x4_28 => bnd1 (if x2_2 ≤ x4_28 then (some x1_1) else some x3_3) fun (y_29 : Int32) => bnd1 (if x2_2 ≤ x4_28 then (some x2_2) else some x4_28) fun (y_32 : Int32) => some (y_29, y_32, aAround_22, aWhole_23, aIsNeeded_24)) fun (x1_14 : Int32) (x2_15 : Int32) (aAround_16 : (Nat → Int32)) (aWhole_17 : (Nat → Int32)) (aIsNeeded_18 : (Nat → Int32)) => bd (x3_3 + 1) fun x3_35 => some (.inl (x1_14, x2_15, x3_35, aAround_16, aWhole_17, aIsNeeded_18)))
def f8_nextRoad (fu : Nat) (iRoads : Int32) (aIsLeft : (Nat → Int32)) (aWorths : (Nat → Int32)) (aAround : (Nat → Int32)) (aWhole : (Nat → Int32)) (aIsNeeded : (Nat → Int32)) : Option (Int32 × (Nat → Int32) × (Nat → Int32) × (Nat → Int32)) :=
  bnd4 (lpG (fun z => f8_nextRoad_b1 fu iRoads aIsLeft aWorths z.1 z.2.1 z.2.2.1 z.2.2.2.1 z.2.2.2.2.1 z.2.2.2.2.2) fu (((-1) : Int32), (268435456 : Int32), (0 : Int32), aAround, aWhole, aIsNeeded)) fun (x1_7 : Int32) (aAround_8 : (Nat → Int32)) (aWhole_9 : (Nat → Int32)) (aIsNeeded_10 : (Nat → Int32)) => some (x1_7, aAround_8, aWhole_9, aIsNeeded_10)
set_option maxHeartbeats 4000000 in
set_option maxRecDepth 100000 in
theorem c_X8_nextRoad (hq : gJ layM q) {fu : Nat} {o_r : Int32} {o_aAround : (Nat → Int32)} {o_aWhole : (Nat → Int32)} {o_aIsNeeded : (Nat → Int32)} (h : f8_nextRoad fu iRoads aIsLeft aWorths aAround aWhole aIsNeeded = some (o_r, o_aAround, o_aWhole, o_aIsNeeded)) :
    GM l yX8_nextRoad cX8_nextRoad 5 (some .int) 2 52 D cI cZ layM q [.ref (q 0)] ([iPageLength, iRoads, iRead, iAltered, iRanked, iStage, iFigures, iNewRoads, iTold, iRouted, iRouteSum], [jH], [aPage, aBeginOf, aEndOf, aLengthOf, aCosts, aRankOf, aRoadAt, aWorths, aMiddles, aLeasts, aBusy, aNewBegin, aNewEnd, aNewLength, aIsLeft, aAround, aWhole, aIsNeeded, aWereRanks, aWaitFrom, aWaitTo, aToldAt, aRisen, aUps, aTried, aRoutes]) (some (.int o_r)) ([iPageLength, iRoads, iRead, iAltered, iRanked, iStage, iFigures, iNewRoads, iTold, iRouted, iRouteSum], [jH], [aPage, aBeginOf, aEndOf, aLengthOf, aCosts, aRankOf, aRoadAt, aWorths, aMiddles, aLeasts, aBusy, aNewBegin, aNewEnd, aNewLength, aIsLeft, o_aAround, o_aWhole, o_aIsNeeded, aWereRanks, aWaitFrom, aWaitTo, aToldAt, aRisen, aUps, aTried, aRoutes]) := by
  refine GM.go RX8 (by decide) rfl (Nat.le_of_ble_eq_true rfl) ?_
  intro p e s m args below meth c ls R Q H locs X hr hlk hT hG hl hR hQ
  have hx := X.1
  have hb := X.2.1
  have hl : lv_has ls 5 [(0, .ref (q 0))] := hl
  unfold f8_nextRoad at h
  refine lv_iconst (v := (-1)) hx hb dX8_nextRoad_0 (by decide) ?_
  refine lv_istore_n (lv' := [(1, .int (-1)), (0, .ref (q 0))]) hx hb dX8_nextRoad_1 rfl hl (by decide) rfl (fun ls hl => ?_)
  refine lv_ldc (v := 268435456) hx hb X.2.2.2.1 (X.2.2.2.2 _ cn_X8_136) dX8_nextRoad_2 ?_
  refine lv_istore_n (lv' := [(2, .int 268435456), (1, .int (-1)), (0, .ref (q 0))]) hx hb dX8_nextRoad_4 rfl hl (by decide) rfl (fun ls hl => ?_)
  refine lv_iconst (v := 0) hx hb dX8_nextRoad_5 (by decide) ?_
  refine lv_istore_n (lv' := [(3, .int 0), (2, .int 268435456), (1, .int (-1)), (0, .ref (q 0))]) hx hb dX8_nextRoad_6 rfl hl (by decide) rfl (fun ls hl => ?_)
  obtain ⟨x1_7, aAround_8, aWhole_9, aIsNeeded_10, eL11, h⟩ := bnd4_some h
  have JX11 : ∀ (H : Heap) (locs : List Loc) (ls : Array Slot), GH D cI cZ layM q s ([iPageLength, iRoads, iRead, iAltered, iRanked, iStage, iFigures, iNewRoads, iTold, iRouted, iRouteSum], [jH], [aPage, aBeginOf, aEndOf, aLengthOf, aCosts, aRankOf, aRoadAt, aWorths, aMiddles, aLeasts, aBusy, aNewBegin, aNewEnd, aNewLength, aIsLeft, aAround_8, aWhole_9, aIsNeeded_10, aWereRanks, aWaitFrom, aWaitTo, aToldAt, aRisen, aUps, aTried, aRoutes]) H locs → lv_has ls 5 [(1, .int x1_7)] → W p l e R s m args below meth c H locs 0 0 Q (F0 m 68 ls []) := by
    intro H locs ls hG hl
    refine lv_iload_n hx hb dX8_nextRoad_68 rfl (lv_at hl 0 rfl) ?_
    cases h
    rw [hQ]
    exact g_iret X hT hG hr hlk dX8_nextRoad_69
  refine lpG_W (Wh := fun z => ∀ (H : Heap) (locs : List Loc) (ls : Array Slot), GH D cI cZ layM q s ([iPageLength, iRoads, iRead, iAltered, iRanked, iStage, iFigures, iNewRoads, iTold, iRouted, iRouteSum], [jH], [aPage, aBeginOf, aEndOf, aLengthOf, aCosts, aRankOf, aRoadAt, aWorths, aMiddles, aLeasts, aBusy, aNewBegin, aNewEnd, aNewLength, aIsLeft, z.2.2.2.1, z.2.2.2.2.1, z.2.2.2.2.2, aWereRanks, aWaitFrom, aWaitTo, aToldAt, aRisen, aUps, aTried, aRoutes]) H locs → lv_has ls 5 [(0, .ref (q 0)), (1, .int (z.1)), (2, .int (z.2.1)), (3, .int (z.2.2.1))] → W p l e R s m args below meth c H locs 0 0 Q (F0 m 7 ls [])) ?_ fu _ eL11 H locs ls hG (lv_sub hl [3, 2, 1, 0] rfl)
  intro z rr11 hb11 hin11 hout11
  obtain ⟨x1_1, x2_2, x3_3, aAround_4, aWhole_5, aIsNeeded_6⟩ := z
  intro H locs ls hG hl
  have hb11 : f8_nextRoad_b1 fu iRoads aIsLeft aWorths x1_1 x2_2 x3_3 aAround_4 aWhole_5 aIsNeeded_6 = some rr11 := hb11
  have hG : GH D cI cZ layM q s ([iPageLength, iRoads, iRead, iAltered, iRanked, iStage, iFigures, iNewRoads, iTold, iRouted, iRouteSum], [jH], [aPage, aBeginOf, aEndOf, aLengthOf, aCosts, aRankOf, aRoadAt, aWorths, aMiddles, aLeasts, aBusy, aNewBegin, aNewEnd, aNewLength, aIsLeft, aAround_4, aWhole_5, aIsNeeded_6, aWereRanks, aWaitFrom, aWaitTo, aToldAt, aRisen, aUps, aTried, aRoutes]) H locs := hG
  have hl : lv_has ls 5 [(0, .ref (q 0)), (1, .int x1_1), (2, .int x2_2), (3, .int x3_3)] := hl
  unfold f8_nextRoad_b1 at hb11
  refine lv_iload_n hx hb dX8_nextRoad_7 rfl (lv_at hl 3 rfl) ?_
  refine lv_aload_n hx hb dX8_nextRoad_8 rfl (lv_at hl 0 rfl) ?_
  refine g_get (v := .int iRoads) X hT hG fl_X8_120 0 rfl rfl rfl dX8_nextRoad_9 ?_
  refine lv_icmp_ge (tgt := 68) hx hb dX8_nextRoad_12 (by decide) (fun cb12 => ?_) (fun cb12 => ?_)
  · have hb11 := ite_t cb12 hb11
    have eo := hout11 _ (Option.some.inj hb11).symm
    cases eo
    exact JX11 H locs ls hG (lv_sub hl [1] rfl)
  · have hb11 := ite_f cb12 hb11
    refine lv_aload_n hx hb dX8_nextRoad_15 rfl (lv_at hl 0 rfl) ?_
    refine g_get (v := .ref (q 15)) X hT hG fl_X8_52 0 rfl rfl rfl dX8_nextRoad_16 ?_
    refine lv_iload_n hx hb dX8_nextRoad_19 rfl (lv_at hl 3 rfl) ?_
    obtain ⟨hi13, hb11⟩ := ckin_some hb11
    refine g_zald (f := aIsLeft) X hT hG 15 rfl rfl hi13 dX8_nextRoad_20 ?_
    obtain ⟨x1_14, x2_15, aAround_16, aWhole_17, aIsNeeded_18, er19, hb11⟩ := bnd5_some hb11
    have J19 : ∀ (H : Heap) (locs : List Loc) (ls : Array Slot), GH D cI cZ layM q s ([iPageLength, iRoads, iRead, iAltered, iRanked, iStage, iFigures, iNewRoads, iTold, iRouted, iRouteSum], [jH], [aPage, aBeginOf, aEndOf, aLengthOf, aCosts, aRankOf, aRoadAt, aWorths, aMiddles, aLeasts, aBusy, aNewBegin, aNewEnd, aNewLength, aIsLeft, aAround_16, aWhole_17, aIsNeeded_18, aWereRanks, aWaitFrom, aWaitTo, aToldAt, aRisen, aUps, aTried, aRoutes]) H locs → lv_has ls 5 [(0, .ref (q 0)), (1, .int x1_14), (2, .int x2_15), (3, .int x3_3)] → W p l e R s m args below meth c H locs 0 0 Q (F0 m 62 ls []) := by
      intro H locs ls hG hl
      obtain ⟨x3_35, ex3_35⟩ : ∃ z : Int32, z = x3_3 + 1 := ⟨_, rfl⟩
      have hb11 := bd_e ex3_35 hb11
      refine lv_iinc (v := x3_35) (lv' := [(3, .int x3_35), (0, .ref (q 0)), (1, .int x1_14), (2, .int x2_15)]) hx hb dX8_nextRoad_62 hl (k := 3) rfl (by rw [ex3_35]; rfl) (by decide) rfl (fun ls hl => ?_)
      refine lv_goto (tgt := 7) hx hb dX8_nextRoad_65 (by decide) ?_
      exact hin11 _ (Option.some.inj hb11).symm H locs ls hG (lv_sub hl [1, 2, 3, 0] rfl)
    refine lv_if_eq (tgt := 62) hx hb dX8_nextRoad_21 (by decide) (fun cb20 => ?_) (fun cb20 => ?_)
    · have er19 := ite_t cb20 er19
      cases er19
      exact J19 H locs ls hG (lv_sub hl [0, 1, 2, 3] rfl)
    · have er19 := ite_f cb20 er19
      refine lv_aload_n hx hb dX8_nextRoad_24 rfl (lv_at hl 0 rfl) ?_
      refine lv_iload_n hx hb dX8_nextRoad_25 rfl (lv_at hl 3 rfl) ?_
      obtain ⟨r_21, aAround_22, aWhole_23, aIsNeeded_24, ec25, er19⟩ := bnd4_some er19
      refine g_callVr [.int x3_3] [] 0 X hT hG ml_X8_141 (c_X8_layNeeds hq ec25) rfl rfl rfl rfl rfl hl.1 (Nat.le_of_ble_eq_true rfl) (by rw [hR]; exact ⟨Nat.le_of_ble_eq_true rfl, Nat.le_of_ble_eq_true rfl⟩) dX8_nextRoad_26 (fun H locs hG => ?_)
      have hG : GH D cI cZ layM q s ([iPageLength, iRoads, iRead, iAltered, iRanked, iStage, iFigures, iNewRoads, iTold, iRouted, iRouteSum], [jH], [aPage, aBeginOf, aEndOf, aLengthOf, aCosts, aRankOf, aRoadAt, aWorths, aMiddles, aLeasts, aBusy, aNewBegin, aNewEnd, aNewLength, aIsLeft, aAround_22, aWhole_23, aIsNeeded_24, aWereRanks, aWaitFrom, aWaitTo, aToldAt, aRisen, aUps, aTried, aRoutes]) H locs := hG
      refine lv_aload_n hx hb dX8_nextRoad_29 rfl (lv_at hl 0 rfl) ?_
      refine lv_iload_n hx hb dX8_nextRoad_30 rfl (lv_at hl 3 rfl) ?_
      obtain ⟨r_26, ec27, er19⟩ := bnd1_some er19
      refine g_callVr [.int x3_3] [.int r_21] 0 X hT hG ml_X8_145 (c_X8_arcsAt hq ec27) rfl rfl rfl rfl rfl hl.1 (Nat.le_of_ble_eq_true rfl) (by rw [hR]; exact ⟨Nat.le_of_ble_eq_true rfl, Nat.le_of_ble_eq_true rfl⟩) dX8_nextRoad_31 (fun H locs hG => ?_)
      refine lv_isub hx hb dX8_nextRoad_34 ?_
      refine lv_topi (fun x4_28 ex4_28 => ?_)
      have er19 := bd_e ex4_28 er19
      refine lv_istore (lv' := [(4, .int x4_28), (0, .ref (q 0)), (1, .int x1_1), (2, .int x2_2), (3, .int x3_3)]) hx hb dX8_nextRoad_35 hl (by decide) rfl (fun ls hl => ?_)
      refine lv_iload hx hb dX8_nextRoad_37 (lv_at hl 0 rfl) ?_
      refine lv_iload_n hx hb dX8_nextRoad_39 rfl (lv_at hl 3 rfl) ?_
      obtain ⟨y_29, er30, er19⟩ := bnd1_some er19
      have J30 : ∀ (H : Heap) (locs : List Loc) (ls : Array Slot), GH D cI cZ layM q s ([iPageLength, iRoads, iRead, iAltered, iRanked, iStage, iFigures, iNewRoads, iTold, iRouted, iRouteSum], [jH], [aPage, aBeginOf, aEndOf, aLengthOf, aCosts, aRankOf, aRoadAt, aWorths, aMiddles, aLeasts, aBusy, aNewBegin, aNewEnd, aNewLength, aIsLeft, aAround_22, aWhole_23, aIsNeeded_24, aWereRanks, aWaitFrom, aWaitTo, aToldAt, aRisen, aUps, aTried, aRoutes]) H locs → lv_has ls 5 [(0, .ref (q 0)), (2, .int x2_2), (3, .int x3_3), (4, .int x4_28)] → W p l e R s m args below meth c H locs 0 0 Q (F0 m 48 ls [.int y_29]) := by
        intro H locs ls hG hl
        refine lv_istore_n (lv' := [(1, .int y_29), (0, .ref (q 0)), (2, .int x2_2), (3, .int x3_3), (4, .int x4_28)]) hx hb dX8_nextRoad_48 rfl hl (by decide) rfl (fun ls hl => ?_)
        refine lv_iload hx hb dX8_nextRoad_49 (lv_at hl 4 rfl) ?_
        refine lv_iload_n hx hb dX8_nextRoad_51 rfl (lv_at hl 2 rfl) ?_
        obtain ⟨y_32, er33, er19⟩ := bnd1_some er19
        have J33 : ∀ (H : Heap) (locs : List Loc) (ls : Array Slot), GH D cI cZ layM q s ([iPageLength, iRoads, iRead, iAltered, iRanked, iStage, iFigures, iNewRoads, iTold, iRouted, iRouteSum], [jH], [aPage, aBeginOf, aEndOf, aLengthOf, aCosts, aRankOf, aRoadAt, aWorths, aMiddles, aLeasts, aBusy, aNewBegin, aNewEnd, aNewLength, aIsLeft, aAround_22, aWhole_23, aIsNeeded_24, aWereRanks, aWaitFrom, aWaitTo, aToldAt, aRisen, aUps, aTried, aRoutes]) H locs → lv_has ls 5 [(0, .ref (q 0)), (1, .int y_29), (3, .int x3_3)] → W p l e R s m args below meth c H locs 0 0 Q (F0 m 61 ls [.int y_32]) := by
          intro H locs ls hG hl
          refine lv_istore_n (lv' := [(2, .int y_32), (0, .ref (q 0)), (1, .int y_29), (3, .int x3_3)]) hx hb dX8_nextRoad_61 rfl hl (by decide) rfl (fun ls hl => ?_)
          cases er19
          exact J19 H locs ls hG (lv_sub hl [1, 2, 0, 3] rfl)
        refine lv_icmp_ge (tgt := 60) hx hb dX8_nextRoad_52 (by decide) (fun cb34 => ?_) (fun cb34 => ?_)
        · have er33 := ite_t cb34 er33
          refine lv_iload_n hx hb dX8_nextRoad_60 rfl (lv_at hl 2 rfl) ?_
          cases er33
          exact J33 H locs ls hG (lv_sub hl [1, 0, 3] rfl)
        · have er33 := ite_f cb34 er33
          refine lv_iload hx hb dX8_nextRoad_55 (lv_at hl 4 rfl) ?_
          refine lv_goto (tgt := 61) hx hb dX8_nextRoad_57 (by decide) ?_
          cases er33
          exact J33 H locs ls hG (lv_sub hl [1, 0, 3] rfl)
      refine lv_icmp_ge (tgt := 47) hx hb dX8_nextRoad_40 (by decide) (fun cb31 => ?_) (fun cb31 => ?_)
      · have er30 := ite_t cb31 er30
        refine lv_iload_n hx hb dX8_nextRoad_47 rfl (lv_at hl 2 rfl) ?_
        cases er30
        exact J30 H locs ls hG (lv_sub hl [1, 3, 4, 0] rfl)
      · have er30 := ite_f cb31 er30
        refine lv_iload_n hx hb dX8_nextRoad_43 rfl (lv_at hl 4 rfl) ?_
        refine lv_goto (tgt := 48) hx hb dX8_nextRoad_44 (by decide) ?_
        cases er30
        exact J30 H locs ls hG (lv_sub hl [1, 3, 4, 0] rfl)
def f8_rankNow_b2 (iRoads : Int32) (x3_6 : Int32) (aIsNeeded_4 : (Nat → Int32)) (p1 : Int32) (x4_13 : Int32) (aWorths_14 : (Nat → Int32)) (aMiddles_15 : (Nat → Int32)) : Option ((Int32 × (Nat → Int32) × (Nat → Int32)) ⊕ ((Nat → Int32) × (Nat → Int32))) :=
  if iRoads ≤ x4_13 then (some (.inr (aWorths_14, aMiddles_15))) else ckin ((12 * x3_6) + x4_13) 144 (bnd2 (if (aIsNeeded_4 ((12 * x3_6) + x4_13).toNatClampNeg) = 0 then (some (aWorths_14, aMiddles_15)) else ckin ((12 * x3_6) + p1) 144 (ckin ((12 * p1) + x4_13) 144 (ckin ((12 * x3_6) + x4_13) 144 (bd (upd aWorths_14 ((12 * x3_6) + x4_13).toNatClampNeg ((aWorths_14 ((12 * x3_6) + p1).toNatClampNeg) + (aWorths_14 ((12 * p1) + x4_13).toNatClampNeg))) fun aWorths_28 => ckin ((12 * x3_6) + x4_13) 144 (bd (upd aMiddles_15 ((12 * x3_6) + x4_13).toNatClampNeg p1) fun aMiddles_30 => some (aWorths_28, aMiddles_30)))))) fun (aWorths_21 : (Nat → Int32)) (aMiddles_22 : (Nat → Int32)) => bd (x4_13 + 1) fun x4_31 => some (.inl (x4_31, aWorths_21, aMiddles_22)))
def f8_rankNow_b1 (fu : Nat) (iRoads : Int32) (aIsNeeded_4 : (Nat → Int32)) (p1 : Int32) (x3_6 : Int32) (aWorths_7 : (Nat → Int32)) (aMiddles_8 : (Nat → Int32)) : Option ((Int32 × (Nat → Int32) × (Nat → Int32)) ⊕ ((Nat → Int32) × (Nat → Int32))) :=
  if iRoads ≤ x3_6 then (some (.inr (aWorths_7, aMiddles_8))) else bnd2 (lpG (fun z => f8_rankNow_b2 iRoads x3_6 aIsNeeded_4 p1 z.1 z.2.1 z.2.2) fu ((0 : Int32), aWorths_7, aMiddles_8)) fun (aWorths_16 : (Nat → Int32)) (aMiddles_17 : (Nat → Int32)) => bd (x3_6 + 1) fun x3_32 => some (.inl (x3_32, aWorths_16, aMiddles_17))
def f8_rankNow (fu : Nat) (aAround : (Nat → Int32)) (iRoads : Int32) (aIsLeft : (Nat → Int32)) (aWorths : (Nat → Int32)) (aWhole : (Nat → Int32)) (p1 : Int32) (aIsNeeded : (Nat → Int32)) (aMiddles : (Nat → Int32)) (aRankOf : (Nat → Int32)) (p2 : Int32) (aRoadAt : (Nat → Int32)) : Option ((Nat → Int32) × (Nat → Int32) × (Nat → Int32) × (Nat → Int32) × (Nat → Int32) × (Nat → Int32) × (Nat → Int32) × (Nat → Int32)) :=
  bnd4 (f8_layNeeds fu aAround iRoads aIsLeft aWorths aWhole p1 aIsNeeded) fun (r_1 : Int32) (aAround_2 : (Nat → Int32)) (aWhole_3 : (Nat → Int32)) (aIsNeeded_4 : (Nat → Int32)) => bnd2 (lpG (fun z => f8_rankNow_b1 fu iRoads aIsNeeded_4 p1 z.1 z.2.1 z.2.2) fu ((0 : Int32), aWorths, aMiddles)) fun (aWorths_9 : (Nat → Int32)) (aMiddles_10 : (Nat → Int32)) => ckin p1 12 (bd (upd aIsLeft p1.toNatClampNeg (vp_nar .boolean 0)) fun aIsLeft_34 => ckin p1 12 (bd (upd aRankOf p1.toNatClampNeg p2) fun aRankOf_36 => ckin p2 12 (bd (upd aRoadAt p2.toNatClampNeg p1) fun aRoadAt_38 => some (aRankOf_36, aRoadAt_38, aWorths_9, aMiddles_10, aIsLeft_34, aAround_2, aWhole_3, aIsNeeded_4))))
set_option maxHeartbeats 4000000 in
set_option maxRecDepth 100000 in
theorem c_X8_rankNow (hq : gJ layM q) {fu : Nat} {p1 : Int32} {p2 : Int32} {o_aRankOf : (Nat → Int32)} {o_aRoadAt : (Nat → Int32)} {o_aWorths : (Nat → Int32)} {o_aMiddles : (Nat → Int32)} {o_aIsLeft : (Nat → Int32)} {o_aAround : (Nat → Int32)} {o_aWhole : (Nat → Int32)} {o_aIsNeeded : (Nat → Int32)} (h : f8_rankNow fu aAround iRoads aIsLeft aWorths aWhole p1 aIsNeeded aMiddles aRankOf p2 aRoadAt = some (o_aRankOf, o_aRoadAt, o_aWorths, o_aMiddles, o_aIsLeft, o_aAround, o_aWhole, o_aIsNeeded)) :
    GM l yX8_rankNow cX8_rankNow 5 none 2 52 D cI cZ layM q [.ref (q 0), .int p1, .int p2] ([iPageLength, iRoads, iRead, iAltered, iRanked, iStage, iFigures, iNewRoads, iTold, iRouted, iRouteSum], [jH], [aPage, aBeginOf, aEndOf, aLengthOf, aCosts, aRankOf, aRoadAt, aWorths, aMiddles, aLeasts, aBusy, aNewBegin, aNewEnd, aNewLength, aIsLeft, aAround, aWhole, aIsNeeded, aWereRanks, aWaitFrom, aWaitTo, aToldAt, aRisen, aUps, aTried, aRoutes]) none ([iPageLength, iRoads, iRead, iAltered, iRanked, iStage, iFigures, iNewRoads, iTold, iRouted, iRouteSum], [jH], [aPage, aBeginOf, aEndOf, aLengthOf, aCosts, o_aRankOf, o_aRoadAt, o_aWorths, o_aMiddles, aLeasts, aBusy, aNewBegin, aNewEnd, aNewLength, o_aIsLeft, o_aAround, o_aWhole, o_aIsNeeded, aWereRanks, aWaitFrom, aWaitTo, aToldAt, aRisen, aUps, aTried, aRoutes]) := by
  refine GM.go RX8 (by decide) rfl (Nat.le_of_ble_eq_true rfl) ?_
  intro p e s m args below meth c ls R Q H locs X hr hlk hT hG hl hR hQ
  have hx := X.1
  have hb := X.2.1
  have hl : lv_has ls 5 [(0, .ref (q 0)), (1, .int p1), (2, .int p2)] := hl
  unfold f8_rankNow at h
  refine lv_aload_n hx hb dX8_rankNow_0 rfl (lv_at hl 0 rfl) ?_
  refine lv_iload_n hx hb dX8_rankNow_1 rfl (lv_at hl 1 rfl) ?_
  obtain ⟨r_1, aAround_2, aWhole_3, aIsNeeded_4, ec5, h⟩ := bnd4_some h
  refine g_callVr [.int p1] [] 0 X hT hG ml_X8_141 (c_X8_layNeeds hq ec5) rfl rfl rfl rfl rfl hl.1 (Nat.le_of_ble_eq_true rfl) (by rw [hR]; exact ⟨Nat.le_of_ble_eq_true rfl, Nat.le_of_ble_eq_true rfl⟩) dX8_rankNow_2 (fun H locs hG => ?_)
  have hG : GH D cI cZ layM q s ([iPageLength, iRoads, iRead, iAltered, iRanked, iStage, iFigures, iNewRoads, iTold, iRouted, iRouteSum], [jH], [aPage, aBeginOf, aEndOf, aLengthOf, aCosts, aRankOf, aRoadAt, aWorths, aMiddles, aLeasts, aBusy, aNewBegin, aNewEnd, aNewLength, aIsLeft, aAround_2, aWhole_3, aIsNeeded_4, aWereRanks, aWaitFrom, aWaitTo, aToldAt, aRisen, aUps, aTried, aRoutes]) H locs := hG
  refine lv_pop hx hb dX8_rankNow_5 rfl ?_
  refine lv_iconst (v := 0) hx hb dX8_rankNow_6 (by decide) ?_
  refine lv_istore_n (lv' := [(3, .int 0), (0, .ref (q 0)), (1, .int p1), (2, .int p2)]) hx hb dX8_rankNow_7 rfl hl (by decide) rfl (fun ls hl => ?_)
  obtain ⟨aWorths_9, aMiddles_10, eL11, h⟩ := bnd2_some h
  have JX11 : ∀ (H : Heap) (locs : List Loc) (ls : Array Slot), GH D cI cZ layM q s ([iPageLength, iRoads, iRead, iAltered, iRanked, iStage, iFigures, iNewRoads, iTold, iRouted, iRouteSum], [jH], [aPage, aBeginOf, aEndOf, aLengthOf, aCosts, aRankOf, aRoadAt, aWorths_9, aMiddles_10, aLeasts, aBusy, aNewBegin, aNewEnd, aNewLength, aIsLeft, aAround_2, aWhole_3, aIsNeeded_4, aWereRanks, aWaitFrom, aWaitTo, aToldAt, aRisen, aUps, aTried, aRoutes]) H locs → lv_has ls 5 [(0, .ref (q 0)), (1, .int p1), (2, .int p2)] → W p l e R s m args below meth c H locs 0 0 Q (F0 m 104 ls []) := by
    intro H locs ls hG hl
    refine lv_aload_n hx hb dX8_rankNow_104 rfl (lv_at hl 0 rfl) ?_
    refine g_get (v := .ref (q 15)) X hT hG fl_X8_52 0 rfl rfl rfl dX8_rankNow_105 ?_
    refine lv_iload_n hx hb dX8_rankNow_108 rfl (lv_at hl 1 rfl) ?_
    refine lv_iconst (v := 0) hx hb dX8_rankNow_109 (by decide) ?_
    obtain ⟨hi33, h⟩ := ckin_some h
    obtain ⟨aIsLeft_34, eaIsLeft_34⟩ : ∃ z : Nat → Int32, z = upd aIsLeft p1.toNatClampNeg (vp_nar .boolean 0) := ⟨_, rfl⟩
    have h := bd_e eaIsLeft_34 h
    refine g_zast (w' := ([iPageLength, iRoads, iRead, iAltered, iRanked, iStage, iFigures, iNewRoads, iTold, iRouted, iRouteSum], [jH], [aPage, aBeginOf, aEndOf, aLengthOf, aCosts, aRankOf, aRoadAt, aWorths_9, aMiddles_10, aLeasts, aBusy, aNewBegin, aNewEnd, aNewLength, aIsLeft_34, aAround_2, aWhole_3, aIsNeeded_4, aWereRanks, aWaitFrom, aWaitTo, aToldAt, aRisen, aUps, aTried, aRoutes])) X hT hq hG 15 rfl ga_M_aIsLeft (Nat.le_of_ble_eq_true rfl) hi33 (by subst eaIsLeft_34; rfl) dX8_rankNow_110 (fun H locs hG => ?_)
    refine lv_aload_n hx hb dX8_rankNow_111 rfl (lv_at hl 0 rfl) ?_
    refine g_get (v := .ref (q 6)) X hT hG fl_X8_25 0 rfl rfl rfl dX8_rankNow_112 ?_
    refine lv_iload_n hx hb dX8_rankNow_115 rfl (lv_at hl 1 rfl) ?_
    refine lv_iload_n hx hb dX8_rankNow_116 rfl (lv_at hl 2 rfl) ?_
    obtain ⟨hi35, h⟩ := ckin_some h
    obtain ⟨aRankOf_36, eaRankOf_36⟩ : ∃ z : Nat → Int32, z = upd aRankOf p1.toNatClampNeg p2 := ⟨_, rfl⟩
    have h := bd_e eaRankOf_36 h
    refine g_ast (w' := ([iPageLength, iRoads, iRead, iAltered, iRanked, iStage, iFigures, iNewRoads, iTold, iRouted, iRouteSum], [jH], [aPage, aBeginOf, aEndOf, aLengthOf, aCosts, aRankOf_36, aRoadAt, aWorths_9, aMiddles_10, aLeasts, aBusy, aNewBegin, aNewEnd, aNewLength, aIsLeft_34, aAround_2, aWhole_3, aIsNeeded_4, aWereRanks, aWaitFrom, aWaitTo, aToldAt, aRisen, aUps, aTried, aRoutes])) X hT hq hG 6 rfl ga_M_aRankOf (Nat.le_of_ble_eq_true rfl) hi35 (by subst eaRankOf_36; rfl) dX8_rankNow_117 (fun H locs hG => ?_)
    refine lv_aload_n hx hb dX8_rankNow_118 rfl (lv_at hl 0 rfl) ?_
    refine g_get (v := .ref (q 7)) X hT hG fl_X8_28 0 rfl rfl rfl dX8_rankNow_119 ?_
    refine lv_iload_n hx hb dX8_rankNow_122 rfl (lv_at hl 2 rfl) ?_
    refine lv_iload_n hx hb dX8_rankNow_123 rfl (lv_at hl 1 rfl) ?_
    obtain ⟨hi37, h⟩ := ckin_some h
    obtain ⟨aRoadAt_38, eaRoadAt_38⟩ : ∃ z : Nat → Int32, z = upd aRoadAt p2.toNatClampNeg p1 := ⟨_, rfl⟩
    have h := bd_e eaRoadAt_38 h
    refine g_ast (w' := ([iPageLength, iRoads, iRead, iAltered, iRanked, iStage, iFigures, iNewRoads, iTold, iRouted, iRouteSum], [jH], [aPage, aBeginOf, aEndOf, aLengthOf, aCosts, aRankOf_36, aRoadAt_38, aWorths_9, aMiddles_10, aLeasts, aBusy, aNewBegin, aNewEnd, aNewLength, aIsLeft_34, aAround_2, aWhole_3, aIsNeeded_4, aWereRanks, aWaitFrom, aWaitTo, aToldAt, aRisen, aUps, aTried, aRoutes])) X hT hq hG 7 rfl ga_M_aRoadAt (Nat.le_of_ble_eq_true rfl) hi37 (by subst eaRoadAt_38; rfl) dX8_rankNow_124 (fun H locs hG => ?_)
    cases h
    rw [hQ]
    exact g_vret X hT hG hr hlk dX8_rankNow_125
  refine lpG_W (Wh := fun z => ∀ (H : Heap) (locs : List Loc) (ls : Array Slot), GH D cI cZ layM q s ([iPageLength, iRoads, iRead, iAltered, iRanked, iStage, iFigures, iNewRoads, iTold, iRouted, iRouteSum], [jH], [aPage, aBeginOf, aEndOf, aLengthOf, aCosts, aRankOf, aRoadAt, z.2.1, z.2.2, aLeasts, aBusy, aNewBegin, aNewEnd, aNewLength, aIsLeft, aAround_2, aWhole_3, aIsNeeded_4, aWereRanks, aWaitFrom, aWaitTo, aToldAt, aRisen, aUps, aTried, aRoutes]) H locs → lv_has ls 5 [(0, .ref (q 0)), (1, .int p1), (2, .int p2), (3, .int (z.1))] → W p l e R s m args below meth c H locs 0 0 Q (F0 m 8 ls [])) ?_ fu _ eL11 H locs ls hG (lv_sub hl [1, 2, 3, 0] rfl)
  intro z rr11 hb11 hin11 hout11
  obtain ⟨x3_6, aWorths_7, aMiddles_8⟩ := z
  intro H locs ls hG hl
  have hb11 : f8_rankNow_b1 fu iRoads aIsNeeded_4 p1 x3_6 aWorths_7 aMiddles_8 = some rr11 := hb11
  have hG : GH D cI cZ layM q s ([iPageLength, iRoads, iRead, iAltered, iRanked, iStage, iFigures, iNewRoads, iTold, iRouted, iRouteSum], [jH], [aPage, aBeginOf, aEndOf, aLengthOf, aCosts, aRankOf, aRoadAt, aWorths_7, aMiddles_8, aLeasts, aBusy, aNewBegin, aNewEnd, aNewLength, aIsLeft, aAround_2, aWhole_3, aIsNeeded_4, aWereRanks, aWaitFrom, aWaitTo, aToldAt, aRisen, aUps, aTried, aRoutes]) H locs := hG
  have hl : lv_has ls 5 [(0, .ref (q 0)), (1, .int p1), (2, .int p2), (3, .int x3_6)] := hl
  unfold f8_rankNow_b1 at hb11
  refine lv_iload_n hx hb dX8_rankNow_8 rfl (lv_at hl 3 rfl) ?_
  refine lv_aload_n hx hb dX8_rankNow_9 rfl (lv_at hl 0 rfl) ?_
  refine g_get (v := .int iRoads) X hT hG fl_X8_120 0 rfl rfl rfl dX8_rankNow_10 ?_
  refine lv_icmp_ge (tgt := 104) hx hb dX8_rankNow_13 (by decide) (fun cb12 => ?_) (fun cb12 => ?_)
  · have hb11 := ite_t cb12 hb11
    have eo := hout11 _ (Option.some.inj hb11).symm
    cases eo
    exact JX11 H locs ls hG (lv_sub hl [0, 1, 2] rfl)
  · have hb11 := ite_f cb12 hb11
    refine lv_iconst (v := 0) hx hb dX8_rankNow_16 (by decide) ?_
    refine lv_istore (lv' := [(4, .int 0), (0, .ref (q 0)), (1, .int p1), (2, .int p2), (3, .int x3_6)]) hx hb dX8_rankNow_17 hl (by decide) rfl (fun ls hl => ?_)
    obtain ⟨aWorths_16, aMiddles_17, eL18, hb11⟩ := bnd2_some hb11
    have JX18 : ∀ (H : Heap) (locs : List Loc) (ls : Array Slot), GH D cI cZ layM q s ([iPageLength, iRoads, iRead, iAltered, iRanked, iStage, iFigures, iNewRoads, iTold, iRouted, iRouteSum], [jH], [aPage, aBeginOf, aEndOf, aLengthOf, aCosts, aRankOf, aRoadAt, aWorths_16, aMiddles_17, aLeasts, aBusy, aNewBegin, aNewEnd, aNewLength, aIsLeft, aAround_2, aWhole_3, aIsNeeded_4, aWereRanks, aWaitFrom, aWaitTo, aToldAt, aRisen, aUps, aTried, aRoutes]) H locs → lv_has ls 5 [(0, .ref (q 0)), (1, .int p1), (2, .int p2), (3, .int x3_6)] → W p l e R s m args below meth c H locs 0 0 Q (F0 m 98 ls []) := by
      intro H locs ls hG hl
      obtain ⟨x3_32, ex3_32⟩ : ∃ z : Int32, z = x3_6 + 1 := ⟨_, rfl⟩
      have hb11 := bd_e ex3_32 hb11
      refine lv_iinc (v := x3_32) (lv' := [(3, .int x3_32), (0, .ref (q 0)), (1, .int p1), (2, .int p2)]) hx hb dX8_rankNow_98 hl (k := 3) rfl (by rw [ex3_32]; rfl) (by decide) rfl (fun ls hl => ?_)
      refine lv_goto (tgt := 8) hx hb dX8_rankNow_101 (by decide) ?_
      exact hin11 _ (Option.some.inj hb11).symm H locs ls hG (lv_sub hl [1, 2, 3, 0] rfl)
    refine lpG_W (Wh := fun z => ∀ (H : Heap) (locs : List Loc) (ls : Array Slot), GH D cI cZ layM q s ([iPageLength, iRoads, iRead, iAltered, iRanked, iStage, iFigures, iNewRoads, iTold, iRouted, iRouteSum], [jH], [aPage, aBeginOf, aEndOf, aLengthOf, aCosts, aRankOf, aRoadAt, z.2.1, z.2.2, aLeasts, aBusy, aNewBegin, aNewEnd, aNewLength, aIsLeft, aAround_2, aWhole_3, aIsNeeded_4, aWereRanks, aWaitFrom, aWaitTo, aToldAt, aRisen, aUps, aTried, aRoutes]) H locs → lv_has ls 5 [(0, .ref (q 0)), (1, .int p1), (2, .int p2), (3, .int x3_6), (4, .int (z.1))] → W p l e R s m args below meth c H locs 0 0 Q (F0 m 19 ls [])) ?_ fu _ eL18 H locs ls hG (lv_sub hl [1, 2, 3, 4, 0] rfl)
    intro z rr18 hb18 hin18 hout18
    obtain ⟨x4_13, aWorths_14, aMiddles_15⟩ := z
    intro H locs ls hG hl
    have hb18 : f8_rankNow_b2 iRoads x3_6 aIsNeeded_4 p1 x4_13 aWorths_14 aMiddles_15 = some rr18 := hb18
    have hG : GH D cI cZ layM q s ([iPageLength, iRoads, iRead, iAltered, iRanked, iStage, iFigures, iNewRoads, iTold, iRouted, iRouteSum], [jH], [aPage, aBeginOf, aEndOf, aLengthOf, aCosts, aRankOf, aRoadAt, aWorths_14, aMiddles_15, aLeasts, aBusy, aNewBegin, aNewEnd, aNewLength, aIsLeft, aAround_2, aWhole_3, aIsNeeded_4, aWereRanks, aWaitFrom, aWaitTo, aToldAt, aRisen, aUps, aTried, aRoutes]) H locs := hG
    have hl : lv_has ls 5 [(0, .ref (q 0)), (1, .int p1), (2, .int p2), (3, .int x3_6), (4, .int x4_13)] := hl
    unfold f8_rankNow_b2 at hb18
    refine lv_iload hx hb dX8_rankNow_19 (lv_at hl 4 rfl) ?_
    refine lv_aload_n hx hb dX8_rankNow_21 rfl (lv_at hl 0 rfl) ?_
    refine g_get (v := .int iRoads) X hT hG fl_X8_120 0 rfl rfl rfl dX8_rankNow_22 ?_
    refine lv_icmp_ge (tgt := 98) hx hb dX8_rankNow_25 (by decide) (fun cb19 => ?_) (fun cb19 => ?_)
    · have hb18 := ite_t cb19 hb18
      have eo := hout18 _ (Option.some.inj hb18).symm
      cases eo
      exact JX18 H locs ls hG (lv_sub hl [0, 1, 2, 3] rfl)
    · have hb18 := ite_f cb19 hb18
      refine lv_aload_n hx hb dX8_rankNow_28 rfl (lv_at hl 0 rfl) ?_
      refine g_get (v := .ref (q 18)) X hT hG fl_X8_62 0 rfl rfl rfl dX8_rankNow_29 ?_
      refine lv_bipush (v := 12) hx hb dX8_rankNow_32 (by decide) ?_
      refine lv_iload_n hx hb dX8_rankNow_34 rfl (lv_at hl 3 rfl) ?_
      refine lv_imul hx hb dX8_rankNow_35 ?_
      refine lv_iload hx hb dX8_rankNow_36 (lv_at hl 4 rfl) ?_
      refine lv_iadd hx hb dX8_rankNow_38 ?_
      obtain ⟨hi20, hb18⟩ := ckin_some hb18
      refine g_zald (f := aIsNeeded_4) X hT hG 18 rfl rfl hi20 dX8_rankNow_39 ?_
      obtain ⟨aWorths_21, aMiddles_22, er23, hb18⟩ := bnd2_some hb18
      have J23 : ∀ (H : Heap) (locs : List Loc) (ls : Array Slot), GH D cI cZ layM q s ([iPageLength, iRoads, iRead, iAltered, iRanked, iStage, iFigures, iNewRoads, iTold, iRouted, iRouteSum], [jH], [aPage, aBeginOf, aEndOf, aLengthOf, aCosts, aRankOf, aRoadAt, aWorths_21, aMiddles_22, aLeasts, aBusy, aNewBegin, aNewEnd, aNewLength, aIsLeft, aAround_2, aWhole_3, aIsNeeded_4, aWereRanks, aWaitFrom, aWaitTo, aToldAt, aRisen, aUps, aTried, aRoutes]) H locs → lv_has ls 5 [(0, .ref (q 0)), (1, .int p1), (2, .int p2), (3, .int x3_6), (4, .int x4_13)] → W p l e R s m args below meth c H locs 0 0 Q (F0 m 92 ls []) := by
        intro H locs ls hG hl
        obtain ⟨x4_31, ex4_31⟩ : ∃ z : Int32, z = x4_13 + 1 := ⟨_, rfl⟩
        have hb18 := bd_e ex4_31 hb18
        refine lv_iinc (v := x4_31) (lv' := [(4, .int x4_31), (0, .ref (q 0)), (1, .int p1), (2, .int p2), (3, .int x3_6)]) hx hb dX8_rankNow_92 hl (k := 4) rfl (by rw [ex4_31]; rfl) (by decide) rfl (fun ls hl => ?_)
        refine lv_goto (tgt := 19) hx hb dX8_rankNow_95 (by decide) ?_
        exact hin18 _ (Option.some.inj hb18).symm H locs ls hG (lv_sub hl [1, 2, 3, 4, 0] rfl)
      refine lv_if_eq (tgt := 92) hx hb dX8_rankNow_40 (by decide) (fun cb24 => ?_) (fun cb24 => ?_)
      · have er23 := ite_t cb24 er23
        cases er23
        exact J23 H locs ls hG (lv_sub hl [0, 1, 2, 3, 4] rfl)
      · have er23 := ite_f cb24 er23
        refine lv_aload_n hx hb dX8_rankNow_43 rfl (lv_at hl 0 rfl) ?_
        refine g_get (v := .ref (q 8)) X hT hG fl_X8_31 0 rfl rfl rfl dX8_rankNow_44 ?_
        refine lv_bipush (v := 12) hx hb dX8_rankNow_47 (by decide) ?_
        refine lv_iload_n hx hb dX8_rankNow_49 rfl (lv_at hl 3 rfl) ?_
        refine lv_imul hx hb dX8_rankNow_50 ?_
        refine lv_iload hx hb dX8_rankNow_51 (lv_at hl 4 rfl) ?_
        refine lv_iadd hx hb dX8_rankNow_53 ?_
        refine lv_aload_n hx hb dX8_rankNow_54 rfl (lv_at hl 0 rfl) ?_
        refine g_get (v := .ref (q 8)) X hT hG fl_X8_31 0 rfl rfl rfl dX8_rankNow_55 ?_
        refine lv_bipush (v := 12) hx hb dX8_rankNow_58 (by decide) ?_
        refine lv_iload_n hx hb dX8_rankNow_60 rfl (lv_at hl 3 rfl) ?_
        refine lv_imul hx hb dX8_rankNow_61 ?_
        refine lv_iload_n hx hb dX8_rankNow_62 rfl (lv_at hl 1 rfl) ?_
        refine lv_iadd hx hb dX8_rankNow_63 ?_
        obtain ⟨hi25, er23⟩ := ckin_some er23
        refine g_ald (f := aWorths_14) X hT hG 8 rfl rfl hi25 dX8_rankNow_64 ?_
        refine lv_aload_n hx hb dX8_rankNow_65 rfl (lv_at hl 0 rfl) ?_
        refine g_get (v := .ref (q 8)) X hT hG fl_X8_31 0 rfl rfl rfl dX8_rankNow_66 ?_
        refine lv_bipush (v := 12) hx hb dX8_rankNow_69 (by decide) ?_
        refine lv_iload_n hx hb dX8_rankNow_71 rfl (lv_at hl 1 rfl) ?_
        refine lv_imul hx hb dX8_rankNow_72 ?_
        refine lv_iload hx hb dX8_rankNow_73 (lv_at hl 4 rfl) ?_
        refine lv_iadd hx hb dX8_rankNow_75 ?_
        obtain ⟨hi26, er23⟩ := ckin_some er23
        refine g_ald (f := aWorths_14) X hT hG 8 rfl rfl hi26 dX8_rankNow_76 ?_
        refine lv_iadd hx hb dX8_rankNow_77 ?_
        obtain ⟨hi27, er23⟩ := ckin_some er23
        obtain ⟨aWorths_28, eaWorths_28⟩ : ∃ z : Nat → Int32, z = upd aWorths_14 ((12 * x3_6) + x4_13).toNatClampNeg ((aWorths_14 ((12 * x3_6) + p1).toNatClampNeg) + (aWorths_14 ((12 * p1) + x4_13).toNatClampNeg)) := ⟨_, rfl⟩
        have er23 := bd_e eaWorths_28 er23
        refine g_ast (w' := ([iPageLength, iRoads, iRead, iAltered, iRanked, iStage, iFigures, iNewRoads, iTold, iRouted, iRouteSum], [jH], [aPage, aBeginOf, aEndOf, aLengthOf, aCosts, aRankOf, aRoadAt, aWorths_28, aMiddles_15, aLeasts, aBusy, aNewBegin, aNewEnd, aNewLength, aIsLeft, aAround_2, aWhole_3, aIsNeeded_4, aWereRanks, aWaitFrom, aWaitTo, aToldAt, aRisen, aUps, aTried, aRoutes])) X hT hq hG 8 rfl ga_M_aWorths (Nat.le_of_ble_eq_true rfl) hi27 (by subst eaWorths_28; rfl) dX8_rankNow_78 (fun H locs hG => ?_)
        refine lv_aload_n hx hb dX8_rankNow_79 rfl (lv_at hl 0 rfl) ?_
        refine g_get (v := .ref (q 9)) X hT hG fl_X8_34 0 rfl rfl rfl dX8_rankNow_80 ?_
        refine lv_bipush (v := 12) hx hb dX8_rankNow_83 (by decide) ?_
        refine lv_iload_n hx hb dX8_rankNow_85 rfl (lv_at hl 3 rfl) ?_
        refine lv_imul hx hb dX8_rankNow_86 ?_
        refine lv_iload hx hb dX8_rankNow_87 (lv_at hl 4 rfl) ?_
        refine lv_iadd hx hb dX8_rankNow_89 ?_
        refine lv_iload_n hx hb dX8_rankNow_90 rfl (lv_at hl 1 rfl) ?_
        obtain ⟨hi29, er23⟩ := ckin_some er23
        obtain ⟨aMiddles_30, eaMiddles_30⟩ : ∃ z : Nat → Int32, z = upd aMiddles_15 ((12 * x3_6) + x4_13).toNatClampNeg p1 := ⟨_, rfl⟩
        have er23 := bd_e eaMiddles_30 er23
        refine g_ast (w' := ([iPageLength, iRoads, iRead, iAltered, iRanked, iStage, iFigures, iNewRoads, iTold, iRouted, iRouteSum], [jH], [aPage, aBeginOf, aEndOf, aLengthOf, aCosts, aRankOf, aRoadAt, aWorths_28, aMiddles_30, aLeasts, aBusy, aNewBegin, aNewEnd, aNewLength, aIsLeft, aAround_2, aWhole_3, aIsNeeded_4, aWereRanks, aWaitFrom, aWaitTo, aToldAt, aRisen, aUps, aTried, aRoutes])) X hT hq hG 9 rfl ga_M_aMiddles (Nat.le_of_ble_eq_true rfl) hi29 (by subst eaMiddles_30; rfl) dX8_rankNow_91 (fun H locs hG => ?_)
        cases er23
        exact J23 H locs ls hG (lv_sub hl [0, 1, 2, 3, 4] rfl)
end
