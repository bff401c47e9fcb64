section
variable {l : Launch} {D : va_G} {cI cZ : ClassId} {q : Nat → Nat} {iPageLength iRoads iRead iAltered iRanked iStage iFigures iNewRoads iTold iRouted iRouteSum : Int32} {jH : Int64} {aPage aBeginOf aEndOf aLengthOf aCosts aRankOf aRoadAt aWorths aMiddles aLeasts aBusy aNewBegin aNewEnd aNewLength aIsLeft aAround aWhole aIsNeeded aWereRanks aWaitFrom aWaitTo aToldAt aRisen aUps aTried aRoutes : Nat → Int32}
def f8_arcNow (fu : Nat) (p1 : Int32) (p2 : Int32) (aWorths : (Nat → Int32)) (p3 : Int32) (aToldAt : (Nat → Int32)) (aWaitFrom : (Nat → Int32)) (aWaitTo : (Nat → Int32)) (aMiddles : (Nat → Int32)) (aRankOf : (Nat → Int32)) (iTold : Int32) : Option (Int32 × Int32 × (Nat → Int32) × (Nat → Int32) × (Nat → Int32)) :=
  bd (((12 * p1) + p2)) fun x4_1 => ckin x4_1 144 (if (aWorths x4_1.toNatClampNeg) < 268435456 then (if p3 = 3 then (bnd4 (f8_layUnpacked fu aToldAt p1 aWaitFrom aWaitTo p2 aMiddles) fun (iTold_14 : Int32) (aWaitFrom_15 : (Nat → Int32)) (aWaitTo_16 : (Nat → Int32)) (aToldAt_17 : (Nat → Int32)) => some (iTold_14, iTold_14, aWaitFrom_15, aWaitTo_16, aToldAt_17)) else bnd1 (if p3 = 0 then (ckin x4_1 144 (some (aWorths x4_1.toNatClampNeg))) else if p3 = 1 then (ckin x4_1 144 (some (aMiddles x4_1.toNatClampNeg))) else ckin p2 12 (ckin p1 12 (if (aRankOf p2.toNatClampNeg) ≤ (aRankOf p1.toNatClampNeg) then (some 0) else some 1))) fun (y_5 : Int32) => some (y_5, iTold, aWaitFrom, aWaitTo, aToldAt)) else some ((-1), iTold, aWaitFrom, aWaitTo, aToldAt))
set_option maxHeartbeats 4000000 in
set_option maxRecDepth 100000 in
theorem c_X8_arcNow (hq : gJ layM q) {fu : Nat} {p1 : Int32} {p2 : Int32} {p3 : Int32} {o_r : Int32} {o_iTold : Int32} {o_aWaitFrom : (Nat → Int32)} {o_aWaitTo : (Nat → Int32)} {o_aToldAt : (Nat → Int32)} (h : f8_arcNow fu p1 p2 aWorths p3 aToldAt aWaitFrom aWaitTo aMiddles aRankOf iTold = some (o_r, o_iTold, o_aWaitFrom, o_aWaitTo, o_aToldAt)) :
    GM l yX8_arcNow cX8_arcNow 5 (some .int) 1 26 D cI cZ layM q [.ref (q 0), .int p1, .int p2, .int p3] ([iPageLength, iRoads, iRead, iAltered, iRanked, iStage, iFigures, iNewRoads, iTold, iRouted, iRouteSum], [jH], [aPage, aBeginOf, aEndOf, aLengthOf, aCosts, aRankOf, aRoadAt, aWorths, aMiddles, aLeasts, aBusy, aNewBegin, aNewEnd, aNewLength, aIsLeft, aAround, aWhole, aIsNeeded, aWereRanks, aWaitFrom, aWaitTo, aToldAt, aRisen, aUps, aTried, aRoutes]) (some (.int o_r)) ([iPageLength, iRoads, iRead, iAltered, iRanked, iStage, iFigures, iNewRoads, o_iTold, iRouted, iRouteSum], [jH], [aPage, aBeginOf, aEndOf, aLengthOf, aCosts, aRankOf, aRoadAt, aWorths, aMiddles, aLeasts, aBusy, aNewBegin, aNewEnd, aNewLength, aIsLeft, aAround, aWhole, aIsNeeded, aWereRanks, o_aWaitFrom, o_aWaitTo, o_aToldAt, aRisen, aUps, aTried, aRoutes]) := by
  refine GM.go RX8 (by decide) rfl (Nat.le_of_ble_eq_true rfl) ?_
  intro p e s m args below meth c ls R Q H locs X hr hlk hT hG hl hR hQ
  have hx := X.1
  have hb := X.2.1
  have hl : lv_has ls 5 [(0, .ref (q 0)), (1, .int p1), (2, .int p2), (3, .int p3)] := hl
  unfold f8_arcNow at h
  refine lv_bipush (v := 12) hx hb dX8_arcNow_0 (by decide) ?_
  refine lv_iload_n hx hb dX8_arcNow_2 rfl (lv_at hl 1 rfl) ?_
  refine lv_imul hx hb dX8_arcNow_3 ?_
  refine lv_iload_n hx hb dX8_arcNow_4 rfl (lv_at hl 2 rfl) ?_
  refine lv_iadd hx hb dX8_arcNow_5 ?_
  refine lv_topi (fun x4_1 ex4_1 => ?_)
  have h := bd_e ex4_1 h
  refine lv_istore (lv' := [(4, .int x4_1), (0, .ref (q 0)), (1, .int p1), (2, .int p2), (3, .int p3)]) hx hb dX8_arcNow_6 hl (by decide) rfl (fun ls hl => ?_)
  refine lv_aload_n hx hb dX8_arcNow_8 rfl (lv_at hl 1 rfl) ?_
  refine g_get (v := .ref (q 8)) X hT hG fl_X8_31 0 rfl rfl rfl dX8_arcNow_9 ?_
  refine lv_iload hx hb dX8_arcNow_12 (lv_at hl 0 rfl) ?_
  obtain ⟨hi2, h⟩ := ckin_some h
  refine g_ald (f := aWorths) X hT hG 8 rfl rfl hi2 dX8_arcNow_14 ?_
  refine lv_ldc (v := 268435456) hx hb X.2.2.2.1 (X.2.2.2.2 _ cn_X8_136) dX8_arcNow_15 ?_
  refine lv_icmp_lt (tgt := 22) hx hb dX8_arcNow_17 (by decide) (fun cb3 => ?_) (fun cb3 => ?_)
  · have h := ite_t cb3 h
    refine lv_iload_n hx hb dX8_arcNow_22 rfl (lv_at hl 4 rfl) ?_
    refine lv_iconst (v := 3) hx hb dX8_arcNow_23 (by decide) ?_
    refine lv_icmp_ne (tgt := 38) hx hb dX8_arcNow_24 (by decide) (fun cb4 => ?_) (fun cb4 => ?_)
    · have h := ite_f cb4 h
      refine lv_iload_n hx hb dX8_arcNow_38 rfl (lv_at hl 4 rfl) ?_
      obtain ⟨y_5, er6, h⟩ := bnd1_some h
      have J6 : ∀ (H : Heap) (locs : List Loc) (ls : Array Slot), GH D cI cZ layM q s ([iPageLength, iRoads, iRead, iAltered, iRanked, iStage, iFigures, iNewRoads, iTold, iRouted, iRouteSum], [jH], [aPage, aBeginOf, aEndOf, aLengthOf, aCosts, aRankOf, aRoadAt, aWorths, aMiddles, aLeasts, aBusy, aNewBegin, aNewEnd, aNewLength, aIsLeft, aAround, aWhole, aIsNeeded, aWereRanks, aWaitFrom, aWaitTo, aToldAt, aRisen, aUps, aTried, aRoutes]) H locs → lv_has ls 5 [] → W p l e R s m args below meth c H locs 0 0 Q (F0 m 87 ls [.int y_5]) := by
        intro H locs ls hG hl
        cases h
        rw [hQ]
        exact g_iret X hT hG hr hlk dX8_arcNow_87
      refine lv_if_ne (tgt := 52) hx hb dX8_arcNow_39 (by decide) (fun cb7 => ?_) (fun cb7 => ?_)
      · have er6 := ite_f cb7 er6
        refine lv_iload_n hx hb dX8_arcNow_52 rfl (lv_at hl 4 rfl) ?_
        refine lv_iconst (v := 1) hx hb dX8_arcNow_53 (by decide) ?_
        refine lv_icmp_ne (tgt := 67) hx hb dX8_arcNow_54 (by decide) (fun cb8 => ?_) (fun cb8 => ?_)
        · have er6 := ite_f cb8 er6
          refine lv_aload_n hx hb dX8_arcNow_67 rfl (lv_at hl 1 rfl) ?_
          refine g_get (v := .ref (q 6)) X hT hG fl_X8_25 0 rfl rfl rfl dX8_arcNow_68 ?_
          refine lv_iload_n hx hb dX8_arcNow_71 rfl (lv_at hl 3 rfl) ?_
          obtain ⟨hi9, er6⟩ := ckin_some er6
          refine g_ald (f := aRankOf) X hT hG 6 rfl rfl hi9 dX8_arcNow_72 ?_
          refine lv_aload_n hx hb dX8_arcNow_73 rfl (lv_at hl 1 rfl) ?_
          refine g_get (v := .ref (q 6)) X hT hG fl_X8_25 0 rfl rfl rfl dX8_arcNow_74 ?_
          refine lv_iload_n hx hb dX8_arcNow_77 rfl (lv_at hl 2 rfl) ?_
          obtain ⟨hi10, er6⟩ := ckin_some er6
          refine g_ald (f := aRankOf) X hT hG 6 rfl rfl hi10 dX8_arcNow_78 ?_
          refine lv_icmp_le (tgt := 86) hx hb dX8_arcNow_79 (by decide) (fun cb11 => ?_) (fun cb11 => ?_)
          · have er6 := ite_t cb11 er6
            refine lv_iconst (v := 0) hx hb dX8_arcNow_86 (by decide) ?_
            cases er6
            exact J6 H locs ls hG (lv_sub hl [] rfl)
          · have er6 := ite_f cb11 er6
            refine lv_iconst (v := 1) hx hb dX8_arcNow_82 (by decide) ?_
            refine lv_goto (tgt := 87) hx hb dX8_arcNow_83 (by decide) ?_
            cases er6
            exact J6 H locs ls hG (lv_sub hl [] rfl)
        · have er6 := ite_t cb8 er6
          refine lv_aload_n hx hb dX8_arcNow_57 rfl (lv_at hl 1 rfl) ?_
          refine g_get (v := .ref (q 9)) X hT hG fl_X8_34 0 rfl rfl rfl dX8_arcNow_58 ?_
          refine lv_iload hx hb dX8_arcNow_61 (lv_at hl 0 rfl) ?_
          obtain ⟨hi12, er6⟩ := ckin_some er6
          refine g_ald (f := aMiddles) X hT hG 9 rfl rfl hi12 dX8_arcNow_63 ?_
          refine lv_goto (tgt := 87) hx hb dX8_arcNow_64 (by decide) ?_
          cases er6
          exact J6 H locs ls hG (lv_sub hl [] rfl)
      · have er6 := ite_t cb7 er6
        refine lv_aload_n hx hb dX8_arcNow_42 rfl (lv_at hl 1 rfl) ?_
        refine g_get (v := .ref (q 8)) X hT hG fl_X8_31 0 rfl rfl rfl dX8_arcNow_43 ?_
        refine lv_iload hx hb dX8_arcNow_46 (lv_at hl 0 rfl) ?_
        obtain ⟨hi13, er6⟩ := ckin_some er6
        refine g_ald (f := aWorths) X hT hG 8 rfl rfl hi13 dX8_arcNow_48 ?_
        refine lv_goto (tgt := 87) hx hb dX8_arcNow_49 (by decide) ?_
        cases er6
        exact J6 H locs ls hG (lv_sub hl [] rfl)
    · have h := ite_t cb4 h
      refine lv_aload_n hx hb dX8_arcNow_27 rfl (lv_at hl 1 rfl) ?_
      refine lv_iload_n hx hb dX8_arcNow_28 rfl (lv_at hl 2 rfl) ?_
      refine lv_iload_n hx hb dX8_arcNow_29 rfl (lv_at hl 3 rfl) ?_
      obtain ⟨iTold_14, aWaitFrom_15, aWaitTo_16, aToldAt_17, ec18, h⟩ := bnd4_some h
      refine g_callVv [.int p1, .int p2] [] 0 X hT hG ml_X8_201 (c_X8_layUnpacked hq ec18) rfl rfl rfl rfl rfl hl.1 (Nat.le_of_ble_eq_true rfl) (by rw [hR]; exact ⟨Nat.le_of_ble_eq_true rfl, Nat.le_of_ble_eq_true rfl⟩) dX8_arcNow_30 (fun H locs hG => ?_)
      have hG : GH D cI cZ layM q s ([iPageLength, iRoads, iRead, iAltered, iRanked, iStage, iFigures, iNewRoads, iTold_14, iRouted, iRouteSum], [jH], [aPage, aBeginOf, aEndOf, aLengthOf, aCosts, aRankOf, aRoadAt, aWorths, aMiddles, aLeasts, aBusy, aNewBegin, aNewEnd, aNewLength, aIsLeft, aAround, aWhole, aIsNeeded, aWereRanks, aWaitFrom_15, aWaitTo_16, aToldAt_17, aRisen, aUps, aTried, aRoutes]) H locs := hG
      refine lv_aload_n hx hb dX8_arcNow_33 rfl (lv_at hl 1 rfl) ?_
      refine g_get (v := .int iTold_14) X hT hG fl_X8_198 0 rfl rfl rfl dX8_arcNow_34 ?_
      cases h
      rw [hQ]
      exact g_iret X hT hG hr hlk dX8_arcNow_37
  · have h := ite_f cb3 h
    refine lv_iconst (v := (-1)) hx hb dX8_arcNow_20 (by decide) ?_
    cases h
    rw [hQ]
    exact g_iret X hT hG hr hlk dX8_arcNow_21
def f8_arc (fu : Nat) (p1 : Int32) (iRoads : Int32) (p2 : Int32) (iTold : Int32) (aWaitFrom : (Nat → Int32)) (aWaitTo : (Nat → Int32)) (aToldAt : (Nat → Int32)) (p3 : Int32) (aWorths : (Nat → Int32)) (aMiddles : (Nat → Int32)) (aRankOf : (Nat → Int32)) : Option (Int32 × Int32 × (Nat → Int32) × (Nat → Int32) × (Nat → Int32)) :=
  bnd1 (f8_areRoads p1 iRoads p2) fun (r_1 : Int32) => if r_1 = 0 then (some ((-101), iTold, aWaitFrom, aWaitTo, aToldAt)) else bnd1 (f8_within p3 0 3) fun (r_4 : Int32) => bnd5 (if r_4 = 0 then (some ((-102), iTold, aWaitFrom, aWaitTo, aToldAt)) else bnd5 (f8_arcNow fu p1 p2 aWorths p3 aToldAt aWaitFrom aWaitTo aMiddles aRankOf iTold) fun (r_13 : Int32) (iTold_14 : Int32) (aWaitFrom_15 : (Nat → Int32)) (aWaitTo_16 : (Nat → Int32)) (aToldAt_17 : (Nat → Int32)) => some (r_13, iTold_14, aWaitFrom_15, aWaitTo_16, aToldAt_17)) fun (y_6 : Int32) (iTold_7 : Int32) (aWaitFrom_8 : (Nat → Int32)) (aWaitTo_9 : (Nat → Int32)) (aToldAt_10 : (Nat → Int32)) => some (y_6, iTold_7, aWaitFrom_8, aWaitTo_9, aToldAt_10)
set_option maxHeartbeats 4000000 in
set_option maxRecDepth 100000 in
theorem c_X8_arc (hq : gJ layM q) {fu : Nat} {p1 : Int32} {p2 : Int32} {p3 : Int32} {o_r : Int32} {o_iTold : Int32} {o_aWaitFrom : (Nat → Int32)} {o_aWaitTo : (Nat → Int32)} {o_aToldAt : (Nat → Int32)} (h : f8_arc fu p1 iRoads p2 iTold aWaitFrom aWaitTo aToldAt p3 aWorths aMiddles aRankOf = some (o_r, o_iTold, o_aWaitFrom, o_aWaitTo, o_aToldAt)) :
    GM l yX8_arc cX8_arc 4 (some .int) 3 65 D cI cZ layM q [.ref (q 0), .int p1, .int p2, .int p3] ([iPageLength, iRoads, iRead, iAltered, iRanked, iStage, iFigures, iNewRoads, iTold, iRouted, iRouteSum], [jH], [aPage, aBeginOf, aEndOf, aLengthOf, aCosts, aRankOf, aRoadAt, aWorths, aMiddles, aLeasts, aBusy, aNewBegin, aNewEnd, aNewLength, aIsLeft, aAround, aWhole, aIsNeeded, aWereRanks, aWaitFrom, aWaitTo, aToldAt, aRisen, aUps, aTried, aRoutes]) (some (.int o_r)) ([iPageLength, iRoads, iRead, iAltered, iRanked, iStage, iFigures, iNewRoads, o_iTold, iRouted, iRouteSum], [jH], [aPage, aBeginOf, aEndOf, aLengthOf, aCosts, aRankOf, aRoadAt, aWorths, aMiddles, aLeasts, aBusy, aNewBegin, aNewEnd, aNewLength, aIsLeft, aAround, aWhole, aIsNeeded, aWereRanks, o_aWaitFrom, o_aWaitTo, o_aToldAt, aRisen, aUps, aTried, aRoutes]) := by
  refine GM.go RX8 (by decide) rfl (Nat.le_of_ble_eq_true rfl) ?_
  intro p e s m args below meth c ls R Q H locs X hr hlk hT hG hl hR hQ
  have hx := X.1
  have hb := X.2.1
  have hl : lv_has ls 4 [(0, .ref (q 0)), (1, .int p1), (2, .int p2), (3, .int p3)] := hl
  unfold f8_arc at h
  refine lv_aload_n hx hb dX8_arc_0 rfl (lv_at hl 0 rfl) ?_
  refine lv_iload_n hx hb dX8_arc_1 rfl (lv_at hl 1 rfl) ?_
  refine lv_iload_n hx hb dX8_arc_2 rfl (lv_at hl 2 rfl) ?_
  obtain ⟨r_1, ec2, h⟩ := bnd1_some h
  refine g_callVr [.int p1, .int p2] [] 0 X hT hG ml_X8_180 (c_X8_areRoads hq ec2) rfl rfl rfl rfl rfl hl.1 (Nat.le_of_ble_eq_true rfl) (by rw [hR]; exact ⟨Nat.le_of_ble_eq_true rfl, Nat.le_of_ble_eq_true rfl⟩) dX8_arc_3 (fun H locs hG => ?_)
  refine lv_if_ne (tgt := 12) hx hb dX8_arc_6 (by decide) (fun cb3 => ?_) (fun cb3 => ?_)
  · have h := ite_f cb3 h
    refine lv_iload_n hx hb dX8_arc_12 rfl (lv_at hl 3 rfl) ?_
    refine lv_iconst (v := 0) hx hb dX8_arc_13 (by decide) ?_
    refine lv_iconst (v := 3) hx hb dX8_arc_14 (by decide) ?_
    obtain ⟨r_4, ec5, h⟩ := bnd1_some h
    refine g_callSr [.int p3, .int 0, .int 3] [] X hT hG ml_X8_89 (c_X8_within hq ec5) rfl rfl hl.1 (Nat.le_of_ble_eq_true rfl) (by rw [hR]; exact ⟨Nat.le_of_ble_eq_true rfl, Nat.le_of_ble_eq_true rfl⟩) dX8_arc_15 (fun H locs hG => ?_)
    obtain ⟨y_6, iTold_7, aWaitFrom_8, aWaitTo_9, aToldAt_10, er11, h⟩ := bnd5_some h
    have J11 : ∀ (H : Heap) (locs : List Loc) (ls : Array Slot), GH D cI cZ layM q s ([iPageLength, iRoads, iRead, iAltered, iRanked, iStage, iFigures, iNewRoads, iTold_7, iRouted, iRouteSum], [jH], [aPage, aBeginOf, aEndOf, aLengthOf, aCosts, aRankOf, aRoadAt, aWorths, aMiddles, aLeasts, aBusy, aNewBegin, aNewEnd, aNewLength, aIsLeft, aAround, aWhole, aIsNeeded, aWereRanks, aWaitFrom_8, aWaitTo_9, aToldAt_10, aRisen, aUps, aTried, aRoutes]) H locs → lv_has ls 4 [] → W p l e R s m args below meth c H locs 0 0 Q (F0 m 33 ls [.int y_6]) := by
      intro H locs ls hG hl
      cases h
      rw [hQ]
      exact g_iret X hT hG hr hlk dX8_arc_33
    refine lv_if_eq (tgt := 31) hx hb dX8_arc_18 (by decide) (fun cb12 => ?_) (fun cb12 => ?_)
    · have er11 := ite_t cb12 er11
      refine lv_bipush (v := (-102)) hx hb dX8_arc_31 (by decide) ?_
      cases er11
      exact J11 H locs ls hG (lv_sub hl [] rfl)
    · have er11 := ite_f cb12 er11
      refine lv_aload_n hx hb dX8_arc_21 rfl (lv_at hl 0 rfl) ?_
      refine lv_iload_n hx hb dX8_arc_22 rfl (lv_at hl 1 rfl) ?_
      refine lv_iload_n hx hb dX8_arc_23 rfl (lv_at hl 2 rfl) ?_
      refine lv_iload_n hx hb dX8_arc_24 rfl (lv_at hl 3 rfl) ?_
      obtain ⟨r_13, iTold_14, aWaitFrom_15, aWaitTo_16, aToldAt_17, ec18, er11⟩ := bnd5_some er11
      refine g_callVr [.int p1, .int p2, .int p3] [] 0 X hT hG ml_X8_204 (c_X8_arcNow hq ec18) rfl rfl rfl rfl rfl hl.1 (Nat.le_of_ble_eq_true rfl) (by rw [hR]; exact ⟨Nat.le_of_ble_eq_true rfl, Nat.le_of_ble_eq_true rfl⟩) dX8_arc_25 (fun H locs hG => ?_)
      have hG : GH D cI cZ layM q s ([iPageLength, iRoads, iRead, iAltered, iRanked, iStage, iFigures, iNewRoads, iTold_14, iRouted, iRouteSum], [jH], [aPage, aBeginOf, aEndOf, aLengthOf, aCosts, aRankOf, aRoadAt, aWorths, aMiddles, aLeasts, aBusy, aNewBegin, aNewEnd, aNewLength, aIsLeft, aAround, aWhole, aIsNeeded, aWereRanks, aWaitFrom_15, aWaitTo_16, aToldAt_17, aRisen, aUps, aTried, aRoutes]) H locs := hG
      refine lv_goto (tgt := 33) hx hb dX8_arc_28 (by decide) ?_
      cases er11
      exact J11 H locs ls hG (lv_sub hl [] rfl)
  · have h := ite_t cb3 h
    refine lv_bipush (v := (-101)) hx hb dX8_arc_9 (by decide) ?_
    cases h
    rw [hQ]
    exact g_iret X hT hG hr hlk dX8_arc_11
def f8_unpacked (fu : Nat) (p1 : Int32) (iRoads : Int32) (p2 : Int32) (iTold : Int32) (aWaitFrom : (Nat → Int32)) (aWaitTo : (Nat → Int32)) (aToldAt : (Nat → Int32)) (aWorths : (Nat → Int32)) (aMiddles : (Nat → Int32)) (p3 : Int32) : Option (Int32 × Int32 × (Nat → Int32) × (Nat → Int32) × (Nat → Int32)) :=
  bnd1 (f8_areRoads p1 iRoads p2) fun (r_1 : Int32) => if r_1 = 0 then (some ((-101), iTold, aWaitFrom, aWaitTo, aToldAt)) else ckin ((12 * p1) + p2) 144 (if (aWorths ((12 * p1) + p2).toNatClampNeg) < 268435456 then (bnd4 (f8_layUnpacked fu aToldAt p1 aWaitFrom aWaitTo p2 aMiddles) fun (iTold_6 : Int32) (aWaitFrom_7 : (Nat → Int32)) (aWaitTo_8 : (Nat → Int32)) (aToldAt_9 : (Nat → Int32)) => bnd1 (f8_within p3 0 (iTold_6 - 1)) fun (r_11 : Int32) => bnd1 (if r_11 = 0 then (some (-1)) else ckin p3 64 (some (aToldAt_9 p3.toNatClampNeg))) fun (y_13 : Int32) => some (y_13, iTold_6, aWaitFrom_7, aWaitTo_8, aToldAt_9)) else some ((-1), iTold, aWaitFrom, aWaitTo, aToldAt))
set_option maxHeartbeats 4000000 in
set_option maxRecDepth 100000 in
theorem c_X8_unpacked (hq : gJ layM q) {fu : Nat} {p1 : Int32} {p2 : Int32} {p3 : Int32} {o_r : Int32} {o_iTold : Int32} {o_aWaitFrom : (Nat → Int32)} {o_aWaitTo : (Nat → Int32)} {o_aToldAt : (Nat → Int32)} (h : f8_unpacked fu p1 iRoads p2 iTold aWaitFrom aWaitTo aToldAt aWorths aMiddles p3 = some (o_r, o_iTold, o_aWaitFrom, o_aWaitTo, o_aToldAt)) :
    GM l yX8_unpacked cX8_unpacked 4 (some .int) 3 65 D cI cZ layM q [.ref (q 0), .int p1, .int p2, .int p3] ([iPageLength, iRoads, iRead, iAltered, iRanked, iStage, iFigures, iNewRoads, iTold, iRouted, iRouteSum], [jH], [aPage, aBeginOf, aEndOf, aLengthOf, aCosts, aRankOf, aRoadAt, aWorths, aMiddles, aLeasts, aBusy, aNewBegin, aNewEnd, aNewLength, aIsLeft, aAround, aWhole, aIsNeeded, aWereRanks, aWaitFrom, aWaitTo, aToldAt, aRisen, aUps, aTried, aRoutes]) (some (.int o_r)) ([iPageLength, iRoads, iRead, iAltered, iRanked, iStage, iFigures, iNewRoads, o_iTold, iRouted, iRouteSum], [jH], [aPage, aBeginOf, aEndOf, aLengthOf, aCosts, aRankOf, aRoadAt, aWorths, aMiddles, aLeasts, aBusy, aNewBegin, aNewEnd, aNewLength, aIsLeft, aAround, aWhole, aIsNeeded, aWereRanks, o_aWaitFrom, o_aWaitTo, o_aToldAt, aRisen, aUps, aTried, aRoutes]) := by
  refine GM.go RX8 (by decide) rfl (Nat.le_of_ble_eq_true rfl) ?_
  intro p e s m args below meth c ls R Q H locs X hr hlk hT hG hl hR hQ
  have hx := X.1
  have hb := X.2.1
  have hl : lv_has ls 4 [(0, .ref (q 0)), (1, .int p1), (2, .int p2), (3, .int p3)] := hl
  unfold f8_unpacked at h
  refine lv_aload_n hx hb dX8_unpacked_0 rfl (lv_at hl 0 rfl) ?_
  refine lv_iload_n hx hb dX8_unpacked_1 rfl (lv_at hl 1 rfl) ?_
  refine lv_iload_n hx hb dX8_unpacked_2 rfl (lv_at hl 2 rfl) ?_
  obtain ⟨r_1, ec2, h⟩ := bnd1_some h
  refine g_callVr [.int p1, .int p2] [] 0 X hT hG ml_X8_180 (c_X8_areRoads hq ec2) rfl rfl rfl rfl rfl hl.1 (Nat.le_of_ble_eq_true rfl) (by rw [hR]; exact ⟨Nat.le_of_ble_eq_true rfl, Nat.le_of_ble_eq_true rfl⟩) dX8_unpacked_3 (fun H locs hG => ?_)
  refine lv_if_ne (tgt := 12) hx hb dX8_unpacked_6 (by decide) (fun cb3 => ?_) (fun cb3 => ?_)
  · have h := ite_f cb3 h
    refine lv_aload_n hx hb dX8_unpacked_12 rfl (lv_at hl 0 rfl) ?_
    refine g_get (v := .ref (q 8)) X hT hG fl_X8_31 0 rfl rfl rfl dX8_unpacked_13 ?_
    refine lv_bipush (v := 12) hx hb dX8_unpacked_16 (by decide) ?_
    refine lv_iload_n hx hb dX8_unpacked_18 rfl (lv_at hl 1 rfl) ?_
    refine lv_imul hx hb dX8_unpacked_19 ?_
    refine lv_iload_n hx hb dX8_unpacked_20 rfl (lv_at hl 2 rfl) ?_
    refine lv_iadd hx hb dX8_unpacked_21 ?_
    obtain ⟨hi4, h⟩ := ckin_some h
    refine g_ald (f := aWorths) X hT hG 8 rfl rfl hi4 dX8_unpacked_22 ?_
    refine lv_ldc (v := 268435456) hx hb X.2.2.2.1 (X.2.2.2.2 _ cn_X8_136) dX8_unpacked_23 ?_
    refine lv_icmp_lt (tgt := 30) hx hb dX8_unpacked_25 (by decide) (fun cb5 => ?_) (fun cb5 => ?_)
    · have h := ite_t cb5 h
      refine lv_aload_n hx hb dX8_unpacked_30 rfl (lv_at hl 0 rfl) ?_
      refine lv_iload_n hx hb dX8_unpacked_31 rfl (lv_at hl 1 rfl) ?_
      refine lv_iload_n hx hb dX8_unpacked_32 rfl (lv_at hl 2 rfl) ?_
      obtain ⟨iTold_6, aWaitFrom_7, aWaitTo_8, aToldAt_9, ec10, h⟩ := bnd4_some h
      refine g_callVv [.int p1, .int p2] [] 0 X hT hG ml_X8_201 (c_X8_layUnpacked hq ec10) rfl rfl rfl rfl rfl hl.1 (Nat.le_of_ble_eq_true rfl) (by rw [hR]; exact ⟨Nat.le_of_ble_eq_true rfl, Nat.le_of_ble_eq_true rfl⟩) dX8_unpacked_33 (fun H locs hG => ?_)
      have hG : GH D cI cZ layM q s ([iPageLength, iRoads, iRead, iAltered, iRanked, iStage, iFigures, iNewRoads, iTold_6, iRouted, iRouteSum], [jH], [aPage, aBeginOf, aEndOf, aLengthOf, aCosts, aRankOf, aRoadAt, aWorths, aMiddles, aLeasts, aBusy, aNewBegin, aNewEnd, aNewLength, aIsLeft, aAround, aWhole, aIsNeeded, aWereRanks, aWaitFrom_7, aWaitTo_8, aToldAt_9, aRisen, aUps, aTried, aRoutes]) H locs := hG
      refine lv_iload_n hx hb dX8_unpacked_36 rfl (lv_at hl 3 rfl) ?_
      refine lv_iconst (v := 0) hx hb dX8_unpacked_37 (by decide) ?_
      refine lv_aload_n hx hb dX8_unpacked_38 rfl (lv_at hl 0 rfl) ?_
      refine g_get (v := .int iTold_6) X hT hG fl_X8_198 0 rfl rfl rfl dX8_unpacked_39 ?_
      refine lv_iconst (v := 1) hx hb dX8_unpacked_42 (by decide) ?_
      refine lv_isub hx hb dX8_unpacked_43 ?_
      obtain ⟨r_11, ec12, h⟩ := bnd1_some h
      refine g_callSr [.int p3, .int 0, .int (iTold_6 - 1)] [] X hT hG ml_X8_89 (c_X8_within hq ec12) rfl rfl hl.1 (Nat.le_of_ble_eq_true rfl) (by rw [hR]; exact ⟨Nat.le_of_ble_eq_true rfl, Nat.le_of_ble_eq_true rfl⟩) dX8_unpacked_44 (fun H locs hG => ?_)
      obtain ⟨y_13, er14, h⟩ := bnd1_some h
      have J14 : ∀ (H : Heap) (locs : List Loc) (ls : Array Slot), GH D cI cZ layM q s ([iPageLength, iRoads, iRead, iAltered, iRanked, iStage, iFigures, iNewRoads, iTold_6, iRouted, iRouteSum], [jH], [aPage, aBeginOf, aEndOf, aLengthOf, aCosts, aRankOf, aRoadAt, aWorths, aMiddles, aLeasts, aBusy, aNewBegin, aNewEnd, aNewLength, aIsLeft, aAround, aWhole, aIsNeeded, aWereRanks, aWaitFrom_7, aWaitTo_8, aToldAt_9, aRisen, aUps, aTried, aRoutes]) H locs → lv_has ls 4 [] → W p l e R s m args below meth c H locs 0 0 Q (F0 m 60 ls [.int y_13]) := by
        intro H locs ls hG hl
        cases h
        rw [hQ]
        exact g_iret X hT hG hr hlk dX8_unpacked_60
      refine lv_if_eq (tgt := 59) hx hb dX8_unpacked_47 (by decide) (fun cb15 => ?_) (fun cb15 => ?_)
      · have er14 := ite_t cb15 er14
        refine lv_iconst (v := (-1)) hx hb dX8_unpacked_59 (by decide) ?_
        cases er14
        exact J14 H locs ls hG (lv_sub hl [] rfl)
      · have er14 := ite_f cb15 er14
        refine lv_aload_n hx hb dX8_unpacked_50 rfl (lv_at hl 0 rfl) ?_
        refine g_get (v := .ref (q 22)) X hT hG fl_X8_74 0 rfl rfl rfl dX8_unpacked_51 ?_
        refine lv_iload_n hx hb dX8_unpacked_54 rfl (lv_at hl 3 rfl) ?_
        obtain ⟨hi16, er14⟩ := ckin_some er14
        refine g_ald (f := aToldAt_9) X hT hG 22 rfl rfl hi16 dX8_unpacked_55 ?_
        refine lv_goto (tgt := 60) hx hb dX8_unpacked_56 (by decide) ?_
        cases er14
        exact J14 H locs ls hG (lv_sub hl [] rfl)
    · have h := ite_f cb5 h
      refine lv_iconst (v := (-1)) hx hb dX8_unpacked_28 (by decide) ?_
      cases h
      rw [hQ]
      exact g_iret X hT hG hr hlk dX8_unpacked_29
  · have h := ite_t cb3 h
    refine lv_bipush (v := (-101)) hx hb dX8_unpacked_9 (by decide) ?_
    cases h
    rw [hQ]
    exact g_iret X hT hG hr hlk dX8_unpacked_11
def f8_layRisen_b1 (iRoads : Int32) (p1 : Int32) (x3_1 : Int32) (aRisen_2 : (Nat → Int32)) : Option ((Int32 × (Nat → Int32)) ⊕ ((Nat → Int32))) :=
  if iRoads ≤ x3_1 then (some (.inr aRisen_2)) else bnd1 (if x3_1 = p1 then (some 0) else some 268435456) fun (y_6 : Int32) => ckin x3_1 12 (bd (upd aRisen_2 x3_1.toNatClampNeg y_6) fun aRisen_10 => bd (x3_1 + 1) fun x3_11 => some (.inl (x3_11, aRisen_10)))
def f8_layRisen_b3 (iRoads : Int32) (p2 : Int32) (aRoadAt : (Nat → Int32)) (x4_21 : Int32) (aWorths : (Nat → Int32)) (x5_23 : Int32) (aRisen_24 : (Nat → Int32)) : Option ((Int32 × (Nat → Int32)) ⊕ ((Nat → Int32))) :=
  if iRoads ≤ x5_23 then (some (.inr aRisen_24)) else bnd1 (if p2 = 0 then (some ((iRoads - 1) - x5_23)) else some x5_23) fun (y_28 : Int32) => ckin y_28 12 (bd ((aRoadAt y_28.toNatClampNeg)) fun x6_32 => ckin x4_21 12 (ckin ((12 * x4_21) + x6_32) 144 (bd (((aRisen_24 x4_21.toNatClampNeg) + (aWorths ((12 * x4_21) + x6_32).toNatClampNeg))) fun x7_35 => ckin x6_32 12 (bnd1 (if (aRisen_24 x6_32.toNatClampNeg) ≤ x7_35 then (ckin x6_32 12 (some (aRisen_24 x6_32.toNatClampNeg))) else some x7_35) fun (y_37 : Int32) => ckin x6_32 12 (bd (upd aRisen_24 x6_32.toNatClampNeg y_37) fun aRisen_42 => bd (x5_23 + 1) fun x5_43 => some (.inl (x5_43, aRisen_42)))))))
def f8_layRisen_b2 (fu : Nat) (iRoads : Int32) (p2 : Int32) (aRoadAt : (Nat → Int32)) (aWorths : (Nat → Int32)) (x3_12 : Int32) (aRisen_13 : (Nat → Int32)) : Option ((Int32 × (Nat → Int32)) ⊕ ((Nat → Int32))) :=
  if iRoads ≤ x3_12 then (some (.inr aRisen_13)) else bnd1 (if p2 = 0 then (some ((iRoads - 1) - x3_12)) else some x3_12) fun (y_17 : Int32) => ckin y_17 12 (bd ((aRoadAt y_17.toNatClampNeg)) fun x4_21 => bd ((x3_12 + 1)) fun x5_22 => bnd1 (lpG (fun z => f8_layRisen_b3 iRoads p2 aRoadAt x4_21 aWorths z.1 z.2) fu (x5_22, aRisen_13)) fun (aRisen_25 : (Nat → Int32)) => bd (x3_12 + 1) fun x3_44 => some (.inl (x3_44, aRisen_25)))
def f8_layRisen (fu : Nat) (iRoads : Int32) (p1 : Int32) (aRisen : (Nat → Int32)) (p2 : Int32) (aRoadAt : (Nat → Int32)) (aWorths : (Nat → Int32)) : Option ((Nat → Int32)) :=
  bnd1 (lpG (fun z => f8_layRisen_b1 iRoads p1 z.1 z.2) fu ((0 : Int32), aRisen)) fun (aRisen_3 : (Nat → Int32)) => bnd1 (lpG (fun z => f8_layRisen_b2 fu iRoads p2 aRoadAt aWorths z.1 z.2) fu ((0 : Int32), aRisen_3)) fun (aRisen_14 : (Nat → Int32)) => some aRisen_14
set_option maxHeartbeats 4000000 in
set_option maxRecDepth 100000 in
theorem c_X8_layRisen (hq : gJ layM q) {fu : Nat} {p1 : Int32} {p2 : Int32} {o_aRisen : (Nat → Int32)} (h : f8_layRisen fu iRoads p1 aRisen p2 aRoadAt aWorths = some o_aRisen) :
    GM l yX8_layRisen cX8_layRisen 8 none 0 0 D cI cZ layM q [.ref (q 0), .int p1, .int p2] ([iPageLength, iRoads, iRead, iAltered, iRanked, iStage, iFigures, iNewRoads, iTold, iRouted, iRouteSum], [jH], [aPage, aBeginOf, aEndOf, aLengthOf, aCosts, aRankOf, aRoadAt, aWorths, aMiddles, aLeasts, aBusy, aNewBegin, aNewEnd, aNewLength, aIsLeft, aAround, aWhole, aIsNeeded, aWereRanks, aWaitFrom, aWaitTo, aToldAt, aRisen, aUps, aTried, aRoutes]) none ([iPageLength, iRoads, iRead, iAltered, iRanked, iStage, iFigures, iNewRoads, iTold, iRouted, iRouteSum], [jH], [aPage, aBeginOf, aEndOf, aLengthOf, aCosts, aRankOf, aRoadAt, aWorths, aMiddles, aLeasts, aBusy, aNewBegin, aNewEnd, aNewLength, aIsLeft, aAround, aWhole, aIsNeeded, aWereRanks, aWaitFrom, aWaitTo, aToldAt, o_aRisen, aUps, aTried, aRoutes]) := by
  refine GM.go RX8 (by decide) rfl (Nat.le_of_ble_eq_true rfl) ?_
  intro p e s m args below meth c ls R Q H locs X hr hlk hT hG hl hR hQ
  have hx := X.1
  have hb := X.2.1
  have hl : lv_has ls 8 [(0, .ref (q 0)), (1, .int p1), (2, .int p2)] := hl
  unfold f8_layRisen at h
  refine lv_iconst (v := 0) hx hb dX8_layRisen_0 (by decide) ?_
  refine lv_istore_n (lv' := [(3, .int 0), (0, .ref (q 0)), (1, .int p1), (2, .int p2)]) hx hb dX8_layRisen_1 rfl hl (by decide) rfl (fun ls hl => ?_)
  obtain ⟨aRisen_3, eL4, h⟩ := bnd1_some h
  have JX4 : ∀ (H : Heap) (locs : List Loc) (ls : Array Slot), GH D cI cZ layM q s ([iPageLength, iRoads, iRead, iAltered, iRanked, iStage, iFigures, iNewRoads, iTold, iRouted, iRouteSum], [jH], [aPage, aBeginOf, aEndOf, aLengthOf, aCosts, aRankOf, aRoadAt, aWorths, aMiddles, aLeasts, aBusy, aNewBegin, aNewEnd, aNewLength, aIsLeft, aAround, aWhole, aIsNeeded, aWereRanks, aWaitFrom, aWaitTo, aToldAt, aRisen_3, aUps, aTried, aRoutes]) H locs → lv_has ls 8 [(0, .ref (q 0)), (2, .int p2)] → W p l e R s m args below meth c H locs 0 0 Q (F0 m 33 ls []) := by
    intro H locs ls hG hl
    refine lv_iconst (v := 0) hx hb dX8_layRisen_33 (by decide) ?_
    refine lv_istore_n (lv' := [(3, .int 0), (0, .ref (q 0)), (2, .int p2)]) hx hb dX8_layRisen_34 rfl hl (by decide) rfl (fun ls hl => ?_)
    obtain ⟨aRisen_14, eL15, h⟩ := bnd1_some h
    have JX15 : ∀ (H : Heap) (locs : List Loc) (ls : Array Slot), GH D cI cZ layM q s ([iPageLength, iRoads, iRead, iAltered, iRanked, iStage, iFigures, iNewRoads, iTold, iRouted, iRouteSum], [jH], [aPage, aBeginOf, aEndOf, aLengthOf, aCosts, aRankOf, aRoadAt, aWorths, aMiddles, aLeasts, aBusy, aNewBegin, aNewEnd, aNewLength, aIsLeft, aAround, aWhole, aIsNeeded, aWereRanks, aWaitFrom, aWaitTo, aToldAt, aRisen_14, aUps, aTried, aRoutes]) H locs → lv_has ls 8 [] → W p l e R s m args below meth c H locs 0 0 Q (F0 m 171 ls []) := by
      intro H locs ls hG hl
      cases h
      rw [hQ]
      exact g_vret X hT hG hr hlk dX8_layRisen_171
    refine lpG_W (Wh := fun z => ∀ (H : Heap) (locs : List Loc) (ls : Array Slot), GH D cI cZ layM q s ([iPageLength, iRoads, iRead, iAltered, iRanked, iStage, iFigures, iNewRoads, iTold, iRouted, iRouteSum], [jH], [aPage, aBeginOf, aEndOf, aLengthOf, aCosts, aRankOf, aRoadAt, aWorths, aMiddles, aLeasts, aBusy, aNewBegin, aNewEnd, aNewLength, aIsLeft, aAround, aWhole, aIsNeeded, aWereRanks, aWaitFrom, aWaitTo, aToldAt, z.2, aUps, aTried, aRoutes]) H locs → lv_has ls 8 [(0, .ref (q 0)), (2, .int p2), (3, .int (z.1))] → W p l e R s m args below meth c H locs 0 0 Q (F0 m 35 ls [])) ?_ fu _ eL15 H locs ls hG (lv_sub hl [1, 2, 0] rfl)
    intro z rr15 hb15 hin15 hout15
    obtain ⟨x3_12, aRisen_13⟩ := z
    intro H locs ls hG hl
    have hb15 : f8_layRisen_b2 fu iRoads p2 aRoadAt aWorths x3_12 aRisen_13 = some rr15 := hb15
    have hG : GH D cI cZ layM q s ([iPageLength, iRoads, iRead, iAltered, iRanked, iStage, iFigures, iNewRoads, iTold, iRouted, iRouteSum], [jH], [aPage, aBeginOf, aEndOf, aLengthOf, aCosts, aRankOf, aRoadAt, aWorths, aMiddles, aLeasts, aBusy, aNewBegin, aNewEnd, aNewLength, aIsLeft, aAround, aWhole, aIsNeeded, aWereRanks, aWaitFrom, aWaitTo, aToldAt, aRisen_13, aUps, aTried, aRoutes]) H locs := hG
    have hl : lv_has ls 8 [(0, .ref (q 0)), (2, .int p2), (3, .int x3_12)] := hl
    unfold f8_layRisen_b2 at hb15
    refine lv_iload_n hx hb dX8_layRisen_35 rfl (lv_at hl 2 rfl) ?_
    refine lv_aload_n hx hb dX8_layRisen_36 rfl (lv_at hl 0 rfl) ?_
    refine g_get (v := .int iRoads) X hT hG fl_X8_120 0 rfl rfl rfl dX8_layRisen_37 ?_
    refine lv_icmp_ge (tgt := 171) hx hb dX8_layRisen_40 (by decide) (fun cb16 => ?_) (fun cb16 => ?_)
    · have hb15 := ite_t cb16 hb15
      have eo := hout15 _ (Option.some.inj hb15).symm
      cases eo
      exact JX15 H locs ls hG (lv_sub hl [] rfl)
    · have hb15 := ite_f cb16 hb15
      refine lv_aload_n hx hb dX8_layRisen_43 rfl (lv_at hl 0 rfl) ?_
      refine g_get (v := .ref (q 7)) X hT hG fl_X8_28 0 rfl rfl rfl dX8_layRisen_44 ?_
      refine lv_iload_n hx hb dX8_layRisen_47 rfl (lv_at hl 1 rfl) ?_
      obtain ⟨y_17, er18, hb15⟩ := bnd1_some hb15
      have J18 : ∀ (H : Heap) (locs : List Loc) (ls : Array Slot), GH D cI cZ layM q s ([iPageLength, iRoads, iRead, iAltered, iRanked, iStage, iFigures, iNewRoads, iTold, iRouted, iRouteSum], [jH], [aPage, aBeginOf, aEndOf, aLengthOf, aCosts, aRankOf, aRoadAt, aWorths, aMiddles, aLeasts, aBusy, aNewBegin, aNewEnd, aNewLength, aIsLeft, aAround, aWhole, aIsNeeded, aWereRanks, aWaitFrom, aWaitTo, aToldAt, aRisen_13, aUps, aTried, aRoutes]) H locs → lv_has ls 8 [(0, .ref (q 0)), (2, .int p2), (3, .int x3_12)] → W p l e R s m args below meth c H locs 0 0 Q (F0 m 63 ls [.int y_17, .ref (q 7)]) := by
        intro H locs ls hG hl
        obtain ⟨hi20, hb15⟩ := ckin_some hb15
        refine g_ald (f := aRoadAt) X hT hG 7 rfl rfl hi20 dX8_layRisen_63 ?_
        refine lv_topi (fun x4_21 ex4_21 => ?_)
        have hb15 := bd_e ex4_21 hb15
        refine lv_istore (lv' := [(4, .int x4_21), (0, .ref (q 0)), (2, .int p2), (3, .int x3_12)]) hx hb dX8_layRisen_64 hl (by decide) rfl (fun ls hl => ?_)
        refine lv_iload_n hx hb dX8_layRisen_66 rfl (lv_at hl 3 rfl) ?_
        refine lv_iconst (v := 1) hx hb dX8_layRisen_67 (by decide) ?_
        refine lv_iadd hx hb dX8_layRisen_68 ?_
        refine lv_topi (fun x5_22 ex5_22 => ?_)
        have hb15 := bd_e ex5_22 hb15
        refine lv_istore (lv' := [(5, .int x5_22), (4, .int x4_21), (0, .ref (q 0)), (2, .int p2), (3, .int x3_12)]) hx hb dX8_layRisen_69 hl (by decide) rfl (fun ls hl => ?_)
        obtain ⟨aRisen_25, eL26, hb15⟩ := bnd1_some hb15
        have JX26 : ∀ (H : Heap) (locs : List Loc) (ls : Array Slot), GH D cI cZ layM q s ([iPageLength, iRoads, iRead, iAltered, iRanked, iStage, iFigures, iNewRoads, iTold, iRouted, iRouteSum], [jH], [aPage, aBeginOf, aEndOf, aLengthOf, aCosts, aRankOf, aRoadAt, aWorths, aMiddles, aLeasts, aBusy, aNewBegin, aNewEnd, aNewLength, aIsLeft, aAround, aWhole, aIsNeeded, aWereRanks, aWaitFrom, aWaitTo, aToldAt, aRisen_25, aUps, aTried, aRoutes]) H locs → lv_has ls 8 [(0, .ref (q 0)), (2, .int p2), (3, .int x3_12)] → W p l e R s m args below meth c H locs 0 0 Q (F0 m 165 ls []) := by
          intro H locs ls hG hl
          obtain ⟨x3_44, ex3_44⟩ : ∃ z : Int32, z = x3_12 + 1 := ⟨_, rfl⟩
          have hb15 := bd_e ex3_44 hb15
          refine lv_iinc (v := x3_44) (lv' := [(3, .int x3_44), (0, .ref (q 0)), (2, .int p2)]) hx hb dX8_layRisen_165 hl (k := 2) rfl (by rw [ex3_44]; rfl) (by decide) rfl (fun ls hl => ?_)
          refine lv_goto (tgt := 35) hx hb dX8_layRisen_168 (by decide) ?_
          exact hin15 _ (Option.some.inj hb15).symm H locs ls hG (lv_sub hl [1, 2, 0] rfl)
        refine lpG_W (Wh := fun z => ∀ (H : Heap) (locs : List Loc) (ls : Array Slot), GH D cI cZ layM q s ([iPageLength, iRoads, iRead, iAltered, iRanked, iStage, iFigures, iNewRoads, iTold, iRouted, iRouteSum], [jH], [aPage, aBeginOf, aEndOf, aLengthOf, aCosts, aRankOf, aRoadAt, aWorths, aMiddles, aLeasts, aBusy, aNewBegin, aNewEnd, aNewLength, aIsLeft, aAround, aWhole, aIsNeeded, aWereRanks, aWaitFrom, aWaitTo, aToldAt, z.2, aUps, aTried, aRoutes]) H locs → lv_has ls 8 [(0, .ref (q 0)), (2, .int p2), (3, .int x3_12), (4, .int x4_21), (5, .int (z.1))] → W p l e R s m args below meth c H locs 0 0 Q (F0 m 71 ls [])) ?_ fu _ eL26 H locs ls hG (lv_sub hl [2, 3, 4, 1, 0] rfl)
        intro z rr26 hb26 hin26 hout26
        obtain ⟨x5_23, aRisen_24⟩ := z
        intro H locs ls hG hl
        have hb26 : f8_layRisen_b3 iRoads p2 aRoadAt x4_21 aWorths x5_23 aRisen_24 = some rr26 := hb26
        have hG : GH D cI cZ layM q s ([iPageLength, iRoads, iRead, iAltered, iRanked, iStage, iFigures, iNewRoads, iTold, iRouted, iRouteSum], [jH], [aPage, aBeginOf, aEndOf, aLengthOf, aCosts, aRankOf, aRoadAt, aWorths, aMiddles, aLeasts, aBusy, aNewBegin, aNewEnd, aNewLength, aIsLeft, aAround, aWhole, aIsNeeded, aWereRanks, aWaitFrom, aWaitTo, aToldAt, aRisen_24, aUps, aTried, aRoutes]) H locs := hG
        have hl : lv_has ls 8 [(0, .ref (q 0)), (2, .int p2), (3, .int x3_12), (4, .int x4_21), (5, .int x5_23)] := hl
        unfold f8_layRisen_b3 at hb26
        refine lv_iload hx hb dX8_layRisen_71 (lv_at hl 4 rfl) ?_
        refine lv_aload_n hx hb dX8_layRisen_73 rfl (lv_at hl 0 rfl) ?_
        refine g_get (v := .int iRoads) X hT hG fl_X8_120 0 rfl rfl rfl dX8_layRisen_74 ?_
        refine lv_icmp_ge (tgt := 165) hx hb dX8_layRisen_77 (by decide) (fun cb27 => ?_) (fun cb27 => ?_)
        · have hb26 := ite_t cb27 hb26
          have eo := hout26 _ (Option.some.inj hb26).symm
          cases eo
          exact JX26 H locs ls hG (lv_sub hl [0, 1, 2] rfl)
        · have hb26 := ite_f cb27 hb26
          refine lv_aload_n hx hb dX8_layRisen_80 rfl (lv_at hl 0 rfl) ?_
          refine g_get (v := .ref (q 7)) X hT hG fl_X8_28 0 rfl rfl rfl dX8_layRisen_81 ?_
          refine lv_iload_n hx hb dX8_layRisen_84 rfl (lv_at hl 1 rfl) ?_
          obtain ⟨y_28, er29, hb26⟩ := bnd1_some hb26
          have J29 : ∀ (H : Heap) (locs : List Loc) (ls : Array Slot), GH D cI cZ layM q s ([iPageLength, iRoads, iRead, iAltered, iRanked, iStage, iFigures, iNewRoads, iTold, iRouted, iRouteSum], [jH], [aPage, aBeginOf, aEndOf, aLengthOf, aCosts, aRankOf, aRoadAt, aWorths, aMiddles, aLeasts, aBusy, aNewBegin, aNewEnd, aNewLength, aIsLeft, aAround, aWhole, aIsNeeded, aWereRanks, aWaitFrom, aWaitTo, aToldAt, aRisen_24, aUps, aTried, aRoutes]) H locs → lv_has ls 8 [(0, .ref (q 0)), (2, .int p2), (3, .int x3_12), (4, .int x4_21), (5, .int x5_23)] → W p l e R s m args below meth c H locs 0 0 Q (F0 m 102 ls [.int y_28, .ref (q 7)]) := by
            intro H locs ls hG hl
            obtain ⟨hi31, hb26⟩ := ckin_some hb26
            refine g_ald (f := aRoadAt) X hT hG 7 rfl rfl hi31 dX8_layRisen_102 ?_
            refine lv_topi (fun x6_32 ex6_32 => ?_)
            have hb26 := bd_e ex6_32 hb26
            refine lv_istore (lv' := [(6, .int x6_32), (0, .ref (q 0)), (2, .int p2), (3, .int x3_12), (4, .int x4_21), (5, .int x5_23)]) hx hb dX8_layRisen_103 hl (by decide) rfl (fun ls hl => ?_)
            refine lv_aload_n hx hb dX8_layRisen_105 rfl (lv_at hl 1 rfl) ?_
            refine g_get (v := .ref (q 23)) X hT hG fl_X8_77 0 rfl rfl rfl dX8_layRisen_106 ?_
            refine lv_iload hx hb dX8_layRisen_109 (lv_at hl 4 rfl) ?_
            obtain ⟨hi33, hb26⟩ := ckin_some hb26
            refine g_ald (f := aRisen_24) X hT hG 23 rfl rfl hi33 dX8_layRisen_111 ?_
            refine lv_aload_n hx hb dX8_layRisen_112 rfl (lv_at hl 1 rfl) ?_
            refine g_get (v := .ref (q 8)) X hT hG fl_X8_31 0 rfl rfl rfl dX8_layRisen_113 ?_
            refine lv_bipush (v := 12) hx hb dX8_layRisen_116 (by decide) ?_
            refine lv_iload hx hb dX8_layRisen_118 (lv_at hl 4 rfl) ?_
            refine lv_imul hx hb dX8_layRisen_120 ?_
            refine lv_iload hx hb dX8_layRisen_121 (lv_at hl 0 rfl) ?_
            refine lv_iadd hx hb dX8_layRisen_123 ?_
            obtain ⟨hi34, hb26⟩ := ckin_some hb26
            refine g_ald (f := aWorths) X hT hG 8 rfl rfl hi34 dX8_layRisen_124 ?_
            refine lv_iadd hx hb dX8_layRisen_125 ?_
            refine lv_topi (fun x7_35 ex7_35 => ?_)
            have hb26 := bd_e ex7_35 hb26
            refine lv_istore (lv' := [(7, .int x7_35), (6, .int x6_32), (0, .ref (q 0)), (2, .int p2), (3, .int x3_12), (4, .int x4_21), (5, .int x5_23)]) hx hb dX8_layRisen_126 hl (by decide) rfl (fun ls hl => ?_)
            refine lv_aload_n hx hb dX8_layRisen_128 rfl (lv_at hl 2 rfl) ?_
            refine g_get (v := .ref (q 23)) X hT hG fl_X8_77 0 rfl rfl rfl dX8_layRisen_129 ?_
            refine lv_iload hx hb dX8_layRisen_132 (lv_at hl 1 rfl) ?_
            refine lv_iload hx hb dX8_layRisen_134 (lv_at hl 0 rfl) ?_
            refine lv_aload_n hx hb dX8_layRisen_136 rfl (lv_at hl 2 rfl) ?_
            refine g_get (v := .ref (q 23)) X hT hG fl_X8_77 0 rfl rfl rfl dX8_layRisen_137 ?_
            refine lv_iload hx hb dX8_layRisen_140 (lv_at hl 1 rfl) ?_
            obtain ⟨hi36, hb26⟩ := ckin_some hb26
            refine g_ald (f := aRisen_24) X hT hG 23 rfl rfl hi36 dX8_layRisen_142 ?_
            obtain ⟨y_37, er38, hb26⟩ := bnd1_some hb26
            have J38 : ∀ (H : Heap) (locs : List Loc) (ls : Array Slot), GH D cI cZ layM q s ([iPageLength, iRoads, iRead, iAltered, iRanked, iStage, iFigures, iNewRoads, iTold, iRouted, iRouteSum], [jH], [aPage, aBeginOf, aEndOf, aLengthOf, aCosts, aRankOf, aRoadAt, aWorths, aMiddles, aLeasts, aBusy, aNewBegin, aNewEnd, aNewLength, aIsLeft, aAround, aWhole, aIsNeeded, aWereRanks, aWaitFrom, aWaitTo, aToldAt, aRisen_24, aUps, aTried, aRoutes]) H locs → lv_has ls 8 [(0, .ref (q 0)), (2, .int p2), (3, .int x3_12), (4, .int x4_21), (5, .int x5_23)] → W p l e R s m args below meth c H locs 0 0 Q (F0 m 158 ls [.int y_37, .int x6_32, .ref (q 23)]) := by
              intro H locs ls hG hl
              obtain ⟨hi41, hb26⟩ := ckin_some hb26
              obtain ⟨aRisen_42, eaRisen_42⟩ : ∃ z : Nat → Int32, z = upd aRisen_24 x6_32.toNatClampNeg y_37 := ⟨_, rfl⟩
              have hb26 := bd_e eaRisen_42 hb26
              refine g_ast (w' := ([iPageLength, iRoads, iRead, iAltered, iRanked, iStage, iFigures, iNewRoads, iTold, iRouted, iRouteSum], [jH], [aPage, aBeginOf, aEndOf, aLengthOf, aCosts, aRankOf, aRoadAt, aWorths, aMiddles, aLeasts, aBusy, aNewBegin, aNewEnd, aNewLength, aIsLeft, aAround, aWhole, aIsNeeded, aWereRanks, aWaitFrom, aWaitTo, aToldAt, aRisen_42, aUps, aTried, aRoutes])) X hT hq hG 23 rfl ga_M_aRisen (Nat.le_of_ble_eq_true rfl) hi41 (by subst eaRisen_42; rfl) dX8_layRisen_158 (fun H locs hG => ?_)
              obtain ⟨x5_43, ex5_43⟩ : ∃ z : Int32, z = x5_23 + 1 := ⟨_, rfl⟩
              have hb26 := bd_e ex5_43 hb26
              refine lv_iinc (v := x5_43) (lv' := [(5, .int x5_43), (0, .ref (q 0)), (2, .int p2), (3, .int x3_12), (4, .int x4_21)]) hx hb dX8_layRisen_159 hl (k := 4) rfl (by rw [ex5_43]; rfl) (by decide) rfl (fun ls hl => ?_)
              refine lv_goto (tgt := 71) hx hb dX8_layRisen_162 (by decide) ?_
              exact hin26 _ (Option.some.inj hb26).symm H locs ls hG (lv_sub hl [1, 2, 3, 4, 0] rfl)
            refine lv_icmp_ge (tgt := 151) hx hb dX8_layRisen_143 (by decide) (fun cb39 => ?_) (fun cb39 => ?_)
            · have er38 := ite_t cb39 er38
              refine lv_aload_n hx hb dX8_layRisen_151 rfl (lv_at hl 2 rfl) ?_
              refine g_get (v := .ref (q 23)) X hT hG fl_X8_77 0 rfl rfl rfl dX8_layRisen_152 ?_
              refine lv_iload hx hb dX8_layRisen_155 (lv_at hl 1 rfl) ?_
              obtain ⟨hi40, er38⟩ := ckin_some er38
              refine g_ald (f := aRisen_24) X hT hG 23 rfl rfl hi40 dX8_layRisen_157 ?_
              cases er38
              exact J38 H locs ls hG (lv_sub hl [2, 3, 4, 5, 6] rfl)
            · have er38 := ite_f cb39 er38
              refine lv_iload hx hb dX8_layRisen_146 (lv_at hl 0 rfl) ?_
              refine lv_goto (tgt := 158) hx hb dX8_layRisen_148 (by decide) ?_
              cases er38
              exact J38 H locs ls hG (lv_sub hl [2, 3, 4, 5, 6] rfl)
          refine lv_if_eq (tgt := 93) hx hb dX8_layRisen_85 (by decide) (fun cb30 => ?_) (fun cb30 => ?_)
          · have er29 := ite_t cb30 er29
            refine lv_aload_n hx hb dX8_layRisen_93 rfl (lv_at hl 0 rfl) ?_
            refine g_get (v := .int iRoads) X hT hG fl_X8_120 0 rfl rfl rfl dX8_layRisen_94 ?_
            refine lv_iconst (v := 1) hx hb dX8_layRisen_97 (by decide) ?_
            refine lv_isub hx hb dX8_layRisen_98 ?_
            refine lv_iload hx hb dX8_layRisen_99 (lv_at hl 4 rfl) ?_
            refine lv_isub hx hb dX8_layRisen_101 ?_
            cases er29
            exact J29 H locs ls hG (lv_sub hl [0, 1, 2, 3, 4] rfl)
          · have er29 := ite_f cb30 er29
            refine lv_iload hx hb dX8_layRisen_88 (lv_at hl 4 rfl) ?_
            refine lv_goto (tgt := 102) hx hb dX8_layRisen_90 (by decide) ?_
            cases er29
            exact J29 H locs ls hG (lv_sub hl [0, 1, 2, 3, 4] rfl)
      refine lv_if_eq (tgt := 55) hx hb dX8_layRisen_48 (by decide) (fun cb19 => ?_) (fun cb19 => ?_)
      · have er18 := ite_t cb19 er18
        refine lv_aload_n hx hb dX8_layRisen_55 rfl (lv_at hl 0 rfl) ?_
        refine g_get (v := .int iRoads) X hT hG fl_X8_120 0 rfl rfl rfl dX8_layRisen_56 ?_
        refine lv_iconst (v := 1) hx hb dX8_layRisen_59 (by decide) ?_
        refine lv_isub hx hb dX8_layRisen_60 ?_
        refine lv_iload_n hx hb dX8_layRisen_61 rfl (lv_at hl 2 rfl) ?_
        refine lv_isub hx hb dX8_layRisen_62 ?_
        cases er18
        exact J18 H locs ls hG (lv_sub hl [0, 1, 2] rfl)
      · have er18 := ite_f cb19 er18
        refine lv_iload_n hx hb dX8_layRisen_51 rfl (lv_at hl 2 rfl) ?_
        refine lv_goto (tgt := 63) hx hb dX8_layRisen_52 (by decide) ?_
        cases er18
        exact J18 H locs ls hG (lv_sub hl [0, 1, 2] rfl)
  refine lpG_W (Wh := fun z => ∀ (H : Heap) (locs : List Loc) (ls : Array Slot), GH D cI cZ layM q s ([iPageLength, iRoads, iRead, iAltered, iRanked, iStage, iFigures, iNewRoads, iTold, iRouted, iRouteSum], [jH], [aPage, aBeginOf, aEndOf, aLengthOf, aCosts, aRankOf, aRoadAt, aWorths, aMiddles, aLeasts, aBusy, aNewBegin, aNewEnd, aNewLength, aIsLeft, aAround, aWhole, aIsNeeded, aWereRanks, aWaitFrom, aWaitTo, aToldAt, z.2, aUps, aTried, aRoutes]) H locs → lv_has ls 8 [(0, .ref (q 0)), (1, .int p1), (2, .int p2), (3, .int (z.1))] → W p l e R s m args below meth c H locs 0 0 Q (F0 m 2 ls [])) ?_ fu _ eL4 H locs ls hG (lv_sub hl [1, 2, 3, 0] rfl)
  intro z rr4 hb4 hin4 hout4
  obtain ⟨x3_1, aRisen_2⟩ := z
  intro H locs ls hG hl
  have hb4 : f8_layRisen_b1 iRoads p1 x3_1 aRisen_2 = some rr4 := hb4
  have hG : GH D cI cZ layM q s ([iPageLength, iRoads, iRead, iAltered, iRanked, iStage, iFigures, iNewRoads, iTold, iRouted, iRouteSum], [jH], [aPage, aBeginOf, aEndOf, aLengthOf, aCosts, aRankOf, aRoadAt, aWorths, aMiddles, aLeasts, aBusy, aNewBegin, aNewEnd, aNewLength, aIsLeft, aAround, aWhole, aIsNeeded, aWereRanks, aWaitFrom, aWaitTo, aToldAt, aRisen_2, aUps, aTried, aRoutes]) H locs := hG
  have hl : lv_has ls 8 [(0, .ref (q 0)), (1, .int p1), (2, .int p2), (3, .int x3_1)] := hl
  unfold f8_layRisen_b1 at hb4
  refine lv_iload_n hx hb dX8_layRisen_2 rfl (lv_at hl 3 rfl) ?_
  refine lv_aload_n hx hb dX8_layRisen_3 rfl (lv_at hl 0 rfl) ?_
  refine g_get (v := .int iRoads) X hT hG fl_X8_120 0 rfl rfl rfl dX8_layRisen_4 ?_
  refine lv_icmp_ge (tgt := 33) hx hb dX8_layRisen_7 (by decide) (fun cb5 => ?_) (fun cb5 => ?_)
  · have hb4 := ite_t cb5 hb4
    have eo := hout4 _ (Option.some.inj hb4).symm
    cases eo
    exact JX4 H locs ls hG (lv_sub hl [0, 2] rfl)
  · have hb4 := ite_f cb5 hb4
    refine lv_aload_n hx hb dX8_layRisen_10 rfl (lv_at hl 0 rfl) ?_
    refine g_get (v := .ref (q 23)) X hT hG fl_X8_77 0 rfl rfl rfl dX8_layRisen_11 ?_
    refine lv_iload_n hx hb dX8_layRisen_14 rfl (lv_at hl 3 rfl) ?_
    refine lv_iload_n hx hb dX8_layRisen_15 rfl (lv_at hl 3 rfl) ?_
    refine lv_iload_n hx hb dX8_layRisen_16 rfl (lv_at hl 1 rfl) ?_
    obtain ⟨y_6, er7, hb4⟩ := bnd1_some hb4
    have J7 : ∀ (H : Heap) (locs : List Loc) (ls : Array Slot), GH D cI cZ layM q s ([iPageLength, iRoads, iRead, iAltered, iRanked, iStage, iFigures, iNewRoads, iTold, iRouted, iRouteSum], [jH], [aPage, aBeginOf, aEndOf, aLengthOf, aCosts, aRankOf, aRoadAt, aWorths, aMiddles, aLeasts, aBusy, aNewBegin, aNewEnd, aNewLength, aIsLeft, aAround, aWhole, aIsNeeded, aWereRanks, aWaitFrom, aWaitTo, aToldAt, aRisen_2, aUps, aTried, aRoutes]) H locs → lv_has ls 8 [(0, .ref (q 0)), (1, .int p1), (2, .int p2), (3, .int x3_1)] → W p l e R s m args below meth c H locs 0 0 Q (F0 m 26 ls [.int y_6, .int x3_1, .ref (q 23)]) := by
      intro H locs ls hG hl
      obtain ⟨hi9, hb4⟩ := ckin_some hb4
      obtain ⟨aRisen_10, eaRisen_10⟩ : ∃ z : Nat → Int32, z = upd aRisen_2 x3_1.toNatClampNeg y_6 := ⟨_, rfl⟩
      have hb4 := bd_e eaRisen_10 hb4
      refine g_ast (w' := ([iPageLength, iRoads, iRead, iAltered, iRanked, iStage, iFigures, iNewRoads, iTold, iRouted, iRouteSum], [jH], [aPage, aBeginOf, aEndOf, aLengthOf, aCosts, aRankOf, aRoadAt, aWorths, aMiddles, aLeasts, aBusy, aNewBegin, aNewEnd, aNewLength, aIsLeft, aAround, aWhole, aIsNeeded, aWereRanks, aWaitFrom, aWaitTo, aToldAt, aRisen_10, aUps, aTried, aRoutes])) X hT hq hG 23 rfl ga_M_aRisen (Nat.le_of_ble_eq_true rfl) hi9 (by subst eaRisen_10; rfl) dX8_layRisen_26 (fun H locs hG => ?_)
      obtain ⟨x3_11, ex3_11⟩ : ∃ z : Int32, z = x3_1 + 1 := ⟨_, rfl⟩
      have hb4 := bd_e ex3_11 hb4
      refine lv_iinc (v := x3_11) (lv' := [(3, .int x3_11), (0, .ref (q 0)), (1, .int p1), (2, .int p2)]) hx hb dX8_layRisen_27 hl (k := 3) rfl (by rw [ex3_11]; rfl) (by decide) rfl (fun ls hl => ?_)
      refine lv_goto (tgt := 2) hx hb dX8_layRisen_30 (by decide) ?_
      exact hin4 _ (Option.some.inj hb4).symm H locs ls hG (lv_sub hl [1, 2, 3, 0] rfl)
    refine lv_icmp_ne (tgt := 24) hx hb dX8_layRisen_17 (by decide) (fun cb8 => ?_) (fun cb8 => ?_)
    · have er7 := ite_f cb8 er7
      refine lv_ldc (v := 268435456) hx hb X.2.2.2.1 (X.2.2.2.2 _ cn_X8_136) dX8_layRisen_24 ?_
      cases er7
      exact J7 H locs ls hG (lv_sub hl [0, 1, 2, 3] rfl)
    · have er7 := ite_t cb8 er7
      refine lv_iconst (v := 0) hx hb dX8_layRisen_20 (by decide) ?_
      refine lv_goto (tgt := 26) hx hb dX8_layRisen_21 (by decide) ?_
      cases er7
      exact J7 H locs ls hG (lv_sub hl [0, 1, 2, 3] rfl)
def f8_risenTo (fu : Nat) (iRoads : Int32) (p1 : Int32) (aRisen : (Nat → Int32)) (p3 : Int32) (aRoadAt : (Nat → Int32)) (aWorths : (Nat → Int32)) (p2 : Int32) : Option (Int32 × (Nat → Int32)) :=
  bnd1 (f8_layRisen fu iRoads p1 aRisen p3 aRoadAt aWorths) fun (aRisen_1 : (Nat → Int32)) => ckin p2 12 (bnd1 (if (aRisen_1 p2.toNatClampNeg) < 268435456 then (ckin p2 12 (some (aRisen_1 p2.toNatClampNeg))) else some (-1)) fun (y_4 : Int32) => some (y_4, aRisen_1))
set_option maxHeartbeats 4000000 in
set_option maxRecDepth 100000 in
theorem c_X8_risenTo (hq : gJ layM q) {fu : Nat} {p1 : Int32} {p2 : Int32} {p3 : Int32} {o_r : Int32} {o_aRisen : (Nat → Int32)} (h : f8_risenTo fu iRoads p1 aRisen p3 aRoadAt aWorths p2 = some (o_r, o_aRisen)) :
    GM l yX8_risenTo cX8_risenTo 4 (some .int) 1 27 D cI cZ layM q [.ref (q 0), .int p1, .int p2, .int p3] ([iPageLength, iRoads, iRead, iAltered, iRanked, iStage, iFigures, iNewRoads, iTold, iRouted, iRouteSum], [jH], [aPage, aBeginOf, aEndOf, aLengthOf, aCosts, aRankOf, aRoadAt, aWorths, aMiddles, aLeasts, aBusy, aNewBegin, aNewEnd, aNewLength, aIsLeft, aAround, aWhole, aIsNeeded, aWereRanks, aWaitFrom, aWaitTo, aToldAt, aRisen, aUps, aTried, aRoutes]) (some (.int o_r)) ([iPageLength, iRoads, iRead, iAltered, iRanked, iStage, iFigures, iNewRoads, iTold, iRouted, iRouteSum], [jH], [aPage, aBeginOf, aEndOf, aLengthOf, aCosts, aRankOf, aRoadAt, aWorths, aMiddles, aLeasts, aBusy, aNewBegin, aNewEnd, aNewLength, aIsLeft, aAround, aWhole, aIsNeeded, aWereRanks, aWaitFrom, aWaitTo, aToldAt, o_aRisen, aUps, aTried, aRoutes]) := by
  refine GM.go RX8 (by decide) rfl (Nat.le_of_ble_eq_true rfl) ?_
  intro p e s m args below meth c ls R Q H locs X hr hlk hT hG hl hR hQ
  have hx := X.1
  have hb := X.2.1
  have hl : lv_has ls 4 [(0, .ref (q 0)), (1, .int p1), (2, .int p2), (3, .int p3)] := hl
  unfold f8_risenTo at h
  refine lv_aload_n hx hb dX8_risenTo_0 rfl (lv_at hl 0 rfl) ?_
  refine lv_iload_n hx hb dX8_risenTo_1 rfl (lv_at hl 1 rfl) ?_
  refine lv_iload_n hx hb dX8_risenTo_2 rfl (lv_at hl 3 rfl) ?_
  obtain ⟨aRisen_1, ec2, h⟩ := bnd1_some h
  refine g_callVv [.int p1, .int p3] [] 0 X hT hG ml_X8_208 (c_X8_layRisen hq ec2) rfl rfl rfl rfl rfl hl.1 (Nat.le_of_ble_eq_true rfl) (by rw [hR]; exact ⟨Nat.le_of_ble_eq_true rfl, Nat.le_of_ble_eq_true rfl⟩) dX8_risenTo_3 (fun H locs hG => ?_)
  have hG : GH D cI cZ layM q s ([iPageLength, iRoads, iRead, iAltered, iRanked, iStage, iFigures, iNewRoads, iTold, iRouted, iRouteSum], [jH], [aPage, aBeginOf, aEndOf, aLengthOf, aCosts, aRankOf, aRoadAt, aWorths, aMiddles, aLeasts, aBusy, aNewBegin, aNewEnd, aNewLength, aIsLeft, aAround, aWhole, aIsNeeded, aWereRanks, aWaitFrom, aWaitTo, aToldAt, aRisen_1, aUps, aTried, aRoutes]) H locs := hG
  refine lv_aload_n hx hb dX8_risenTo_6 rfl (lv_at hl 0 rfl) ?_
  refine g_get (v := .ref (q 23)) X hT hG fl_X8_77 0 rfl rfl rfl dX8_risenTo_7 ?_
  refine lv_iload_n hx hb dX8_risenTo_10 rfl (lv_at hl 2 rfl) ?_
  obtain ⟨hi3, h⟩ := ckin_some h
  refine g_ald (f := aRisen_1) X hT hG 23 rfl rfl hi3 dX8_risenTo_11 ?_
  refine lv_ldc (v := 268435456) hx hb X.2.2.2.1 (X.2.2.2.2 _ cn_X8_136) dX8_risenTo_12 ?_
  obtain ⟨y_4, er5, h⟩ := bnd1_some h
  have J5 : ∀ (H : Heap) (locs : List Loc) (ls : Array Slot), GH D cI cZ layM q s ([iPageLength, iRoads, iRead, iAltered, iRanked, iStage, iFigures, iNewRoads, iTold, iRouted, iRouteSum], [jH], [aPage, aBeginOf, aEndOf, aLengthOf, aCosts, aRankOf, aRoadAt, aWorths, aMiddles, aLeasts, aBusy, aNewBegin, aNewEnd, aNewLength, aIsLeft, aAround, aWhole, aIsNeeded, aWereRanks, aWaitFrom, aWaitTo, aToldAt, aRisen_1, aUps, aTried, aRoutes]) H locs → lv_has ls 4 [] → W p l e R s m args below meth c H locs 0 0 Q (F0 m 27 ls [.int y_4]) := by
    intro H locs ls hG hl
    cases h
    rw [hQ]
    exact g_iret X hT hG hr hlk dX8_risenTo_27
  refine lv_icmp_lt (tgt := 21) hx hb dX8_risenTo_14 (by decide) (fun cb6 => ?_) (fun cb6 => ?_)
  · have er5 := ite_t cb6 er5
    refine lv_aload_n hx hb dX8_risenTo_21 rfl (lv_at hl 0 rfl) ?_
    refine g_get (v := .ref (q 23)) X hT hG fl_X8_77 0 rfl rfl rfl dX8_risenTo_22 ?_
    refine lv_iload_n hx hb dX8_risenTo_25 rfl (lv_at hl 2 rfl) ?_
    obtain ⟨hi7, er5⟩ := ckin_some er5
    refine g_ald (f := aRisen_1) X hT hG 23 rfl rfl hi7 dX8_risenTo_26 ?_
    cases er5
    exact J5 H locs ls hG (lv_sub hl [] rfl)
  · have er5 := ite_f cb6 er5
    refine lv_iconst (v := (-1)) hx hb dX8_risenTo_17 (by decide) ?_
    refine lv_goto (tgt := 27) hx hb dX8_risenTo_18 (by decide) ?_
    cases er5
    exact J5 H locs ls hG (lv_sub hl [] rfl)
def f8_up (fu : Nat) (p1 : Int32) (iRoads : Int32) (p2 : Int32) (aRisen : (Nat → Int32)) (aRoadAt : (Nat → Int32)) (aWorths : (Nat → Int32)) : Option (Int32 × (Nat → Int32)) :=
  bnd1 (f8_areRoads p1 iRoads p2) fun (r_1 : Int32) => bnd2 (if r_1 = 0 then (some ((-101), aRisen)) else bnd2 (f8_risenTo fu iRoads p1 aRisen 1 aRoadAt aWorths p2) fun (r_7 : Int32) (aRisen_8 : (Nat → Int32)) => some (r_7, aRisen_8)) fun (y_3 : Int32) (aRisen_4 : (Nat → Int32)) => some (y_3, aRisen_4)
set_option maxHeartbeats 4000000 in
set_option maxRecDepth 100000 in
theorem c_X8_up (hq : gJ layM q) {fu : Nat} {p1 : Int32} {p2 : Int32} {o_r : Int32} {o_aRisen : (Nat → Int32)} (h : f8_up fu p1 iRoads p2 aRisen aRoadAt aWorths = some (o_r, o_aRisen)) :
    GM l yX8_up cX8_up 3 (some .int) 3 65 D cI cZ layM q [.ref (q 0), .int p1, .int p2] ([iPageLength, iRoads, iRead, iAltered, iRanked, iStage, iFigures, iNewRoads, iTold, iRouted, iRouteSum], [jH], [aPage, aBeginOf, aEndOf, aLengthOf, aCosts, aRankOf, aRoadAt, aWorths, aMiddles, aLeasts, aBusy, aNewBegin, aNewEnd, aNewLength, aIsLeft, aAround, aWhole, aIsNeeded, aWereRanks, aWaitFrom, aWaitTo, aToldAt, aRisen, aUps, aTried, aRoutes]) (some (.int o_r)) ([iPageLength, iRoads, iRead, iAltered, iRanked, iStage, iFigures, iNewRoads, iTold, iRouted, iRouteSum], [jH], [aPage, aBeginOf, aEndOf, aLengthOf, aCosts, aRankOf, aRoadAt, aWorths, aMiddles, aLeasts, aBusy, aNewBegin, aNewEnd, aNewLength, aIsLeft, aAround, aWhole, aIsNeeded, aWereRanks, aWaitFrom, aWaitTo, aToldAt, o_aRisen, aUps, aTried, aRoutes]) := by
  refine GM.go RX8 (by decide) rfl (Nat.le_of_ble_eq_true rfl) ?_
  intro p e s m args below meth c ls R Q H locs X hr hlk hT hG hl hR hQ
  have hx := X.1
  have hb := X.2.1
  have hl : lv_has ls 3 [(0, .ref (q 0)), (1, .int p1), (2, .int p2)] := hl
  unfold f8_up at h
  refine lv_aload_n hx hb dX8_up_0 rfl (lv_at hl 0 rfl) ?_
  refine lv_iload_n hx hb dX8_up_1 rfl (lv_at hl 1 rfl) ?_
  refine lv_iload_n hx hb dX8_up_2 rfl (lv_at hl 2 rfl) ?_
  obtain ⟨r_1, ec2, h⟩ := bnd1_some h
  refine g_callVr [.int p1, .int p2] [] 0 X hT hG ml_X8_180 (c_X8_areRoads hq ec2) rfl rfl rfl rfl rfl hl.1 (Nat.le_of_ble_eq_true rfl) (by rw [hR]; exact ⟨Nat.le_of_ble_eq_true rfl, Nat.le_of_ble_eq_true rfl⟩) dX8_up_3 (fun H locs hG => ?_)
  obtain ⟨y_3, aRisen_4, er5, h⟩ := bnd2_some h
  have J5 : ∀ (H : Heap) (locs : List Loc) (ls : Array Slot), GH D cI cZ layM q s ([iPageLength, iRoads, iRead, iAltered, iRanked, iStage, iFigures, iNewRoads, iTold, iRouted, iRouteSum], [jH], [aPage, aBeginOf, aEndOf, aLengthOf, aCosts, aRankOf, aRoadAt, aWorths, aMiddles, aLeasts, aBusy, aNewBegin, aNewEnd, aNewLength, aIsLeft, aAround, aWhole, aIsNeeded, aWereRanks, aWaitFrom, aWaitTo, aToldAt, aRisen_4, aUps, aTried, aRoutes]) H locs → lv_has ls 3 [] → W p l e R s m args below meth c H locs 0 0 Q (F0 m 21 ls [.int y_3]) := by
    intro H locs ls hG hl
    cases h
    rw [hQ]
    exact g_iret X hT hG hr hlk dX8_up_21
  refine lv_if_eq (tgt := 19) hx hb dX8_up_6 (by decide) (fun cb6 => ?_) (fun cb6 => ?_)
  · have er5 := ite_t cb6 er5
    refine lv_bipush (v := (-101)) hx hb dX8_up_19 (by decide) ?_
    cases er5
    exact J5 H locs ls hG (lv_sub hl [] rfl)
  · have er5 := ite_f cb6 er5
    refine lv_aload_n hx hb dX8_up_9 rfl (lv_at hl 0 rfl) ?_
    refine lv_iload_n hx hb dX8_up_10 rfl (lv_at hl 1 rfl) ?_
    refine lv_iload_n hx hb dX8_up_11 rfl (lv_at hl 2 rfl) ?_
    refine lv_iconst (v := 1) hx hb dX8_up_12 (by decide) ?_
    obtain ⟨r_7, aRisen_8, ec9, er5⟩ := bnd2_some er5
    refine g_callVr [.int p1, .int p2, .int 1] [] 0 X hT hG ml_X8_212 (c_X8_risenTo hq ec9) rfl rfl rfl rfl rfl hl.1 (Nat.le_of_ble_eq_true rfl) (by rw [hR]; exact ⟨Nat.le_of_ble_eq_true rfl, Nat.le_of_ble_eq_true rfl⟩) dX8_up_13 (fun H locs hG => ?_)
    have hG : GH D cI cZ layM q s ([iPageLength, iRoads, iRead, iAltered, iRanked, iStage, iFigures, iNewRoads, iTold, iRouted, iRouteSum], [jH], [aPage, aBeginOf, aEndOf, aLengthOf, aCosts, aRankOf, aRoadAt, aWorths, aMiddles, aLeasts, aBusy, aNewBegin, aNewEnd, aNewLength, aIsLeft, aAround, aWhole, aIsNeeded, aWereRanks, aWaitFrom, aWaitTo, aToldAt, aRisen_8, aUps, aTried, aRoutes]) H locs := hG
    refine lv_goto (tgt := 21) hx hb dX8_up_16 (by decide) ?_
    cases er5
    exact J5 H locs ls hG (lv_sub hl [] rfl)
def f8_down (fu : Nat) (p1 : Int32) (iRoads : Int32) (p2 : Int32) (aRisen : (Nat → Int32)) (aRoadAt : (Nat → Int32)) (aWorths : (Nat → Int32)) : Option (Int32 × (Nat → Int32)) :=
  bnd1 (f8_areRoads p1 iRoads p2) fun (r_1 : Int32) => bnd2 (if r_1 = 0 then (some ((-101), aRisen)) else bnd2 (f8_risenTo fu iRoads p1 aRisen 0 aRoadAt aWorths p2) fun (r_7 : Int32) (aRisen_8 : (Nat → Int32)) => some (r_7, aRisen_8)) fun (y_3 : Int32) (aRisen_4 : (Nat → Int32)) => some (y_3, aRisen_4)
set_option maxHeartbeats 4000000 in
set_option maxRecDepth 100000 in
theorem c_X8_down (hq : gJ layM q) {fu : Nat} {p1 : Int32} {p2 : Int32} {o_r : Int32} {o_aRisen : (Nat → Int32)} (h : f8_down fu p1 iRoads p2 aRisen aRoadAt aWorths = some (o_r, o_aRisen)) :
    GM l yX8_down cX8_down 3 (some .int) 3 65 D cI cZ layM q [.ref (q 0), .int p1, .int p2] ([iPageLength, iRoads, iRead, iAltered, iRanked, iStage, iFigures, iNewRoads, iTold, iRouted, iRouteSum], [jH], [aPage, aBeginOf, aEndOf, aLengthOf, aCosts, aRankOf, aRoadAt, aWorths, aMiddles, aLeasts, aBusy, aNewBegin, aNewEnd, aNewLength, aIsLeft, aAround, aWhole, aIsNeeded, aWereRanks, aWaitFrom, aWaitTo, aToldAt, aRisen, aUps, aTried, aRoutes]) (some (.int o_r)) ([iPageLength, iRoads, iRead, iAltered, iRanked, iStage, iFigures, iNewRoads, iTold, iRouted, iRouteSum], [jH], [aPage, aBeginOf, aEndOf, aLengthOf, aCosts, aRankOf, aRoadAt, aWorths, aMiddles, aLeasts, aBusy, aNewBegin, aNewEnd, aNewLength, aIsLeft, aAround, aWhole, aIsNeeded, aWereRanks, aWaitFrom, aWaitTo, aToldAt, o_aRisen, aUps, aTried, aRoutes]) := by
  refine GM.go RX8 (by decide) rfl (Nat.le_of_ble_eq_true rfl) ?_
  intro p e s m args below meth c ls R Q H locs X hr hlk hT hG hl hR hQ
  have hx := X.1
  have hb := X.2.1
  have hl : lv_has ls 3 [(0, .ref (q 0)), (1, .int p1), (2, .int p2)] := hl
  unfold f8_down at h
  refine lv_aload_n hx hb dX8_down_0 rfl (lv_at hl 0 rfl) ?_
  refine lv_iload_n hx hb dX8_down_1 rfl (lv_at hl 1 rfl) ?_
  refine lv_iload_n hx hb dX8_down_2 rfl (lv_at hl 2 rfl) ?_
  obtain ⟨r_1, ec2, h⟩ := bnd1_some h
  refine g_callVr [.int p1, .int p2] [] 0 X hT hG ml_X8_180 (c_X8_areRoads hq ec2) rfl rfl rfl rfl rfl hl.1 (Nat.le_of_ble_eq_true rfl) (by rw [hR]; exact ⟨Nat.le_of_ble_eq_true rfl, Nat.le_of_ble_eq_true rfl⟩) dX8_down_3 (fun H locs hG => ?_)
  obtain ⟨y_3, aRisen_4, er5, h⟩ := bnd2_some h
  have J5 : ∀ (H : Heap) (locs : List Loc) (ls : Array Slot), GH D cI cZ layM q s ([iPageLength, iRoads, iRead, iAltered, iRanked, iStage, iFigures, iNewRoads, iTold, iRouted, iRouteSum], [jH], [aPage, aBeginOf, aEndOf, aLengthOf, aCosts, aRankOf, aRoadAt, aWorths, aMiddles, aLeasts, aBusy, aNewBegin, aNewEnd, aNewLength, aIsLeft, aAround, aWhole, aIsNeeded, aWereRanks, aWaitFrom, aWaitTo, aToldAt, aRisen_4, aUps, aTried, aRoutes]) H locs → lv_has ls 3 [] → W p l e R s m args below meth c H locs 0 0 Q (F0 m 21 ls [.int y_3]) := by
    intro H locs ls hG hl
    cases h
    rw [hQ]
    exact g_iret X hT hG hr hlk dX8_down_21
  refine lv_if_eq (tgt := 19) hx hb dX8_down_6 (by decide) (fun cb6 => ?_) (fun cb6 => ?_)
  · have er5 := ite_t cb6 er5
    refine lv_bipush (v := (-101)) hx hb dX8_down_19 (by decide) ?_
    cases er5
    exact J5 H locs ls hG (lv_sub hl [] rfl)
  · have er5 := ite_f cb6 er5
    refine lv_aload_n hx hb dX8_down_9 rfl (lv_at hl 0 rfl) ?_
    refine lv_iload_n hx hb dX8_down_10 rfl (lv_at hl 1 rfl) ?_
    refine lv_iload_n hx hb dX8_down_11 rfl (lv_at hl 2 rfl) ?_
    refine lv_iconst (v := 0) hx hb dX8_down_12 (by decide) ?_
    obtain ⟨r_7, aRisen_8, ec9, er5⟩ := bnd2_some er5
    refine g_callVr [.int p1, .int p2, .int 0] [] 0 X hT hG ml_X8_212 (c_X8_risenTo hq ec9) rfl rfl rfl rfl rfl hl.1 (Nat.le_of_ble_eq_true rfl) (by rw [hR]; exact ⟨Nat.le_of_ble_eq_true rfl, Nat.le_of_ble_eq_true rfl⟩) dX8_down_13 (fun H locs hG => ?_)
    have hG : GH D cI cZ layM q s ([iPageLength, iRoads, iRead, iAltered, iRanked, iStage, iFigures, iNewRoads, iTold, iRouted, iRouteSum], [jH], [aPage, aBeginOf, aEndOf, aLengthOf, aCosts, aRankOf, aRoadAt, aWorths, aMiddles, aLeasts, aBusy, aNewBegin, aNewEnd, aNewLength, aIsLeft, aAround, aWhole, aIsNeeded, aWereRanks, aWaitFrom, aWaitTo, aToldAt, aRisen_8, aUps, aTried, aRoutes]) H locs := hG
    refine lv_goto (tgt := 21) hx hb dX8_down_16 (by decide) ?_
    cases er5
    exact J5 H locs ls hG (lv_sub hl [] rfl)
def f8_meetNow_b1 (iRoads : Int32) (aRisen_1 : (Nat → Int32)) (x3_3 : Int32) (aUps_4 : (Nat → Int32)) : Option ((Int32 × (Nat → Int32)) ⊕ ((Nat → Int32))) :=
  if iRoads ≤ x3_3 then (some (.inr aUps_4)) else ckin x3_3 12 (ckin x3_3 12 (bd (upd aUps_4 x3_3.toNatClampNeg (aRisen_1 x3_3.toNatClampNeg)) fun aUps_10 => bd (x3_3 + 1) fun x3_11 => some (.inl (x3_11, aUps_10))))
def f8_meetNow_b2 (fu : Nat) (iRoads : Int32) (aRoadAt : (Nat → Int32)) (aWorths : (Nat → Int32)) (p2 : Int32) (aUps_5 : (Nat → Int32)) (x3_12 : Int32) (x4_13 : Int32) (x5_14 : Int32) (aRisen_15 : (Nat → Int32)) : Option ((Int32 × Int32 × Int32 × (Nat → Int32)) ⊕ (Int32 × (Nat → Int32))) :=
  if iRoads ≤ x5_14 then (some (.inr (x3_12, aRisen_15))) else bnd1 (f8_layRisen fu iRoads x5_14 aRisen_15 0 aRoadAt aWorths) fun (aRisen_20 : (Nat → Int32)) => ckin x5_14 12 (ckin p2 12 (bd (((aUps_5 x5_14.toNatClampNeg) + (aRisen_20 p2.toNatClampNeg))) fun x6_24 => bnd1 (if x4_13 ≤ x6_24 then (some x3_12) else some x5_14) fun (y_25 : Int32) => bnd1 (if x4_13 ≤ x6_24 then (some x4_13) else some x6_24) fun (y_28 : Int32) => bd (x5_14 + 1) fun x5_31 => some (.inl (y_25, y_28, x5_31, aRisen_20))))
def f8_meetNow (fu : Nat) (iRoads : Int32) (p1 : Int32) (aRisen : (Nat → Int32)) (aRoadAt : (Nat → Int32)) (aWorths : (Nat → Int32)) (aUps : (Nat → Int32)) (p2 : Int32) : Option (Int32 × (Nat → Int32) × (Nat → Int32)) :=
  bnd1 (f8_layRisen fu iRoads p1 aRisen 1 aRoadAt aWorths) fun (aRisen_1 : (Nat → Int32)) => bnd1 (lpG (fun z => f8_meetNow_b1 iRoads aRisen_1 z.1 z.2) fu ((0 : Int32), aUps)) fun (aUps_5 : (Nat → Int32)) => bnd2 (lpG (fun z => f8_meetNow_b2 fu iRoads aRoadAt aWorths p2 aUps_5 z.1 z.2.1 z.2.2.1 z.2.2.2) fu (((-1) : Int32), (268435456 : Int32), (0 : Int32), aRisen_1)) fun (x3_16 : Int32) (aRisen_17 : (Nat → Int32)) => some (x3_16, aRisen_17, aUps_5)
set_option maxHeartbeats 4000000 in
set_option maxRecDepth 100000 in
theorem c_X8_meetNow (hq : gJ layM q) {fu : Nat} {p1 : Int32} {p2 : Int32} {o_r : Int32} {o_aRisen : (Nat → Int32)} {o_aUps : (Nat → Int32)} (h : f8_meetNow fu iRoads p1 aRisen aRoadAt aWorths aUps p2 = some (o_r, o_aRisen, o_aUps)) :
    GM l yX8_meetNow cX8_meetNow 7 (some .int) 1 27 D cI cZ layM q [.ref (q 0), .int p1, .int p2] ([iPageLength, iRoads, iRead, iAltered, iRanked, iStage, iFigures, iNewRoads, iTold, iRouted, iRouteSum], [jH], [aPage, aBeginOf, aEndOf, aLengthOf, aCosts, aRankOf, aRoadAt, aWorths, aMiddles, aLeasts, aBusy, aNewBegin, aNewEnd, aNewLength, aIsLeft, aAround, aWhole, aIsNeeded, aWereRanks, aWaitFrom, aWaitTo, aToldAt, aRisen, aUps, aTried, aRoutes]) (some (.int o_r)) ([iPageLength, iRoads, iRead, iAltered, iRanked, iStage, iFigures, iNewRoads, iTold, iRouted, iRouteSum], [jH], [aPage, aBeginOf, aEndOf, aLengthOf, aCosts, aRankOf, aRoadAt, aWorths, aMiddles, aLeasts, aBusy, aNewBegin, aNewEnd, aNewLength, aIsLeft, aAround, aWhole, aIsNeeded, aWereRanks, aWaitFrom, aWaitTo, aToldAt, o_aRisen, o_aUps, aTried, aRoutes]) := by
  refine GM.go RX8 (by decide) rfl (Nat.le_of_ble_eq_true rfl) ?_
  intro p e s m args below meth c ls R Q H locs X hr hlk hT hG hl hR hQ
  have hx := X.1
  have hb := X.2.1
  have hl : lv_has ls 7 [(0, .ref (q 0)), (1, .int p1), (2, .int p2)] := hl
  unfold f8_meetNow at h
  refine lv_aload_n hx hb dX8_meetNow_0 rfl (lv_at hl 0 rfl) ?_
  refine lv_iload_n hx hb dX8_meetNow_1 rfl (lv_at hl 1 rfl) ?_
  refine lv_iconst (v := 1) hx hb dX8_meetNow_2 (by decide) ?_
  obtain ⟨aRisen_1, ec2, h⟩ := bnd1_some h
  refine g_callVv [.int p1, .int 1] [] 0 X hT hG ml_X8_208 (c_X8_layRisen hq ec2) rfl rfl rfl rfl rfl hl.1 (Nat.le_of_ble_eq_true rfl) (by rw [hR]; exact ⟨Nat.le_of_ble_eq_true rfl, Nat.le_of_ble_eq_true rfl⟩) dX8_meetNow_3 (fun H locs hG => ?_)
  have hG : GH D cI cZ layM q s ([iPageLength, iRoads, iRead, iAltered, iRanked, iStage, iFigures, iNewRoads, iTold, iRouted, iRouteSum], [jH], [aPage, aBeginOf, aEndOf, aLengthOf, aCosts, aRankOf, aRoadAt, aWorths, aMiddles, aLeasts, aBusy, aNewBegin, aNewEnd, aNewLength, aIsLeft, aAround, aWhole, aIsNeeded, aWereRanks, aWaitFrom, aWaitTo, aToldAt, aRisen_1, aUps, aTried, aRoutes]) H locs := hG
  refine lv_iconst (v := 0) hx hb dX8_meetNow_6 (by decide) ?_
  refine lv_istore_n (lv' := [(3, .int 0), (0, .ref (q 0)), (1, .int p1), (2, .int p2)]) hx hb dX8_meetNow_7 rfl hl (by decide) rfl (fun ls hl => ?_)
  obtain ⟨aUps_5, eL6, h⟩ := bnd1_some h
  have JX6 : ∀ (H : Heap) (locs : List Loc) (ls : Array Slot), GH D cI cZ layM q s ([iPageLength, iRoads, iRead, iAltered, iRanked, iStage, iFigures, iNewRoads, iTold, iRouted, iRouteSum], [jH], [aPage, aBeginOf, aEndOf, aLengthOf, aCosts, aRankOf, aRoadAt, aWorths, aMiddles, aLeasts, aBusy, aNewBegin, aNewEnd, aNewLength, aIsLeft, aAround, aWhole, aIsNeeded, aWereRanks, aWaitFrom, aWaitTo, aToldAt, aRisen_1, aUps_5, aTried, aRoutes]) H locs → lv_has ls 7 [(0, .ref (q 0)), (2, .int p2)] → W p l e R s m args below meth c H locs 0 0 Q (F0 m 34 ls []) := by
    intro H locs ls hG hl
    refine lv_iconst (v := (-1)) hx hb dX8_meetNow_34 (by decide) ?_
    refine lv_istore_n (lv' := [(3, .int (-1)), (0, .ref (q 0)), (2, .int p2)]) hx hb dX8_meetNow_35 rfl hl (by decide) rfl (fun ls hl => ?_)
    refine lv_ldc (v := 268435456) hx hb X.2.2.2.1 (X.2.2.2.2 _ cn_X8_136) dX8_meetNow_36 ?_
    refine lv_istore (lv' := [(4, .int 268435456), (3, .int (-1)), (0, .ref (q 0)), (2, .int p2)]) hx hb dX8_meetNow_38 hl (by decide) rfl (fun ls hl => ?_)
    refine lv_iconst (v := 0) hx hb dX8_meetNow_40 (by decide) ?_
    refine lv_istore (lv' := [(5, .int 0), (4, .int 268435456), (3, .int (-1)), (0, .ref (q 0)), (2, .int p2)]) hx hb dX8_meetNow_41 hl (by decide) rfl (fun ls hl => ?_)
    obtain ⟨x3_16, aRisen_17, eL18, h⟩ := bnd2_some h
    have JX18 : ∀ (H : Heap) (locs : List Loc) (ls : Array Slot), GH D cI cZ layM q s ([iPageLength, iRoads, iRead, iAltered, iRanked, iStage, iFigures, iNewRoads, iTold, iRouted, iRouteSum], [jH], [aPage, aBeginOf, aEndOf, aLengthOf, aCosts, aRankOf, aRoadAt, aWorths, aMiddles, aLeasts, aBusy, aNewBegin, aNewEnd, aNewLength, aIsLeft, aAround, aWhole, aIsNeeded, aWereRanks, aWaitFrom, aWaitTo, aToldAt, aRisen_17, aUps_5, aTried, aRoutes]) H locs → lv_has ls 7 [(3, .int x3_16)] → W p l e R s m args below meth c H locs 0 0 Q (F0 m 111 ls []) := by
      intro H locs ls hG hl
      refine lv_iload_n hx hb dX8_meetNow_111 rfl (lv_at hl 0 rfl) ?_
      cases h
      rw [hQ]
      exact g_iret X hT hG hr hlk dX8_meetNow_112
    refine lpG_W (Wh := fun z => ∀ (H : Heap) (locs : List Loc) (ls : Array Slot), GH D cI cZ layM q s ([iPageLength, iRoads, iRead, iAltered, iRanked, iStage, iFigures, iNewRoads, iTold, iRouted, iRouteSum], [jH], [aPage, aBeginOf, aEndOf, aLengthOf, aCosts, aRankOf, aRoadAt, aWorths, aMiddles, aLeasts, aBusy, aNewBegin, aNewEnd, aNewLength, aIsLeft, aAround, aWhole, aIsNeeded, aWereRanks, aWaitFrom, aWaitTo, aToldAt, z.2.2.2, aUps_5, aTried, aRoutes]) H locs → lv_has ls 7 [(0, .ref (q 0)), (2, .int p2), (3, .int (z.1)), (4, .int (z.2.1)), (5, .int (z.2.2.1))] → W p l e R s m args below meth c H locs 0 0 Q (F0 m 43 ls [])) ?_ fu _ eL18 H locs ls hG (lv_sub hl [3, 4, 2, 1, 0] rfl)
    intro z rr18 hb18 hin18 hout18
    obtain ⟨x3_12, x4_13, x5_14, aRisen_15⟩ := z
    intro H locs ls hG hl
    have hb18 : f8_meetNow_b2 fu iRoads aRoadAt aWorths p2 aUps_5 x3_12 x4_13 x5_14 aRisen_15 = some rr18 := hb18
    have hG : GH D cI cZ layM q s ([iPageLength, iRoads, iRead, iAltered, iRanked, iStage, iFigures, iNewRoads, iTold, iRouted, iRouteSum], [jH], [aPage, aBeginOf, aEndOf, aLengthOf, aCosts, aRankOf, aRoadAt, aWorths, aMiddles, aLeasts, aBusy, aNewBegin, aNewEnd, aNewLength, aIsLeft, aAround, aWhole, aIsNeeded, aWereRanks, aWaitFrom, aWaitTo, aToldAt, aRisen_15, aUps_5, aTried, aRoutes]) H locs := hG
    have hl : lv_has ls 7 [(0, .ref (q 0)), (2, .int p2), (3, .int x3_12), (4, .int x4_13), (5, .int x5_14)] := hl
    unfold f8_meetNow_b2 at hb18
    refine lv_iload hx hb dX8_meetNow_43 (lv_at hl 4 rfl) ?_
    refine lv_aload_n hx hb dX8_meetNow_45 rfl (lv_at hl 0 rfl) ?_
    refine g_get (v := .int iRoads) X hT hG fl_X8_120 0 rfl rfl rfl dX8_meetNow_46 ?_
    refine lv_icmp_ge (tgt := 111) hx hb dX8_meetNow_49 (by decide) (fun cb19 => ?_) (fun cb19 => ?_)
    · have hb18 := ite_t cb19 hb18
      have eo := hout18 _ (Option.some.inj hb18).symm
      cases eo
      exact JX18 H locs ls hG (lv_sub hl [2] rfl)
    · have hb18 := ite_f cb19 hb18
      refine lv_aload_n hx hb dX8_meetNow_52 rfl (lv_at hl 0 rfl) ?_
      refine lv_iload hx hb dX8_meetNow_53 (lv_at hl 4 rfl) ?_
      refine lv_iconst (v := 0) hx hb dX8_meetNow_55 (by decide) ?_
      obtain ⟨aRisen_20, ec21, hb18⟩ := bnd1_some hb18
      refine g_callVv [.int x5_14, .int 0] [] 0 X hT hG ml_X8_208 (c_X8_layRisen hq ec21) rfl rfl rfl rfl rfl hl.1 (Nat.le_of_ble_eq_true rfl) (by rw [hR]; exact ⟨Nat.le_of_ble_eq_true rfl, Nat.le_of_ble_eq_true rfl⟩) dX8_meetNow_56 (fun H locs hG => ?_)
      have hG : GH D cI cZ layM q s ([iPageLength, iRoads, iRead, iAltered, iRanked, iStage, iFigures, iNewRoads, iTold, iRouted, iRouteSum], [jH], [aPage, aBeginOf, aEndOf, aLengthOf, aCosts, aRankOf, aRoadAt, aWorths, aMiddles, aLeasts, aBusy, aNewBegin, aNewEnd, aNewLength, aIsLeft, aAround, aWhole, aIsNeeded, aWereRanks, aWaitFrom, aWaitTo, aToldAt, aRisen_20, aUps_5, aTried, aRoutes]) H locs := hG
      refine lv_aload_n hx hb dX8_meetNow_59 rfl (lv_at hl 0 rfl) ?_
      refine g_get (v := .ref (q 24)) X hT hG fl_X8_80 0 rfl rfl rfl dX8_meetNow_60 ?_
      refine lv_iload hx hb dX8_meetNow_63 (lv_at hl 4 rfl) ?_
      obtain ⟨hi22, hb18⟩ := ckin_some hb18
      refine g_ald (f := aUps_5) X hT hG 24 rfl rfl hi22 dX8_meetNow_65 ?_
      refine lv_aload_n hx hb dX8_meetNow_66 rfl (lv_at hl 0 rfl) ?_
      refine g_get (v := .ref (q 23)) X hT hG fl_X8_77 0 rfl rfl rfl dX8_meetNow_67 ?_
      refine lv_iload_n hx hb dX8_meetNow_70 rfl (lv_at hl 1 rfl) ?_
      obtain ⟨hi23, hb18⟩ := ckin_some hb18
      refine g_ald (f := aRisen_20) X hT hG 23 rfl rfl hi23 dX8_meetNow_71 ?_
      refine lv_iadd hx hb dX8_meetNow_72 ?_
      refine lv_topi (fun x6_24 ex6_24 => ?_)
      have hb18 := bd_e ex6_24 hb18
      refine lv_istore (lv' := [(6, .int x6_24), (0, .ref (q 0)), (2, .int p2), (3, .int x3_12), (4, .int x4_13), (5, .int x5_14)]) hx hb dX8_meetNow_73 hl (by decide) rfl (fun ls hl => ?_)
      refine lv_iload hx hb dX8_meetNow_75 (lv_at hl 0 rfl) ?_
      refine lv_iload hx hb dX8_meetNow_77 (lv_at hl 4 rfl) ?_
      obtain ⟨y_25, er26, hb18⟩ := bnd1_some hb18
      have J26 : ∀ (H : Heap) (locs : List Loc) (ls : Array Slot), GH D cI cZ layM q s ([iPageLength, iRoads, iRead, iAltered, iRanked, iStage, iFigures, iNewRoads, iTold, iRouted, iRouteSum], [jH], [aPage, aBeginOf, aEndOf, aLengthOf, aCosts, aRankOf, aRoadAt, aWorths, aMiddles, aLeasts, aBusy, aNewBegin, aNewEnd, aNewLength, aIsLeft, aAround, aWhole, aIsNeeded, aWereRanks, aWaitFrom, aWaitTo, aToldAt, aRisen_20, aUps_5, aTried, aRoutes]) H locs → lv_has ls 7 [(0, .ref (q 0)), (2, .int p2), (4, .int x4_13), (5, .int x5_14), (6, .int x6_24)] → W p l e R s m args below meth c H locs 0 0 Q (F0 m 88 ls [.int y_25]) := by
        intro H locs ls hG hl
        refine lv_istore_n (lv' := [(3, .int y_25), (0, .ref (q 0)), (2, .int p2), (4, .int x4_13), (5, .int x5_14), (6, .int x6_24)]) hx hb dX8_meetNow_88 rfl hl (by decide) rfl (fun ls hl => ?_)
        refine lv_iload hx hb dX8_meetNow_89 (lv_at hl 5 rfl) ?_
        refine lv_iload hx hb dX8_meetNow_91 (lv_at hl 3 rfl) ?_
        obtain ⟨y_28, er29, hb18⟩ := bnd1_some hb18
        have J29 : ∀ (H : Heap) (locs : List Loc) (ls : Array Slot), GH D cI cZ layM q s ([iPageLength, iRoads, iRead, iAltered, iRanked, iStage, iFigures, iNewRoads, iTold, iRouted, iRouteSum], [jH], [aPage, aBeginOf, aEndOf, aLengthOf, aCosts, aRankOf, aRoadAt, aWorths, aMiddles, aLeasts, aBusy, aNewBegin, aNewEnd, aNewLength, aIsLeft, aAround, aWhole, aIsNeeded, aWereRanks, aWaitFrom, aWaitTo, aToldAt, aRisen_20, aUps_5, aTried, aRoutes]) H locs → lv_has ls 7 [(0, .ref (q 0)), (2, .int p2), (3, .int y_25), (5, .int x5_14)] → W p l e R s m args below meth c H locs 0 0 Q (F0 m 103 ls [.int y_28]) := by
          intro H locs ls hG hl
          refine lv_istore (lv' := [(4, .int y_28), (0, .ref (q 0)), (2, .int p2), (3, .int y_25), (5, .int x5_14)]) hx hb dX8_meetNow_103 hl (by decide) rfl (fun ls hl => ?_)
          obtain ⟨x5_31, ex5_31⟩ : ∃ z : Int32, z = x5_14 + 1 := ⟨_, rfl⟩
          have hb18 := bd_e ex5_31 hb18
          refine lv_iinc (v := x5_31) (lv' := [(5, .int x5_31), (4, .int y_28), (0, .ref (q 0)), (2, .int p2), (3, .int y_25)]) hx hb dX8_meetNow_105 hl (k := 4) rfl (by rw [ex5_31]; rfl) (by decide) rfl (fun ls hl => ?_)
          refine lv_goto (tgt := 43) hx hb dX8_meetNow_108 (by decide) ?_
          exact hin18 _ (Option.some.inj hb18).symm H locs ls hG (lv_sub hl [2, 3, 4, 1, 0] rfl)
        refine lv_icmp_ge (tgt := 101) hx hb dX8_meetNow_93 (by decide) (fun cb30 => ?_) (fun cb30 => ?_)
        · have er29 := ite_t cb30 er29
          refine lv_iload hx hb dX8_meetNow_101 (lv_at hl 3 rfl) ?_
          cases er29
          exact J29 H locs ls hG (lv_sub hl [1, 2, 0, 4] rfl)
        · have er29 := ite_f cb30 er29
          refine lv_iload hx hb dX8_meetNow_96 (lv_at hl 5 rfl) ?_
          refine lv_goto (tgt := 103) hx hb dX8_meetNow_98 (by decide) ?_
          cases er29
          exact J29 H locs ls hG (lv_sub hl [1, 2, 0, 4] rfl)
      refine lv_icmp_ge (tgt := 87) hx hb dX8_meetNow_79 (by decide) (fun cb27 => ?_) (fun cb27 => ?_)
      · have er26 := ite_t cb27 er26
        refine lv_iload_n hx hb dX8_meetNow_87 rfl (lv_at hl 3 rfl) ?_
        cases er26
        exact J26 H locs ls hG (lv_sub hl [1, 2, 4, 5, 0] rfl)
      · have er26 := ite_f cb27 er26
        refine lv_iload hx hb dX8_meetNow_82 (lv_at hl 5 rfl) ?_
        refine lv_goto (tgt := 88) hx hb dX8_meetNow_84 (by decide) ?_
        cases er26
        exact J26 H locs ls hG (lv_sub hl [1, 2, 4, 5, 0] rfl)
  refine lpG_W (Wh := fun z => ∀ (H : Heap) (locs : List Loc) (ls : Array Slot), GH D cI cZ layM q s ([iPageLength, iRoads, iRead, iAltered, iRanked, iStage, iFigures, iNewRoads, iTold, iRouted, iRouteSum], [jH], [aPage, aBeginOf, aEndOf, aLengthOf, aCosts, aRankOf, aRoadAt, aWorths, aMiddles, aLeasts, aBusy, aNewBegin, aNewEnd, aNewLength, aIsLeft, aAround, aWhole, aIsNeeded, aWereRanks, aWaitFrom, aWaitTo, aToldAt, aRisen_1, z.2, aTried, aRoutes]) H locs → lv_has ls 7 [(0, .ref (q 0)), (2, .int p2), (3, .int (z.1))] → W p l e R s m args below meth c H locs 0 0 Q (F0 m 8 ls [])) ?_ fu _ eL6 H locs ls hG (lv_sub hl [1, 3, 0] rfl)
  intro z rr6 hb6 hin6 hout6
  obtain ⟨x3_3, aUps_4⟩ := z
  intro H locs ls hG hl
  have hb6 : f8_meetNow_b1 iRoads aRisen_1 x3_3 aUps_4 = some rr6 := hb6
  have hG : GH D cI cZ layM q s ([iPageLength, iRoads, iRead, iAltered, iRanked, iStage, iFigures, iNewRoads, iTold, iRouted, iRouteSum], [jH], [aPage, aBeginOf, aEndOf, aLengthOf, aCosts, aRankOf, aRoadAt, aWorths, aMiddles, aLeasts, aBusy, aNewBegin, aNewEnd, aNewLength, aIsLeft, aAround, aWhole, aIsNeeded, aWereRanks, aWaitFrom, aWaitTo, aToldAt, aRisen_1, aUps_4, aTried, aRoutes]) H locs := hG
  have hl : lv_has ls 7 [(0, .ref (q 0)), (2, .int p2), (3, .int x3_3)] := hl
  unfold f8_meetNow_b1 at hb6
  refine lv_iload_n hx hb dX8_meetNow_8 rfl (lv_at hl 2 rfl) ?_
  refine lv_aload_n hx hb dX8_meetNow_9 rfl (lv_at hl 0 rfl) ?_
  refine g_get (v := .int iRoads) X hT hG fl_X8_120 0 rfl rfl rfl dX8_meetNow_10 ?_
  refine lv_icmp_ge (tgt := 34) hx hb dX8_meetNow_13 (by decide) (fun cb7 => ?_) (fun cb7 => ?_)
  · have hb6 := ite_t cb7 hb6
    have eo := hout6 _ (Option.some.inj hb6).symm
    cases eo
    exact JX6 H locs ls hG (lv_sub hl [0, 1] rfl)
  · have hb6 := ite_f cb7 hb6
    refine lv_aload_n hx hb dX8_meetNow_16 rfl (lv_at hl 0 rfl) ?_
    refine g_get (v := .ref (q 24)) X hT hG fl_X8_80 0 rfl rfl rfl dX8_meetNow_17 ?_
    refine lv_iload_n hx hb dX8_meetNow_20 rfl (lv_at hl 2 rfl) ?_
    refine lv_aload_n hx hb dX8_meetNow_21 rfl (lv_at hl 0 rfl) ?_
    refine g_get (v := .ref (q 23)) X hT hG fl_X8_77 0 rfl rfl rfl dX8_meetNow_22 ?_
    refine lv_iload_n hx hb dX8_meetNow_25 rfl (lv_at hl 2 rfl) ?_
    obtain ⟨hi8, hb6⟩ := ckin_some hb6
    refine g_ald (f := aRisen_1) X hT hG 23 rfl rfl hi8 dX8_meetNow_26 ?_
    obtain ⟨hi9, hb6⟩ := ckin_some hb6
    obtain ⟨aUps_10, eaUps_10⟩ : ∃ z : Nat → Int32, z = upd aUps_4 x3_3.toNatClampNeg (aRisen_1 x3_3.toNatClampNeg) := ⟨_, rfl⟩
    have hb6 := bd_e eaUps_10 hb6
    refine g_ast (w' := ([iPageLength, iRoads, iRead, iAltered, iRanked, iStage, iFigures, iNewRoads, iTold, iRouted, iRouteSum], [jH], [aPage, aBeginOf, aEndOf, aLengthOf, aCosts, aRankOf, aRoadAt, aWorths, aMiddles, aLeasts, aBusy, aNewBegin, aNewEnd, aNewLength, aIsLeft, aAround, aWhole, aIsNeeded, aWereRanks, aWaitFrom, aWaitTo, aToldAt, aRisen_1, aUps_10, aTried, aRoutes])) X hT hq hG 24 rfl ga_M_aUps (Nat.le_of_ble_eq_true rfl) hi9 (by subst eaUps_10; rfl) dX8_meetNow_27 (fun H locs hG => ?_)
    obtain ⟨x3_11, ex3_11⟩ : ∃ z : Int32, z = x3_3 + 1 := ⟨_, rfl⟩
    have hb6 := bd_e ex3_11 hb6
    refine lv_iinc (v := x3_11) (lv' := [(3, .int x3_11), (0, .ref (q 0)), (2, .int p2)]) hx hb dX8_meetNow_28 hl (k := 2) rfl (by rw [ex3_11]; rfl) (by decide) rfl (fun ls hl => ?_)
    refine lv_goto (tgt := 8) hx hb dX8_meetNow_31 (by decide) ?_
    exact hin6 _ (Option.some.inj hb6).symm H locs ls hG (lv_sub hl [1, 2, 0] rfl)
def f8_meet (fu : Nat) (p1 : Int32) (iRoads : Int32) (p2 : Int32) (aRisen : (Nat → Int32)) (aUps : (Nat → Int32)) (aRoadAt : (Nat → Int32)) (aWorths : (Nat → Int32)) : Option (Int32 × (Nat → Int32) × (Nat → Int32)) :=
  bnd1 (f8_areRoads p1 iRoads p2) fun (r_1 : Int32) => bnd3 (if r_1 = 0 then (some ((-101), aRisen, aUps)) else bnd3 (f8_meetNow fu iRoads p1 aRisen aRoadAt aWorths aUps p2) fun (r_8 : Int32) (aRisen_9 : (Nat → Int32)) (aUps_10 : (Nat → Int32)) => some (r_8, aRisen_9, aUps_10)) fun (y_3 : Int32) (aRisen_4 : (Nat → Int32)) (aUps_5 : (Nat → Int32)) => some (y_3, aRisen_4, aUps_5)
set_option maxHeartbeats 4000000 in
set_option maxRecDepth 100000 in
theorem c_X8_meet (hq : gJ layM q) {fu : Nat} {p1 : Int32} {p2 : Int32} {o_r : Int32} {o_aRisen : (Nat → Int32)} {o_aUps : (Nat → Int32)} (h : f8_meet fu p1 iRoads p2 aRisen aUps aRoadAt aWorths = some (o_r, o_aRisen, o_aUps)) :
    GM l yX8_meet cX8_meet 3 (some .int) 3 65 D cI cZ layM q [.ref (q 0), .int p1, .int p2] ([iPageLength, iRoads, iRead, iAltered, iRanked, iStage, iFigures, iNewRoads, iTold, iRouted, iRouteSum], [jH], [aPage, aBeginOf, aEndOf, aLengthOf, aCosts, aRankOf, aRoadAt, aWorths, aMiddles, aLeasts, aBusy, aNewBegin, aNewEnd, aNewLength, aIsLeft, aAround, aWhole, aIsNeeded, aWereRanks, aWaitFrom, aWaitTo, aToldAt, aRisen, aUps, aTried, aRoutes]) (some (.int o_r)) ([iPageLength, iRoads, iRead, iAltered, iRanked, iStage, iFigures, iNewRoads, iTold, iRouted, iRouteSum], [jH], [aPage, aBeginOf, aEndOf, aLengthOf, aCosts, aRankOf, aRoadAt, aWorths, aMiddles, aLeasts, aBusy, aNewBegin, aNewEnd, aNewLength, aIsLeft, aAround, aWhole, aIsNeeded, aWereRanks, aWaitFrom, aWaitTo, aToldAt, o_aRisen, o_aUps, aTried, aRoutes]) := by
  refine GM.go RX8 (by decide) rfl (Nat.le_of_ble_eq_true rfl) ?_
  intro p e s m args below meth c ls R Q H locs X hr hlk hT hG hl hR hQ
  have hx := X.1
  have hb := X.2.1
  have hl : lv_has ls 3 [(0, .ref (q 0)), (1, .int p1), (2, .int p2)] := hl
  unfold f8_meet at h
  refine lv_aload_n hx hb dX8_meet_0 rfl (lv_at hl 0 rfl) ?_
  refine lv_iload_n hx hb dX8_meet_1 rfl (lv_at hl 1 rfl) ?_
  refine lv_iload_n hx hb dX8_meet_2 rfl (lv_at hl 2 rfl) ?_
  obtain ⟨r_1, ec2, h⟩ := bnd1_some h
  refine g_callVr [.int p1, .int p2] [] 0 X hT hG ml_X8_180 (c_X8_areRoads hq ec2) rfl rfl rfl rfl rfl hl.1 (Nat.le_of_ble_eq_true rfl) (by rw [hR]; exact ⟨Nat.le_of_ble_eq_true rfl, Nat.le_of_ble_eq_true rfl⟩) dX8_meet_3 (fun H locs hG => ?_)
  obtain ⟨y_3, aRisen_4, aUps_5, er6, h⟩ := bnd3_some h
  have J6 : ∀ (H : Heap) (locs : List Loc) (ls : Array Slot), GH D cI cZ layM q s ([iPageLength, iRoads, iRead, iAltered, iRanked, iStage, iFigures, iNewRoads, iTold, iRouted, iRouteSum], [jH], [aPage, aBeginOf, aEndOf, aLengthOf, aCosts, aRankOf, aRoadAt, aWorths, aMiddles, aLeasts, aBusy, aNewBegin, aNewEnd, aNewLength, aIsLeft, aAround, aWhole, aIsNeeded, aWereRanks, aWaitFrom, aWaitTo, aToldAt, aRisen_4, aUps_5, aTried, aRoutes]) H locs → lv_has ls 3 [] → W p l e R s m args below meth c H locs 0 0 Q (F0 m 20 ls [.int y_3]) := by
    intro H locs ls hG hl
    cases h
    rw [hQ]
    exact g_iret X hT hG hr hlk dX8_meet_20
  refine lv_if_eq (tgt := 18) hx hb dX8_meet_6 (by decide) (fun cb7 => ?_) (fun cb7 => ?_)
  · have er6 := ite_t cb7 er6
    refine lv_bipush (v := (-101)) hx hb dX8_meet_18 (by decide) ?_
    cases er6
    exact J6 H locs ls hG (lv_sub hl [] rfl)
  · have er6 := ite_f cb7 er6
    refine lv_aload_n hx hb dX8_meet_9 rfl (lv_at hl 0 rfl) ?_
    refine lv_iload_n hx hb dX8_meet_10 rfl (lv_at hl 1 rfl) ?_
    refine lv_iload_n hx hb dX8_meet_11 rfl (lv_at hl 2 rfl) ?_
    obtain ⟨r_8, aRisen_9, aUps_10, ec11, er6⟩ := bnd3_some er6
    refine g_callVr [.int p1, .int p2] [] 0 X hT hG ml_X8_216 (c_X8_meetNow hq ec11) rfl rfl rfl rfl rfl hl.1 (Nat.le_of_ble_eq_true rfl) (by rw [hR]; exact ⟨Nat.le_of_ble_eq_true rfl, Nat.le_of_ble_eq_true rfl⟩) dX8_meet_12 (fun H locs hG => ?_)
    have hG : GH D cI cZ layM q s ([iPageLength, iRoads, iRead, iAltered, iRanked, iStage, iFigures, iNewRoads, iTold, iRouted, iRouteSum], [jH], [aPage, aBeginOf, aEndOf, aLengthOf, aCosts, aRankOf, aRoadAt, aWorths, aMiddles, aLeasts, aBusy, aNewBegin, aNewEnd, aNewLength, aIsLeft, aAround, aWhole, aIsNeeded, aWereRanks, aWaitFrom, aWaitTo, aToldAt, aRisen_9, aUps_10, aTried, aRoutes]) H locs := hG
    refine lv_goto (tgt := 20) hx hb dX8_meet_15 (by decide) ?_
    cases er6
    exact J6 H locs ls hG (lv_sub hl [] rfl)
def f8_layTried_b2 (iRoads : Int32) (x2_1 : Int32) (aCosts : (Nat → Int32)) (p1 : Int32) (aLengthOf : (Nat → Int32)) (x3_6 : Int32) (aTried_7 : (Nat → Int32)) : Option ((Int32 × (Nat → Int32)) ⊕ ((Nat → Int32))) :=
  if iRoads ≤ x3_6 then (some (.inr aTried_7)) else bnd1 (f8_isStep x2_1 x3_6 aCosts) fun (r_11 : Int32) => bnd1 (if r_11 = 0 then (some 0) else if x2_1 = p1 then (some 0) else if x3_6 = p1 then (some 0) else some 1) fun (y_13 : Int32) => bnd1 (if x2_1 = x3_6 then (some 0) else if y_13 = 0 then (some 268435456) else ckin ((12 * x2_1) + x3_6) 144 (ckin x3_6 12 (some ((aCosts ((12 * x2_1) + x3_6).toNatClampNeg) + (aLengthOf x3_6.toNatClampNeg))))) fun (y_18 : Int32) => ckin ((12 * x2_1) + x3_6) 144 (bd (upd aTried_7 ((12 * x2_1) + x3_6).toNatClampNeg y_18) fun aTried_25 => bd (x3_6 + 1) fun x3_26 => some (.inl (x3_26, aTried_25)))
def f8_layTried_b1 (fu : Nat) (iRoads : Int32) (aCosts : (Nat → Int32)) (p1 : Int32) (aLengthOf : (Nat → Int32)) (x2_1 : Int32) (aTried_2 : (Nat → Int32)) : Option ((Int32 × (Nat → Int32)) ⊕ ((Nat → Int32))) :=
  if iRoads ≤ x2_1 then (some (.inr aTried_2)) else bnd1 (lpG (fun z => f8_layTried_b2 iRoads x2_1 aCosts p1 aLengthOf z.1 z.2) fu ((0 : Int32), aTried_2)) fun (aTried_8 : (Nat → Int32)) => bd (x2_1 + 1) fun x2_27 => some (.inl (x2_27, aTried_8))
def f8_layTried_b5 (iRoads : Int32) (x3_33 : Int32) (x2_28 : Int32) (x4_38 : Int32) (aTried_39 : (Nat → Int32)) : Option ((Int32 × (Nat → Int32)) ⊕ ((Nat → Int32))) :=
  if iRoads ≤ x4_38 then (some (.inr aTried_39)) else ckin ((12 * x3_33) + x2_28) 144 (ckin ((12 * x2_28) + x4_38) 144 (bd (((aTried_39 ((12 * x3_33) + x2_28).toNatClampNeg) + (aTried_39 ((12 * x2_28) + x4_38).toNatClampNeg))) fun x5_45 => ckin ((12 * x3_33) + x4_38) 144 (bnd1 (if (aTried_39 ((12 * x3_33) + x4_38).toNatClampNeg) ≤ x5_45 then (ckin ((12 * x3_33) + x4_38) 144 (some (aTried_39 ((12 * x3_33) + x4_38).toNatClampNeg))) else some x5_45) fun (y_47 : Int32) => ckin ((12 * x3_33) + x4_38) 144 (bd (upd aTried_39 ((12 * x3_33) + x4_38).toNatClampNeg y_47) fun aTried_52 => bd (x4_38 + 1) fun x4_53 => some (.inl (x4_53, aTried_52))))))
def f8_layTried_b4 (fu : Nat) (iRoads : Int32) (x2_28 : Int32) (x3_33 : Int32) (aTried_34 : (Nat → Int32)) : Option ((Int32 × (Nat → Int32)) ⊕ ((Nat → Int32))) :=
  if iRoads ≤ x3_33 then (some (.inr aTried_34)) else bnd1 (lpG (fun z => f8_layTried_b5 iRoads x3_33 x2_28 z.1 z.2) fu ((0 : Int32), aTried_34)) fun (aTried_40 : (Nat → Int32)) => bd (x3_33 + 1) fun x3_54 => some (.inl (x3_54, aTried_40))
def f8_layTried_b3 (fu : Nat) (iRoads : Int32) (x2_28 : Int32) (aTried_29 : (Nat → Int32)) : Option ((Int32 × (Nat → Int32)) ⊕ ((Nat → Int32))) :=
  if iRoads ≤ x2_28 then (some (.inr aTried_29)) else bnd1 (lpG (fun z => f8_layTried_b4 fu iRoads x2_28 z.1 z.2) fu ((0 : Int32), aTried_29)) fun (aTried_35 : (Nat → Int32)) => bd (x2_28 + 1) fun x2_55 => some (.inl (x2_55, aTried_35))
def f8_layTried (fu : Nat) (iRoads : Int32) (aCosts : (Nat → Int32)) (p1 : Int32) (aLengthOf : (Nat → Int32)) (aTried : (Nat → Int32)) : Option ((Nat → Int32)) :=
  bnd1 (lpG (fun z => f8_layTried_b1 fu iRoads aCosts p1 aLengthOf z.1 z.2) fu ((0 : Int32), aTried)) fun (aTried_3 : (Nat → Int32)) => bnd1 (lpG (fun z => f8_layTried_b3 fu iRoads z.1 z.2) fu ((0 : Int32), aTried_3)) fun (aTried_30 : (Nat → Int32)) => some aTried_30
set_option maxHeartbeats 4000000 in
set_option maxRecDepth 100000 in
theorem c_X8_layTried (hq : gJ layM q) {fu : Nat} {p1 : Int32} {o_aTried : (Nat → Int32)} (h : f8_layTried fu iRoads aCosts p1 aLengthOf aTried = some o_aTried) :
    GM l yX8_layTried cX8_layTried 6 none 1 22 D cI cZ layM q [.ref (q 0), .int p1] ([iPageLength, iRoads, iRead, iAltered, iRanked, iStage, iFigures, iNewRoads, iTold, iRouted, iRouteSum], [jH], [aPage, aBeginOf, aEndOf, aLengthOf, aCosts, aRankOf, aRoadAt, aWorths, aMiddles, aLeasts, aBusy, aNewBegin, aNewEnd, aNewLength, aIsLeft, aAround, aWhole, aIsNeeded, aWereRanks, aWaitFrom, aWaitTo, aToldAt, aRisen, aUps, aTried, aRoutes]) none ([iPageLength, iRoads, iRead, iAltered, iRanked, iStage, iFigures, iNewRoads, iTold, iRouted, iRouteSum], [jH], [aPage, aBeginOf, aEndOf, aLengthOf, aCosts, aRankOf, aRoadAt, aWorths, aMiddles, aLeasts, aBusy, aNewBegin, aNewEnd, aNewLength, aIsLeft, aAround, aWhole, aIsNeeded, aWereRanks, aWaitFrom, aWaitTo, aToldAt, aRisen, aUps, o_aTried, aRoutes]) := by
  refine GM.go RX8 (by decide) rfl (Nat.le_of_ble_eq_true rfl) ?_
  intro p e s m args below meth c ls R Q H locs X hr hlk hT hG hl hR hQ
  have hx := X.1
  have hb := X.2.1
  have hl : lv_has ls 6 [(0, .ref (q 0)), (1, .int p1)] := hl
  unfold f8_layTried at h
  refine lv_iconst (v := 0) hx hb dX8_layTried_0 (by decide) ?_
  refine lv_istore_n (lv' := [(2, .int 0), (0, .ref (q 0)), (1, .int p1)]) hx hb dX8_layTried_1 rfl hl (by decide) rfl (fun ls hl => ?_)
  obtain ⟨aTried_3, eL4, h⟩ := bnd1_some h
  have JX4 : ∀ (H : Heap) (locs : List Loc) (ls : Array Slot), GH D cI cZ layM q s ([iPageLength, iRoads, iRead, iAltered, iRanked, iStage, iFigures, iNewRoads, iTold, iRouted, iRouteSum], [jH], [aPage, aBeginOf, aEndOf, aLengthOf, aCosts, aRankOf, aRoadAt, aWorths, aMiddles, aLeasts, aBusy, aNewBegin, aNewEnd, aNewLength, aIsLeft, aAround, aWhole, aIsNeeded, aWereRanks, aWaitFrom, aWaitTo, aToldAt, aRisen, aUps, aTried_3, aRoutes]) H locs → lv_has ls 6 [(0, .ref (q 0))] → W p l e R s m args below meth c H locs 0 0 Q (F0 m 106 ls []) := by
    intro H locs ls hG hl
    refine lv_iconst (v := 0) hx hb dX8_layTried_106 (by decide) ?_
    refine lv_istore_n (lv' := [(2, .int 0), (0, .ref (q 0))]) hx hb dX8_layTried_107 rfl hl (by decide) rfl (fun ls hl => ?_)
    obtain ⟨aTried_30, eL31, h⟩ := bnd1_some h
    have JX31 : ∀ (H : Heap) (locs : List Loc) (ls : Array Slot), GH D cI cZ layM q s ([iPageLength, iRoads, iRead, iAltered, iRanked, iStage, iFigures, iNewRoads, iTold, iRouted, iRouteSum], [jH], [aPage, aBeginOf, aEndOf, aLengthOf, aCosts, aRankOf, aRoadAt, aWorths, aMiddles, aLeasts, aBusy, aNewBegin, aNewEnd, aNewLength, aIsLeft, aAround, aWhole, aIsNeeded, aWereRanks, aWaitFrom, aWaitTo, aToldAt, aRisen, aUps, aTried_30, aRoutes]) H locs → lv_has ls 6 [] → W p l e R s m args below meth c H locs 0 0 Q (F0 m 228 ls []) := by
      intro H locs ls hG hl
      cases h
      rw [hQ]
      exact g_vret X hT hG hr hlk dX8_layTried_228
    refine lpG_W (Wh := fun z => ∀ (H : Heap) (locs : List Loc) (ls : Array Slot), GH D cI cZ layM q s ([iPageLength, iRoads, iRead, iAltered, iRanked, iStage, iFigures, iNewRoads, iTold, iRouted, iRouteSum], [jH], [aPage, aBeginOf, aEndOf, aLengthOf, aCosts, aRankOf, aRoadAt, aWorths, aMiddles, aLeasts, aBusy, aNewBegin, aNewEnd, aNewLength, aIsLeft, aAround, aWhole, aIsNeeded, aWereRanks, aWaitFrom, aWaitTo, aToldAt, aRisen, aUps, z.2, aRoutes]) H locs → lv_has ls 6 [(0, .ref (q 0)), (2, .int (z.1))] → W p l e R s m args below meth c H locs 0 0 Q (F0 m 108 ls [])) ?_ fu _ eL31 H locs ls hG (lv_sub hl [1, 0] rfl)
    intro z rr31 hb31 hin31 hout31
    obtain ⟨x2_28, aTried_29⟩ := z
    intro H locs ls hG hl
    have hb31 : f8_layTried_b3 fu iRoads x2_28 aTried_29 = some rr31 := hb31
    have hG : GH D cI cZ layM q s ([iPageLength, iRoads, iRead, iAltered, iRanked, iStage, iFigures, iNewRoads, iTold, iRouted, iRouteSum], [jH], [aPage, aBeginOf, aEndOf, aLengthOf, aCosts, aRankOf, aRoadAt, aWorths, aMiddles, aLeasts, aBusy, aNewBegin, aNewEnd, aNewLength, aIsLeft, aAround, aWhole, aIsNeeded, aWereRanks, aWaitFrom, aWaitTo, aToldAt, aRisen, aUps, aTried_29, aRoutes]) H locs := hG
    have hl : lv_has ls 6 [(0, .ref (q 0)), (2, .int x2_28)] := hl
    unfold f8_layTried_b3 at hb31
    refine lv_iload_n hx hb dX8_layTried_108 rfl (lv_at hl 1 rfl) ?_
    refine lv_aload_n hx hb dX8_layTried_109 rfl (lv_at hl 0 rfl) ?_
    refine g_get (v := .int iRoads) X hT hG fl_X8_120 0 rfl rfl rfl dX8_layTried_110 ?_
    refine lv_icmp_ge (tgt := 228) hx hb dX8_layTried_113 (by decide) (fun cb32 => ?_) (fun cb32 => ?_)
    · have hb31 := ite_t cb32 hb31
      have eo := hout31 _ (Option.some.inj hb31).symm
      cases eo
      exact JX31 H locs ls hG (lv_sub hl [] rfl)
    · have hb31 := ite_f cb32 hb31
      refine lv_iconst (v := 0) hx hb dX8_layTried_116 (by decide) ?_
      refine lv_istore_n (lv' := [(3, .int 0), (0, .ref (q 0)), (2, .int x2_28)]) hx hb dX8_layTried_117 rfl hl (by decide) rfl (fun ls hl => ?_)
      obtain ⟨aTried_35, eL36, hb31⟩ := bnd1_some hb31
      have JX36 : ∀ (H : Heap) (locs : List Loc) (ls : Array Slot), GH D cI cZ layM q s ([iPageLength, iRoads, iRead, iAltered, iRanked, iStage, iFigures, iNewRoads, iTold, iRouted, iRouteSum], [jH], [aPage, aBeginOf, aEndOf, aLengthOf, aCosts, aRankOf, aRoadAt, aWorths, aMiddles, aLeasts, aBusy, aNewBegin, aNewEnd, aNewLength, aIsLeft, aAround, aWhole, aIsNeeded, aWereRanks, aWaitFrom, aWaitTo, aToldAt, aRisen, aUps, aTried_35, aRoutes]) H locs → lv_has ls 6 [(0, .ref (q 0)), (2, .int x2_28)] → W p l e R s m args below meth c H locs 0 0 Q (F0 m 222 ls []) := by
        intro H locs ls hG hl
        obtain ⟨x2_55, ex2_55⟩ : ∃ z : Int32, z = x2_28 + 1 := ⟨_, rfl⟩
        have hb31 := bd_e ex2_55 hb31
        refine lv_iinc (v := x2_55) (lv' := [(2, .int x2_55), (0, .ref (q 0))]) hx hb dX8_layTried_222 hl (k := 1) rfl (by rw [ex2_55]; rfl) (by decide) rfl (fun ls hl => ?_)
        refine lv_goto (tgt := 108) hx hb dX8_layTried_225 (by decide) ?_
        exact hin31 _ (Option.some.inj hb31).symm H locs ls hG (lv_sub hl [1, 0] rfl)
      refine lpG_W (Wh := fun z => ∀ (H : Heap) (locs : List Loc) (ls : Array Slot), GH D cI cZ layM q s ([iPageLength, iRoads, iRead, iAltered, iRanked, iStage, iFigures, iNewRoads, iTold, iRouted, iRouteSum], [jH], [aPage, aBeginOf, aEndOf, aLengthOf, aCosts, aRankOf, aRoadAt, aWorths, aMiddles, aLeasts, aBusy, aNewBegin, aNewEnd, aNewLength, aIsLeft, aAround, aWhole, aIsNeeded, aWereRanks, aWaitFrom, aWaitTo, aToldAt, aRisen, aUps, z.2, aRoutes]) H locs → lv_has ls 6 [(0, .ref (q 0)), (2, .int x2_28), (3, .int (z.1))] → W p l e R s m args below meth c H locs 0 0 Q (F0 m 118 ls [])) ?_ fu _ eL36 H locs ls hG (lv_sub hl [1, 2, 0] rfl)
      intro z rr36 hb36 hin36 hout36
      obtain ⟨x3_33, aTried_34⟩ := z
      intro H locs ls hG hl
      have hb36 : f8_layTried_b4 fu iRoads x2_28 x3_33 aTried_34 = some rr36 := hb36
      have hG : GH D cI cZ layM q s ([iPageLength, iRoads, iRead, iAltered, iRanked, iStage, iFigures, iNewRoads, iTold, iRouted, iRouteSum], [jH], [aPage, aBeginOf, aEndOf, aLengthOf, aCosts, aRankOf, aRoadAt, aWorths, aMiddles, aLeasts, aBusy, aNewBegin, aNewEnd, aNewLength, aIsLeft, aAround, aWhole, aIsNeeded, aWereRanks, aWaitFrom, aWaitTo, aToldAt, aRisen, aUps, aTried_34, aRoutes]) H locs := hG
      have hl : lv_has ls 6 [(0, .ref (q 0)), (2, .int x2_28), (3, .int x3_33)] := hl
      unfold f8_layTried_b4 at hb36
      refine lv_iload_n hx hb dX8_layTried_118 rfl (lv_at hl 2 rfl) ?_
      refine lv_aload_n hx hb dX8_layTried_119 rfl (lv_at hl 0 rfl) ?_
      refine g_get (v := .int iRoads) X hT hG fl_X8_120 0 rfl rfl rfl dX8_layTried_120 ?_
      refine lv_icmp_ge (tgt := 222) hx hb dX8_layTried_123 (by decide) (fun cb37 => ?_) (fun cb37 => ?_)
      · have hb36 := ite_t cb37 hb36
        have eo := hout36 _ (Option.some.inj hb36).symm
        cases eo
        exact JX36 H locs ls hG (lv_sub hl [0, 1] rfl)
      · have hb36 := ite_f cb37 hb36
        refine lv_iconst (v := 0) hx hb dX8_layTried_126 (by decide) ?_
        refine lv_istore (lv' := [(4, .int 0), (0, .ref (q 0)), (2, .int x2_28), (3, .int x3_33)]) hx hb dX8_layTried_127 hl (by decide) rfl (fun ls hl => ?_)
        obtain ⟨aTried_40, eL41, hb36⟩ := bnd1_some hb36
        have JX41 : ∀ (H : Heap) (locs : List Loc) (ls : Array Slot), GH D cI cZ layM q s ([iPageLength, iRoads, iRead, iAltered, iRanked, iStage, iFigures, iNewRoads, iTold, iRouted, iRouteSum], [jH], [aPage, aBeginOf, aEndOf, aLengthOf, aCosts, aRankOf, aRoadAt, aWorths, aMiddles, aLeasts, aBusy, aNewBegin, aNewEnd, aNewLength, aIsLeft, aAround, aWhole, aIsNeeded, aWereRanks, aWaitFrom, aWaitTo, aToldAt, aRisen, aUps, aTried_40, aRoutes]) H locs → lv_has ls 6 [(0, .ref (q 0)), (2, .int x2_28), (3, .int x3_33)] → W p l e R s m args below meth c H locs 0 0 Q (F0 m 216 ls []) := by
          intro H locs ls hG hl
          obtain ⟨x3_54, ex3_54⟩ : ∃ z : Int32, z = x3_33 + 1 := ⟨_, rfl⟩
          have hb36 := bd_e ex3_54 hb36
          refine lv_iinc (v := x3_54) (lv' := [(3, .int x3_54), (0, .ref (q 0)), (2, .int x2_28)]) hx hb dX8_layTried_216 hl (k := 2) rfl (by rw [ex3_54]; rfl) (by decide) rfl (fun ls hl => ?_)
          refine lv_goto (tgt := 118) hx hb dX8_layTried_219 (by decide) ?_
          exact hin36 _ (Option.some.inj hb36).symm H locs ls hG (lv_sub hl [1, 2, 0] rfl)
        refine lpG_W (Wh := fun z => ∀ (H : Heap) (locs : List Loc) (ls : Array Slot), GH D cI cZ layM q s ([iPageLength, iRoads, iRead, iAltered, iRanked, iStage, iFigures, iNewRoads, iTold, iRouted, iRouteSum], [jH], [aPage, aBeginOf, aEndOf, aLengthOf, aCosts, aRankOf, aRoadAt, aWorths, aMiddles, aLeasts, aBusy, aNewBegin, aNewEnd, aNewLength, aIsLeft, aAround, aWhole, aIsNeeded, aWereRanks, aWaitFrom, aWaitTo, aToldAt, aRisen, aUps, z.2, aRoutes]) H locs → lv_has ls 6 [(0, .ref (q 0)), (2, .int x2_28), (3, .int x3_33), (4, .int (z.1))] → W p l e R s m args below meth c H locs 0 0 Q (F0 m 129 ls [])) ?_ fu _ eL41 H locs ls hG (lv_sub hl [1, 2, 3, 0] rfl)
        intro z rr41 hb41 hin41 hout41
        obtain ⟨x4_38, aTried_39⟩ := z
        intro H locs ls hG hl
        have hb41 : f8_layTried_b5 iRoads x3_33 x2_28 x4_38 aTried_39 = some rr41 := hb41
        have hG : GH D cI cZ layM q s ([iPageLength, iRoads, iRead, iAltered, iRanked, iStage, iFigures, iNewRoads, iTold, iRouted, iRouteSum], [jH], [aPage, aBeginOf, aEndOf, aLengthOf, aCosts, aRankOf, aRoadAt, aWorths, aMiddles, aLeasts, aBusy, aNewBegin, aNewEnd, aNewLength, aIsLeft, aAround, aWhole, aIsNeeded, aWereRanks, aWaitFrom, aWaitTo, aToldAt, aRisen, aUps, aTried_39, aRoutes]) H locs := hG
        have hl : lv_has ls 6 [(0, .ref (q 0)), (2, .int x2_28), (3, .int x3_33), (4, .int x4_38)] := hl
        unfold f8_layTried_b5 at hb41
        refine lv_iload hx hb dX8_layTried_129 (lv_at hl 3 rfl) ?_
        refine lv_aload_n hx hb dX8_layTried_131 rfl (lv_at hl 0 rfl) ?_
        refine g_get (v := .int iRoads) X hT hG fl_X8_120 0 rfl rfl rfl dX8_layTried_132 ?_
        refine lv_icmp_ge (tgt := 216) hx hb dX8_layTried_135 (by decide) (fun cb42 => ?_) (fun cb42 => ?_)
        · have hb41 := ite_t cb42 hb41
          have eo := hout41 _ (Option.some.inj hb41).symm
          cases eo
          exact JX41 H locs ls hG (lv_sub hl [0, 1, 2] rfl)
        · have hb41 := ite_f cb42 hb41
          refine lv_aload_n hx hb dX8_layTried_138 rfl (lv_at hl 0 rfl) ?_
          refine g_get (v := .ref (q 25)) X hT hG fl_X8_83 0 rfl rfl rfl dX8_layTried_139 ?_
          refine lv_bipush (v := 12) hx hb dX8_layTried_142 (by decide) ?_
          refine lv_iload_n hx hb dX8_layTried_144 rfl (lv_at hl 2 rfl) ?_
          refine lv_imul hx hb dX8_layTried_145 ?_
          refine lv_iload_n hx hb dX8_layTried_146 rfl (lv_at hl 1 rfl) ?_
          refine lv_iadd hx hb dX8_layTried_147 ?_
          obtain ⟨hi43, hb41⟩ := ckin_some hb41
          refine g_ald (f := aTried_39) X hT hG 25 rfl rfl hi43 dX8_layTried_148 ?_
          refine lv_aload_n hx hb dX8_layTried_149 rfl (lv_at hl 0 rfl) ?_
          refine g_get (v := .ref (q 25)) X hT hG fl_X8_83 0 rfl rfl rfl dX8_layTried_150 ?_
          refine lv_bipush (v := 12) hx hb dX8_layTried_153 (by decide) ?_
          refine lv_iload_n hx hb dX8_layTried_155 rfl (lv_at hl 1 rfl) ?_
          refine lv_imul hx hb dX8_layTried_156 ?_
          refine lv_iload hx hb dX8_layTried_157 (lv_at hl 3 rfl) ?_
          refine lv_iadd hx hb dX8_layTried_159 ?_
          obtain ⟨hi44, hb41⟩ := ckin_some hb41
          refine g_ald (f := aTried_39) X hT hG 25 rfl rfl hi44 dX8_layTried_160 ?_
          refine lv_iadd hx hb dX8_layTried_161 ?_
          refine lv_topi (fun x5_45 ex5_45 => ?_)
          have hb41 := bd_e ex5_45 hb41
          refine lv_istore (lv' := [(5, .int x5_45), (0, .ref (q 0)), (2, .int x2_28), (3, .int x3_33), (4, .int x4_38)]) hx hb dX8_layTried_162 hl (by decide) rfl (fun ls hl => ?_)
          refine lv_aload_n hx hb dX8_layTried_164 rfl (lv_at hl 1 rfl) ?_
          refine g_get (v := .ref (q 25)) X hT hG fl_X8_83 0 rfl rfl rfl dX8_layTried_165 ?_
          refine lv_bipush (v := 12) hx hb dX8_layTried_168 (by decide) ?_
          refine lv_iload_n hx hb dX8_layTried_170 rfl (lv_at hl 3 rfl) ?_
          refine lv_imul hx hb dX8_layTried_171 ?_
          refine lv_iload hx hb dX8_layTried_172 (lv_at hl 4 rfl) ?_
          refine lv_iadd hx hb dX8_layTried_174 ?_
          refine lv_iload hx hb dX8_layTried_175 (lv_at hl 0 rfl) ?_
          refine lv_aload_n hx hb dX8_layTried_177 rfl (lv_at hl 1 rfl) ?_
          refine g_get (v := .ref (q 25)) X hT hG fl_X8_83 0 rfl rfl rfl dX8_layTried_178 ?_
          refine lv_bipush (v := 12) hx hb dX8_layTried_181 (by decide) ?_
          refine lv_iload_n hx hb dX8_layTried_183 rfl (lv_at hl 3 rfl) ?_
          refine lv_imul hx hb dX8_layTried_184 ?_
          refine lv_iload hx hb dX8_layTried_185 (lv_at hl 4 rfl) ?_
          refine lv_iadd hx hb dX8_layTried_187 ?_
          obtain ⟨hi46, hb41⟩ := ckin_some hb41
          refine g_ald (f := aTried_39) X hT hG 25 rfl rfl hi46 dX8_layTried_188 ?_
          obtain ⟨y_47, er48, hb41⟩ := bnd1_some hb41
          have J48 : ∀ (H : Heap) (locs : List Loc) (ls : Array Slot), GH D cI cZ layM q s ([iPageLength, iRoads, iRead, iAltered, iRanked, iStage, iFigures, iNewRoads, iTold, iRouted, iRouteSum], [jH], [aPage, aBeginOf, aEndOf, aLengthOf, aCosts, aRankOf, aRoadAt, aWorths, aMiddles, aLeasts, aBusy, aNewBegin, aNewEnd, aNewLength, aIsLeft, aAround, aWhole, aIsNeeded, aWereRanks, aWaitFrom, aWaitTo, aToldAt, aRisen, aUps, aTried_39, aRoutes]) H locs → lv_has ls 6 [(0, .ref (q 0)), (2, .int x2_28), (3, .int x3_33), (4, .int x4_38)] → W p l e R s m args below meth c H locs 0 0 Q (F0 m 209 ls [.int y_47, .int ((12 * x3_33) + x4_38), .ref (q 25)]) := by
            intro H locs ls hG hl
            obtain ⟨hi51, hb41⟩ := ckin_some hb41
            obtain ⟨aTried_52, eaTried_52⟩ : ∃ z : Nat → Int32, z = upd aTried_39 ((12 * x3_33) + x4_38).toNatClampNeg y_47 := ⟨_, rfl⟩
            have hb41 := bd_e eaTried_52 hb41
            refine g_ast (w' := ([iPageLength, iRoads, iRead, iAltered, iRanked, iStage, iFigures, iNewRoads, iTold, iRouted, iRouteSum], [jH], [aPage, aBeginOf, aEndOf, aLengthOf, aCosts, aRankOf, aRoadAt, aWorths, aMiddles, aLeasts, aBusy, aNewBegin, aNewEnd, aNewLength, aIsLeft, aAround, aWhole, aIsNeeded, aWereRanks, aWaitFrom, aWaitTo, aToldAt, aRisen, aUps, aTried_52, aRoutes])) X hT hq hG 25 rfl ga_M_aTried (Nat.le_of_ble_eq_true rfl) hi51 (by subst eaTried_52; rfl) dX8_layTried_209 (fun H locs hG => ?_)
            obtain ⟨x4_53, ex4_53⟩ : ∃ z : Int32, z = x4_38 + 1 := ⟨_, rfl⟩
            have hb41 := bd_e ex4_53 hb41
            refine lv_iinc (v := x4_53) (lv' := [(4, .int x4_53), (0, .ref (q 0)), (2, .int x2_28), (3, .int x3_33)]) hx hb dX8_layTried_210 hl (k := 3) rfl (by rw [ex4_53]; rfl) (by decide) rfl (fun ls hl => ?_)
            refine lv_goto (tgt := 129) hx hb dX8_layTried_213 (by decide) ?_
            exact hin41 _ (Option.some.inj hb41).symm H locs ls hG (lv_sub hl [1, 2, 3, 0] rfl)
          refine lv_icmp_ge (tgt := 197) hx hb dX8_layTried_189 (by decide) (fun cb49 => ?_) (fun cb49 => ?_)
          · have er48 := ite_t cb49 er48
            refine lv_aload_n hx hb dX8_layTried_197 rfl (lv_at hl 1 rfl) ?_
            refine g_get (v := .ref (q 25)) X hT hG fl_X8_83 0 rfl rfl rfl dX8_layTried_198 ?_
            refine lv_bipush (v := 12) hx hb dX8_layTried_201 (by decide) ?_
            refine lv_iload_n hx hb dX8_layTried_203 rfl (lv_at hl 3 rfl) ?_
            refine lv_imul hx hb dX8_layTried_204 ?_
            refine lv_iload hx hb dX8_layTried_205 (lv_at hl 4 rfl) ?_
            refine lv_iadd hx hb dX8_layTried_207 ?_
            obtain ⟨hi50, er48⟩ := ckin_some er48
            refine g_ald (f := aTried_39) X hT hG 25 rfl rfl hi50 dX8_layTried_208 ?_
            cases er48
            exact J48 H locs ls hG (lv_sub hl [1, 2, 3, 4] rfl)
          · have er48 := ite_f cb49 er48
            refine lv_iload hx hb dX8_layTried_192 (lv_at hl 0 rfl) ?_
            refine lv_goto (tgt := 209) hx hb dX8_layTried_194 (by decide) ?_
            cases er48
            exact J48 H locs ls hG (lv_sub hl [1, 2, 3, 4] rfl)
  refine lpG_W (Wh := fun z => ∀ (H : Heap) (locs : List Loc) (ls : Array Slot), GH D cI cZ layM q s ([iPageLength, iRoads, iRead, iAltered, iRanked, iStage, iFigures, iNewRoads, iTold, iRouted, iRouteSum], [jH], [aPage, aBeginOf, aEndOf, aLengthOf, aCosts, aRankOf, aRoadAt, aWorths, aMiddles, aLeasts, aBusy, aNewBegin, aNewEnd, aNewLength, aIsLeft, aAround, aWhole, aIsNeeded, aWereRanks, aWaitFrom, aWaitTo, aToldAt, aRisen, aUps, z.2, aRoutes]) H locs → lv_has ls 6 [(0, .ref (q 0)), (1, .int p1), (2, .int (z.1))] → W p l e R s m args below meth c H locs 0 0 Q (F0 m 2 ls [])) ?_ fu _ eL4 H locs ls hG (lv_sub hl [1, 2, 0] rfl)
  intro z rr4 hb4 hin4 hout4
  obtain ⟨x2_1, aTried_2⟩ := z
  intro H locs ls hG hl
  have hb4 : f8_layTried_b1 fu iRoads aCosts p1 aLengthOf x2_1 aTried_2 = some rr4 := hb4
  have hG : GH D cI cZ layM q s ([iPageLength, iRoads, iRead, iAltered, iRanked, iStage, iFigures, iNewRoads, iTold, iRouted, iRouteSum], [jH], [aPage, aBeginOf, aEndOf, aLengthOf, aCosts, aRankOf, aRoadAt, aWorths, aMiddles, aLeasts, aBusy, aNewBegin, aNewEnd, aNewLength, aIsLeft, aAround, aWhole, aIsNeeded, aWereRanks, aWaitFrom, aWaitTo, aToldAt, aRisen, aUps, aTried_2, aRoutes]) H locs := hG
  have hl : lv_has ls 6 [(0, .ref (q 0)), (1, .int p1), (2, .int x2_1)] := hl
  unfold f8_layTried_b1 at hb4
  refine lv_iload_n hx hb dX8_layTried_2 rfl (lv_at hl 2 rfl) ?_
  refine lv_aload_n hx hb dX8_layTried_3 rfl (lv_at hl 0 rfl) ?_
  refine g_get (v := .int iRoads) X hT hG fl_X8_120 0 rfl rfl rfl dX8_layTried_4 ?_
  refine lv_icmp_ge (tgt := 106) hx hb dX8_layTried_7 (by decide) (fun cb5 => ?_) (fun cb5 => ?_)
  · have hb4 := ite_t cb5 hb4
    have eo := hout4 _ (Option.some.inj hb4).symm
    cases eo
    exact JX4 H locs ls hG (lv_sub hl [0] rfl)
  · have hb4 := ite_f cb5 hb4
    refine lv_iconst (v := 0) hx hb dX8_layTried_10 (by decide) ?_
    refine lv_istore_n (lv' := [(3, .int 0), (0, .ref (q 0)), (1, .int p1), (2, .int x2_1)]) hx hb dX8_layTried_11 rfl hl (by decide) rfl (fun ls hl => ?_)
    obtain ⟨aTried_8, eL9, hb4⟩ := bnd1_some hb4
    have JX9 : ∀ (H : Heap) (locs : List Loc) (ls : Array Slot), GH D cI cZ layM q s ([iPageLength, iRoads, iRead, iAltered, iRanked, iStage, iFigures, iNewRoads, iTold, iRouted, iRouteSum], [jH], [aPage, aBeginOf, aEndOf, aLengthOf, aCosts, aRankOf, aRoadAt, aWorths, aMiddles, aLeasts, aBusy, aNewBegin, aNewEnd, aNewLength, aIsLeft, aAround, aWhole, aIsNeeded, aWereRanks, aWaitFrom, aWaitTo, aToldAt, aRisen, aUps, aTried_8, aRoutes]) H locs → lv_has ls 6 [(0, .ref (q 0)), (1, .int p1), (2, .int x2_1)] → W p l e R s m args below meth c H locs 0 0 Q (F0 m 100 ls []) := by
      intro H locs ls hG hl
      obtain ⟨x2_27, ex2_27⟩ : ∃ z : Int32, z = x2_1 + 1 := ⟨_, rfl⟩
      have hb4 := bd_e ex2_27 hb4
      refine lv_iinc (v := x2_27) (lv' := [(2, .int x2_27), (0, .ref (q 0)), (1, .int p1)]) hx hb dX8_layTried_100 hl (k := 2) rfl (by rw [ex2_27]; rfl) (by decide) rfl (fun ls hl => ?_)
      refine lv_goto (tgt := 2) hx hb dX8_layTried_103 (by decide) ?_
      exact hin4 _ (Option.some.inj hb4).symm H locs ls hG (lv_sub hl [1, 2, 0] rfl)
    refine lpG_W (Wh := fun z => ∀ (H : Heap) (locs : List Loc) (ls : Array Slot), GH D cI cZ layM q s ([iPageLength, iRoads, iRead, iAltered, iRanked, iStage, iFigures, iNewRoads, iTold, iRouted, iRouteSum], [jH], [aPage, aBeginOf, aEndOf, aLengthOf, aCosts, aRankOf, aRoadAt, aWorths, aMiddles, aLeasts, aBusy, aNewBegin, aNewEnd, aNewLength, aIsLeft, aAround, aWhole, aIsNeeded, aWereRanks, aWaitFrom, aWaitTo, aToldAt, aRisen, aUps, z.2, aRoutes]) H locs → lv_has ls 6 [(0, .ref (q 0)), (1, .int p1), (2, .int x2_1), (3, .int (z.1))] → W p l e R s m args below meth c H locs 0 0 Q (F0 m 12 ls [])) ?_ fu _ eL9 H locs ls hG (lv_sub hl [1, 2, 3, 0] rfl)
    intro z rr9 hb9 hin9 hout9
    obtain ⟨x3_6, aTried_7⟩ := z
    intro H locs ls hG hl
    have hb9 : f8_layTried_b2 iRoads x2_1 aCosts p1 aLengthOf x3_6 aTried_7 = some rr9 := hb9
    have hG : GH D cI cZ layM q s ([iPageLength, iRoads, iRead, iAltered, iRanked, iStage, iFigures, iNewRoads, iTold, iRouted, iRouteSum], [jH], [aPage, aBeginOf, aEndOf, aLengthOf, aCosts, aRankOf, aRoadAt, aWorths, aMiddles, aLeasts, aBusy, aNewBegin, aNewEnd, aNewLength, aIsLeft, aAround, aWhole, aIsNeeded, aWereRanks, aWaitFrom, aWaitTo, aToldAt, aRisen, aUps, aTried_7, aRoutes]) H locs := hG
    have hl : lv_has ls 6 [(0, .ref (q 0)), (1, .int p1), (2, .int x2_1), (3, .int x3_6)] := hl
    unfold f8_layTried_b2 at hb9
    refine lv_iload_n hx hb dX8_layTried_12 rfl (lv_at hl 3 rfl) ?_
    refine lv_aload_n hx hb dX8_layTried_13 rfl (lv_at hl 0 rfl) ?_
    refine g_get (v := .int iRoads) X hT hG fl_X8_120 0 rfl rfl rfl dX8_layTried_14 ?_
    refine lv_icmp_ge (tgt := 100) hx hb dX8_layTried_17 (by decide) (fun cb10 => ?_) (fun cb10 => ?_)
    · have hb9 := ite_t cb10 hb9
      have eo := hout9 _ (Option.some.inj hb9).symm
      cases eo
      exact JX9 H locs ls hG (lv_sub hl [0, 1, 2] rfl)
    · have hb9 := ite_f cb10 hb9
      refine lv_aload_n hx hb dX8_layTried_20 rfl (lv_at hl 0 rfl) ?_
      refine lv_iload_n hx hb dX8_layTried_21 rfl (lv_at hl 2 rfl) ?_
      refine lv_iload_n hx hb dX8_layTried_22 rfl (lv_at hl 3 rfl) ?_
      obtain ⟨r_11, ec12, hb9⟩ := bnd1_some hb9
      refine g_callVr [.int x2_1, .int x3_6] [] 0 X hT hG ml_X8_132 (c_X8_isStep hq ec12) rfl rfl rfl rfl rfl hl.1 (Nat.le_of_ble_eq_true rfl) (by rw [hR]; exact ⟨Nat.le_of_ble_eq_true rfl, Nat.le_of_ble_eq_true rfl⟩) dX8_layTried_23 (fun H locs hG => ?_)
      obtain ⟨y_13, er14, hb9⟩ := bnd1_some hb9
      have J14 : ∀ (H : Heap) (locs : List Loc) (ls : Array Slot), GH D cI cZ layM q s ([iPageLength, iRoads, iRead, iAltered, iRanked, iStage, iFigures, iNewRoads, iTold, iRouted, iRouteSum], [jH], [aPage, aBeginOf, aEndOf, aLengthOf, aCosts, aRankOf, aRoadAt, aWorths, aMiddles, aLeasts, aBusy, aNewBegin, aNewEnd, aNewLength, aIsLeft, aAround, aWhole, aIsNeeded, aWereRanks, aWaitFrom, aWaitTo, aToldAt, aRisen, aUps, aTried_7, aRoutes]) H locs → lv_has ls 6 [(0, .ref (q 0)), (1, .int p1), (2, .int x2_1), (3, .int x3_6)] → W p l e R s m args below meth c H locs 0 0 Q (F0 m 44 ls [.int y_13]) := by
        intro H locs ls hG hl
        refine lv_istore (lv' := [(4, .int y_13), (0, .ref (q 0)), (1, .int p1), (2, .int x2_1), (3, .int x3_6)]) hx hb dX8_layTried_44 hl (by decide) rfl (fun ls hl => ?_)
        refine lv_aload_n hx hb dX8_layTried_46 rfl (lv_at hl 1 rfl) ?_
        refine g_get (v := .ref (q 25)) X hT hG fl_X8_83 0 rfl rfl rfl dX8_layTried_47 ?_
        refine lv_bipush (v := 12) hx hb dX8_layTried_50 (by decide) ?_
        refine lv_iload_n hx hb dX8_layTried_52 rfl (lv_at hl 3 rfl) ?_
        refine lv_imul hx hb dX8_layTried_53 ?_
        refine lv_iload_n hx hb dX8_layTried_54 rfl (lv_at hl 4 rfl) ?_
        refine lv_iadd hx hb dX8_layTried_55 ?_
        refine lv_iload_n hx hb dX8_layTried_56 rfl (lv_at hl 3 rfl) ?_
        refine lv_iload_n hx hb dX8_layTried_57 rfl (lv_at hl 4 rfl) ?_
        obtain ⟨y_18, er19, hb9⟩ := bnd1_some hb9
        have J19 : ∀ (H : Heap) (locs : List Loc) (ls : Array Slot), GH D cI cZ layM q s ([iPageLength, iRoads, iRead, iAltered, iRanked, iStage, iFigures, iNewRoads, iTold, iRouted, iRouteSum], [jH], [aPage, aBeginOf, aEndOf, aLengthOf, aCosts, aRankOf, aRoadAt, aWorths, aMiddles, aLeasts, aBusy, aNewBegin, aNewEnd, aNewLength, aIsLeft, aAround, aWhole, aIsNeeded, aWereRanks, aWaitFrom, aWaitTo, aToldAt, aRisen, aUps, aTried_7, aRoutes]) H locs → lv_has ls 6 [(0, .ref (q 0)), (1, .int p1), (2, .int x2_1), (3, .int x3_6)] → W p l e R s m args below meth c H locs 0 0 Q (F0 m 93 ls [.int y_18, .int ((12 * x2_1) + x3_6), .ref (q 25)]) := by
          intro H locs ls hG hl
          obtain ⟨hi24, hb9⟩ := ckin_some hb9
          obtain ⟨aTried_25, eaTried_25⟩ : ∃ z : Nat → Int32, z = upd aTried_7 ((12 * x2_1) + x3_6).toNatClampNeg y_18 := ⟨_, rfl⟩
          have hb9 := bd_e eaTried_25 hb9
          refine g_ast (w' := ([iPageLength, iRoads, iRead, iAltered, iRanked, iStage, iFigures, iNewRoads, iTold, iRouted, iRouteSum], [jH], [aPage, aBeginOf, aEndOf, aLengthOf, aCosts, aRankOf, aRoadAt, aWorths, aMiddles, aLeasts, aBusy, aNewBegin, aNewEnd, aNewLength, aIsLeft, aAround, aWhole, aIsNeeded, aWereRanks, aWaitFrom, aWaitTo, aToldAt, aRisen, aUps, aTried_25, aRoutes])) X hT hq hG 25 rfl ga_M_aTried (Nat.le_of_ble_eq_true rfl) hi24 (by subst eaTried_25; rfl) dX8_layTried_93 (fun H locs hG => ?_)
          obtain ⟨x3_26, ex3_26⟩ : ∃ z : Int32, z = x3_6 + 1 := ⟨_, rfl⟩
          have hb9 := bd_e ex3_26 hb9
          refine lv_iinc (v := x3_26) (lv' := [(3, .int x3_26), (0, .ref (q 0)), (1, .int p1), (2, .int x2_1)]) hx hb dX8_layTried_94 hl (k := 3) rfl (by rw [ex3_26]; rfl) (by decide) rfl (fun ls hl => ?_)
          refine lv_goto (tgt := 12) hx hb dX8_layTried_97 (by decide) ?_
          exact hin9 _ (Option.some.inj hb9).symm H locs ls hG (lv_sub hl [1, 2, 3, 0] rfl)
        refine lv_icmp_ne (tgt := 65) hx hb dX8_layTried_58 (by decide) (fun cb20 => ?_) (fun cb20 => ?_)
        · have er19 := ite_f cb20 er19
          refine lv_iload hx hb dX8_layTried_65 (lv_at hl 0 rfl) ?_
          refine lv_if_eq (tgt := 91) hx hb dX8_layTried_67 (by decide) (fun cb21 => ?_) (fun cb21 => ?_)
          · have er19 := ite_t cb21 er19
            refine lv_ldc (v := 268435456) hx hb X.2.2.2.1 (X.2.2.2.2 _ cn_X8_136) dX8_layTried_91 ?_
            cases er19
            exact J19 H locs ls hG (lv_sub hl [1, 2, 3, 4] rfl)
          · have er19 := ite_f cb21 er19
            refine lv_aload_n hx hb dX8_layTried_70 rfl (lv_at hl 1 rfl) ?_
            refine g_get (v := .ref (q 5)) X hT hG fl_X8_22 0 rfl rfl rfl dX8_layTried_71 ?_
            refine lv_bipush (v := 12) hx hb dX8_layTried_74 (by decide) ?_
            refine lv_iload_n hx hb dX8_layTried_76 rfl (lv_at hl 3 rfl) ?_
            refine lv_imul hx hb dX8_layTried_77 ?_
            refine lv_iload_n hx hb dX8_layTried_78 rfl (lv_at hl 4 rfl) ?_
            refine lv_iadd hx hb dX8_layTried_79 ?_
            obtain ⟨hi22, er19⟩ := ckin_some er19
            refine g_ald (f := aCosts) X hT hG 5 rfl rfl hi22 dX8_layTried_80 ?_
            refine lv_aload_n hx hb dX8_layTried_81 rfl (lv_at hl 1 rfl) ?_
            refine g_get (v := .ref (q 4)) X hT hG fl_X8_19 0 rfl rfl rfl dX8_layTried_82 ?_
            refine lv_iload_n hx hb dX8_layTried_85 rfl (lv_at hl 4 rfl) ?_
            obtain ⟨hi23, er19⟩ := ckin_some er19
            refine g_ald (f := aLengthOf) X hT hG 4 rfl rfl hi23 dX8_layTried_86 ?_
            refine lv_iadd hx hb dX8_layTried_87 ?_
            refine lv_goto (tgt := 93) hx hb dX8_layTried_88 (by decide) ?_
            cases er19
            exact J19 H locs ls hG (lv_sub hl [1, 2, 3, 4] rfl)
        · have er19 := ite_t cb20 er19
          refine lv_iconst (v := 0) hx hb dX8_layTried_61 (by decide) ?_
          refine lv_goto (tgt := 93) hx hb dX8_layTried_62 (by decide) ?_
          cases er19
          exact J19 H locs ls hG (lv_sub hl [1, 2, 3, 4] rfl)
      refine lv_if_eq (tgt := 43) hx hb dX8_layTried_26 (by decide) (fun cb15 => ?_) (fun cb15 => ?_)
      · have er14 := ite_t cb15 er14
        refine lv_iconst (v := 0) hx hb dX8_layTried_43 (by decide) ?_
        cases er14
        exact J14 H locs ls hG (lv_sub hl [0, 1, 2, 3] rfl)
      · have er14 := ite_f cb15 er14
        refine lv_iload_n hx hb dX8_layTried_29 rfl (lv_at hl 2 rfl) ?_
        refine lv_iload_n hx hb dX8_layTried_30 rfl (lv_at hl 1 rfl) ?_
        refine lv_icmp_eq (tgt := 43) hx hb dX8_layTried_31 (by decide) (fun cb16 => ?_) (fun cb16 => ?_)
        · have er14 := ite_t cb16 er14
          refine lv_iconst (v := 0) hx hb dX8_layTried_43 (by decide) ?_
          cases er14
          exact J14 H locs ls hG (lv_sub hl [0, 1, 2, 3] rfl)
        · have er14 := ite_f cb16 er14
          refine lv_iload_n hx hb dX8_layTried_34 rfl (lv_at hl 3 rfl) ?_
          refine lv_iload_n hx hb dX8_layTried_35 rfl (lv_at hl 1 rfl) ?_
          refine lv_icmp_eq (tgt := 43) hx hb dX8_layTried_36 (by decide) (fun cb17 => ?_) (fun cb17 => ?_)
          · have er14 := ite_t cb17 er14
            refine lv_iconst (v := 0) hx hb dX8_layTried_43 (by decide) ?_
            cases er14
            exact J14 H locs ls hG (lv_sub hl [0, 1, 2, 3] rfl)
          · have er14 := ite_f cb17 er14
            refine lv_iconst (v := 1) hx hb dX8_layTried_39 (by decide) ?_
            refine lv_goto (tgt := 44) hx hb dX8_layTried_40 (by decide) ?_
            cases er14
            exact J14 H locs ls hG (lv_sub hl [0, 1, 2, 3] rfl)
def f8_routeBy_b2 (iRoads : Int32) (x5_2 : Int32) (aBeginOf : (Nat → Int32)) (p1 : Int32) (aEndOf : (Nat → Int32)) (p2 : Int32) (p3 : Int32) (aLengthOf : (Nat → Int32)) (aTried : (Nat → Int32)) (x4_6 : Int32) (x6_7 : Int32) : Option ((Int32 × Int32) ⊕ (Int32)) :=
  if iRoads ≤ x6_7 then (some (.inr x4_6)) else ckin x5_2 12 (bnd1 (if (aBeginOf x5_2.toNatClampNeg) = p1 then (ckin x6_7 12 (if (aEndOf x6_7.toNatClampNeg) = p2 then (if x5_2 = p3 then (some 0) else if x6_7 = p3 then (some 0) else some 1) else some 0)) else some 0) fun (y_12 : Int32) => bnd1 (if y_12 = 0 then (some 268435456) else ckin x5_2 12 (ckin ((12 * x5_2) + x6_7) 144 (some ((aLengthOf x5_2.toNatClampNeg) + (aTried ((12 * x5_2) + x6_7).toNatClampNeg))))) fun (y_19 : Int32) => bnd1 (if x4_6 ≤ y_19 then (some x4_6) else some y_19) fun (y_24 : Int32) => bd (x6_7 + 1) fun x6_27 => some (.inl (y_24, x6_27)))
def f8_routeBy_b1 (fu : Nat) (iRoads : Int32) (aBeginOf : (Nat → Int32)) (p1 : Int32) (aEndOf : (Nat → Int32)) (p2 : Int32) (p3 : Int32) (aLengthOf : (Nat → Int32)) (aTried : (Nat → Int32)) (x4_1 : Int32) (x5_2 : Int32) : Option ((Int32 × Int32) ⊕ (Int32)) :=
  if iRoads ≤ x5_2 then (some (.inr x4_1)) else bnd1 (lpG (fun z => f8_routeBy_b2 iRoads x5_2 aBeginOf p1 aEndOf p2 p3 aLengthOf aTried z.1 z.2) fu (x4_1, (0 : Int32))) fun (x4_8 : Int32) => bd (x5_2 + 1) fun x5_28 => some (.inl (x4_8, x5_28))
def f8_routeBy (fu : Nat) (iRoads : Int32) (aBeginOf : (Nat → Int32)) (p1 : Int32) (aEndOf : (Nat → Int32)) (p2 : Int32) (p3 : Int32) (aLengthOf : (Nat → Int32)) (aTried : (Nat → Int32)) : Option (Int32) :=
  bnd1 (lpG (fun z => f8_routeBy_b1 fu iRoads aBeginOf p1 aEndOf p2 p3 aLengthOf aTried z.1 z.2) fu ((268435456 : Int32), (0 : Int32))) fun (x4_3 : Int32) => some x4_3
set_option maxHeartbeats 4000000 in
set_option maxRecDepth 100000 in
theorem c_X8_routeBy (hq : gJ layM q) {fu : Nat} {p1 : Int32} {p2 : Int32} {p3 : Int32} {o_r : Int32} (h : f8_routeBy fu iRoads aBeginOf p1 aEndOf p2 p3 aLengthOf aTried = some o_r) :
    GM l yX8_routeBy cX8_routeBy 9 (some .int) 0 0 D cI cZ layM q [.ref (q 0), .int p1, .int p2, .int p3] ([iPageLength, iRoads, iRead, iAltered, iRanked, iStage, iFigures, iNewRoads, iTold, iRouted, iRouteSum], [jH], [aPage, aBeginOf, aEndOf, aLengthOf, aCosts, aRankOf, aRoadAt, aWorths, aMiddles, aLeasts, aBusy, aNewBegin, aNewEnd, aNewLength, aIsLeft, aAround, aWhole, aIsNeeded, aWereRanks, aWaitFrom, aWaitTo, aToldAt, aRisen, aUps, aTried, aRoutes]) (some (.int o_r)) ([iPageLength, iRoads, iRead, iAltered, iRanked, iStage, iFigures, iNewRoads, iTold, iRouted, iRouteSum], [jH], [aPage, aBeginOf, aEndOf, aLengthOf, aCosts, aRankOf, aRoadAt, aWorths, aMiddles, aLeasts, aBusy, aNewBegin, aNewEnd, aNewLength, aIsLeft, aAround, aWhole, aIsNeeded, aWereRanks, aWaitFrom, aWaitTo, aToldAt, aRisen, aUps, aTried, aRoutes]) := by
  refine GM.go RX8 (by decide) rfl (Nat.le_of_ble_eq_true rfl) ?_
  intro p e s m args below meth c ls R Q H locs X hr hlk hT hG hl hR hQ
  have hx := X.1
  have hb := X.2.1
  have hl : lv_has ls 9 [(0, .ref (q 0)), (1, .int p1), (2, .int p2), (3, .int p3)] := hl
  unfold f8_routeBy at h
  refine lv_ldc (v := 268435456) hx hb X.2.2.2.1 (X.2.2.2.2 _ cn_X8_136) dX8_routeBy_0 ?_
  refine lv_istore (lv' := [(4, .int 268435456), (0, .ref (q 0)), (1, .int p1), (2, .int p2), (3, .int p3)]) hx hb dX8_routeBy_2 hl (by decide) rfl (fun ls hl => ?_)
  refine lv_iconst (v := 0) hx hb dX8_routeBy_4 (by decide) ?_
  refine lv_istore (lv' := [(5, .int 0), (4, .int 268435456), (0, .ref (q 0)), (1, .int p1), (2, .int p2), (3, .int p3)]) hx hb dX8_routeBy_5 hl (by decide) rfl (fun ls hl => ?_)
  obtain ⟨x4_3, eL4, h⟩ := bnd1_some h
  have JX4 : ∀ (H : Heap) (locs : List Loc) (ls : Array Slot), GH D cI cZ layM q s ([iPageLength, iRoads, iRead, iAltered, iRanked, iStage, iFigures, iNewRoads, iTold, iRouted, iRouteSum], [jH], [aPage, aBeginOf, aEndOf, aLengthOf, aCosts, aRankOf, aRoadAt, aWorths, aMiddles, aLeasts, aBusy, aNewBegin, aNewEnd, aNewLength, aIsLeft, aAround, aWhole, aIsNeeded, aWereRanks, aWaitFrom, aWaitTo, aToldAt, aRisen, aUps, aTried, aRoutes]) H locs → lv_has ls 9 [(4, .int x4_3)] → W p l e R s m args below meth c H locs 0 0 Q (F0 m 130 ls []) := by
    intro H locs ls hG hl
    refine lv_iload hx hb dX8_routeBy_130 (lv_at hl 0 rfl) ?_
    cases h
    rw [hQ]
    exact g_iret X hT hG hr hlk dX8_routeBy_132
  refine lpG_W (Wh := fun z => ∀ (H : Heap) (locs : List Loc) (ls : Array Slot), GH D cI cZ layM q s ([iPageLength, iRoads, iRead, iAltered, iRanked, iStage, iFigures, iNewRoads, iTold, iRouted, iRouteSum], [jH], [aPage, aBeginOf, aEndOf, aLengthOf, aCosts, aRankOf, aRoadAt, aWorths, aMiddles, aLeasts, aBusy, aNewBegin, aNewEnd, aNewLength, aIsLeft, aAround, aWhole, aIsNeeded, aWereRanks, aWaitFrom, aWaitTo, aToldAt, aRisen, aUps, aTried, aRoutes]) H locs → lv_has ls 9 [(0, .ref (q 0)), (1, .int p1), (2, .int p2), (3, .int p3), (4, .int (z.1)), (5, .int (z.2))] → W p l e R s m args below meth c H locs 0 0 Q (F0 m 7 ls [])) ?_ fu _ eL4 H locs ls hG (lv_sub hl [2, 3, 4, 5, 1, 0] rfl)
  intro z rr4 hb4 hin4 hout4
  obtain ⟨x4_1, x5_2⟩ := z
  intro H locs ls hG hl
  have hb4 : f8_routeBy_b1 fu iRoads aBeginOf p1 aEndOf p2 p3 aLengthOf aTried x4_1 x5_2 = some rr4 := hb4
  have hG : GH D cI cZ layM q s ([iPageLength, iRoads, iRead, iAltered, iRanked, iStage, iFigures, iNewRoads, iTold, iRouted, iRouteSum], [jH], [aPage, aBeginOf, aEndOf, aLengthOf, aCosts, aRankOf, aRoadAt, aWorths, aMiddles, aLeasts, aBusy, aNewBegin, aNewEnd, aNewLength, aIsLeft, aAround, aWhole, aIsNeeded, aWereRanks, aWaitFrom, aWaitTo, aToldAt, aRisen, aUps, aTried, aRoutes]) H locs := hG
  have hl : lv_has ls 9 [(0, .ref (q 0)), (1, .int p1), (2, .int p2), (3, .int p3), (4, .int x4_1), (5, .int x5_2)] := hl
  unfold f8_routeBy_b1 at hb4
  refine lv_iload hx hb dX8_routeBy_7 (lv_at hl 5 rfl) ?_
  refine lv_aload_n hx hb dX8_routeBy_9 rfl (lv_at hl 0 rfl) ?_
  refine g_get (v := .int iRoads) X hT hG fl_X8_120 0 rfl rfl rfl dX8_routeBy_10 ?_
  refine lv_icmp_ge (tgt := 130) hx hb dX8_routeBy_13 (by decide) (fun cb5 => ?_) (fun cb5 => ?_)
  · have hb4 := ite_t cb5 hb4
    have eo := hout4 _ (Option.some.inj hb4).symm
    cases eo
    exact JX4 H locs ls hG (lv_sub hl [4] rfl)
  · have hb4 := ite_f cb5 hb4
    refine lv_iconst (v := 0) hx hb dX8_routeBy_16 (by decide) ?_
    refine lv_istore (lv' := [(6, .int 0), (0, .ref (q 0)), (1, .int p1), (2, .int p2), (3, .int p3), (4, .int x4_1), (5, .int x5_2)]) hx hb dX8_routeBy_17 hl (by decide) rfl (fun ls hl => ?_)
    obtain ⟨x4_8, eL9, hb4⟩ := bnd1_some hb4
    have JX9 : ∀ (H : Heap) (locs : List Loc) (ls : Array Slot), GH D cI cZ layM q s ([iPageLength, iRoads, iRead, iAltered, iRanked, iStage, iFigures, iNewRoads, iTold, iRouted, iRouteSum], [jH], [aPage, aBeginOf, aEndOf, aLengthOf, aCosts, aRankOf, aRoadAt, aWorths, aMiddles, aLeasts, aBusy, aNewBegin, aNewEnd, aNewLength, aIsLeft, aAround, aWhole, aIsNeeded, aWereRanks, aWaitFrom, aWaitTo, aToldAt, aRisen, aUps, aTried, aRoutes]) H locs → lv_has ls 9 [(0, .ref (q 0)), (1, .int p1), (2, .int p2), (3, .int p3), (4, .int x4_8), (5, .int x5_2)] → W p l e R s m args below meth c H locs 0 0 Q (F0 m 124 ls []) := by
      intro H locs ls hG hl
      obtain ⟨x5_28, ex5_28⟩ : ∃ z : Int32, z = x5_2 + 1 := ⟨_, rfl⟩
      have hb4 := bd_e ex5_28 hb4
      refine lv_iinc (v := x5_28) (lv' := [(5, .int x5_28), (0, .ref (q 0)), (1, .int p1), (2, .int p2), (3, .int p3), (4, .int x4_8)]) hx hb dX8_routeBy_124 hl (k := 5) rfl (by rw [ex5_28]; rfl) (by decide) rfl (fun ls hl => ?_)
      refine lv_goto (tgt := 7) hx hb dX8_routeBy_127 (by decide) ?_
      exact hin4 _ (Option.some.inj hb4).symm H locs ls hG (lv_sub hl [1, 2, 3, 4, 5, 0] rfl)
    refine lpG_W (Wh := fun z => ∀ (H : Heap) (locs : List Loc) (ls : Array Slot), GH D cI cZ layM q s ([iPageLength, iRoads, iRead, iAltered, iRanked, iStage, iFigures, iNewRoads, iTold, iRouted, iRouteSum], [jH], [aPage, aBeginOf, aEndOf, aLengthOf, aCosts, aRankOf, aRoadAt, aWorths, aMiddles, aLeasts, aBusy, aNewBegin, aNewEnd, aNewLength, aIsLeft, aAround, aWhole, aIsNeeded, aWereRanks, aWaitFrom, aWaitTo, aToldAt, aRisen, aUps, aTried, aRoutes]) H locs → lv_has ls 9 [(0, .ref (q 0)), (1, .int p1), (2, .int p2), (3, .int p3), (4, .int (z.1)), (5, .int x5_2), (6, .int (z.2))] → W p l e R s m args below meth c H locs 0 0 Q (F0 m 19 ls [])) ?_ fu _ eL9 H locs ls hG (lv_sub hl [1, 2, 3, 4, 5, 6, 0] rfl)
    intro z rr9 hb9 hin9 hout9
    obtain ⟨x4_6, x6_7⟩ := z
    intro H locs ls hG hl
    have hb9 : f8_routeBy_b2 iRoads x5_2 aBeginOf p1 aEndOf p2 p3 aLengthOf aTried x4_6 x6_7 = some rr9 := hb9
    have hG : GH D cI cZ layM q s ([iPageLength, iRoads, iRead, iAltered, iRanked, iStage, iFigures, iNewRoads, iTold, iRouted, iRouteSum], [jH], [aPage, aBeginOf, aEndOf, aLengthOf, aCosts, aRankOf, aRoadAt, aWorths, aMiddles, aLeasts, aBusy, aNewBegin, aNewEnd, aNewLength, aIsLeft, aAround, aWhole, aIsNeeded, aWereRanks, aWaitFrom, aWaitTo, aToldAt, aRisen, aUps, aTried, aRoutes]) H locs := hG
    have hl : lv_has ls 9 [(0, .ref (q 0)), (1, .int p1), (2, .int p2), (3, .int p3), (4, .int x4_6), (5, .int x5_2), (6, .int x6_7)] := hl
    unfold f8_routeBy_b2 at hb9
    refine lv_iload hx hb dX8_routeBy_19 (lv_at hl 6 rfl) ?_
    refine lv_aload_n hx hb dX8_routeBy_21 rfl (lv_at hl 0 rfl) ?_
    refine g_get (v := .int iRoads) X hT hG fl_X8_120 0 rfl rfl rfl dX8_routeBy_22 ?_
    refine lv_icmp_ge (tgt := 124) hx hb dX8_routeBy_25 (by decide) (fun cb10 => ?_) (fun cb10 => ?_)
    · have hb9 := ite_t cb10 hb9
      have eo := hout9 _ (Option.some.inj hb9).symm
      cases eo
      exact JX9 H locs ls hG (lv_sub hl [0, 1, 2, 3, 4, 5] rfl)
    · have hb9 := ite_f cb10 hb9
      refine lv_aload_n hx hb dX8_routeBy_28 rfl (lv_at hl 0 rfl) ?_
      refine g_get (v := .ref (q 2)) X hT hG fl_X8_13 0 rfl rfl rfl dX8_routeBy_29 ?_
      refine lv_iload hx hb dX8_routeBy_32 (lv_at hl 5 rfl) ?_
      obtain ⟨hi11, hb9⟩ := ckin_some hb9
      refine g_ald (f := aBeginOf) X hT hG 2 rfl rfl hi11 dX8_routeBy_34 ?_
      refine lv_iload_n hx hb dX8_routeBy_35 rfl (lv_at hl 1 rfl) ?_
      obtain ⟨y_12, er13, hb9⟩ := bnd1_some hb9
      have J13 : ∀ (H : Heap) (locs : List Loc) (ls : Array Slot), GH D cI cZ layM q s ([iPageLength, iRoads, iRead, iAltered, iRanked, iStage, iFigures, iNewRoads, iTold, iRouted, iRouteSum], [jH], [aPage, aBeginOf, aEndOf, aLengthOf, aCosts, aRankOf, aRoadAt, aWorths, aMiddles, aLeasts, aBusy, aNewBegin, aNewEnd, aNewLength, aIsLeft, aAround, aWhole, aIsNeeded, aWereRanks, aWaitFrom, aWaitTo, aToldAt, aRisen, aUps, aTried, aRoutes]) H locs → lv_has ls 9 [(0, .ref (q 0)), (1, .int p1), (2, .int p2), (3, .int p3), (4, .int x4_6), (5, .int x5_2), (6, .int x6_7)] → W p l e R s m args below meth c H locs 0 0 Q (F0 m 67 ls [.int y_12]) := by
        intro H locs ls hG hl
        refine lv_istore (lv' := [(7, .int y_12), (0, .ref (q 0)), (1, .int p1), (2, .int p2), (3, .int p3), (4, .int x4_6), (5, .int x5_2), (6, .int x6_7)]) hx hb dX8_routeBy_67 hl (by decide) rfl (fun ls hl => ?_)
        refine lv_iload hx hb dX8_routeBy_69 (lv_at hl 0 rfl) ?_
        obtain ⟨y_19, er20, hb9⟩ := bnd1_some hb9
        have J20 : ∀ (H : Heap) (locs : List Loc) (ls : Array Slot), GH D cI cZ layM q s ([iPageLength, iRoads, iRead, iAltered, iRanked, iStage, iFigures, iNewRoads, iTold, iRouted, iRouteSum], [jH], [aPage, aBeginOf, aEndOf, aLengthOf, aCosts, aRankOf, aRoadAt, aWorths, aMiddles, aLeasts, aBusy, aNewBegin, aNewEnd, aNewLength, aIsLeft, aAround, aWhole, aIsNeeded, aWereRanks, aWaitFrom, aWaitTo, aToldAt, aRisen, aUps, aTried, aRoutes]) H locs → lv_has ls 9 [(0, .ref (q 0)), (1, .int p1), (2, .int p2), (3, .int p3), (4, .int x4_6), (5, .int x5_2), (6, .int x6_7)] → W p l e R s m args below meth c H locs 0 0 Q (F0 m 100 ls [.int y_19]) := by
          intro H locs ls hG hl
          refine lv_istore (lv' := [(8, .int y_19), (0, .ref (q 0)), (1, .int p1), (2, .int p2), (3, .int p3), (4, .int x4_6), (5, .int x5_2), (6, .int x6_7)]) hx hb dX8_routeBy_100 hl (by decide) rfl (fun ls hl => ?_)
          refine lv_iload hx hb dX8_routeBy_102 (lv_at hl 0 rfl) ?_
          refine lv_iload hx hb dX8_routeBy_104 (lv_at hl 5 rfl) ?_
          obtain ⟨y_24, er25, hb9⟩ := bnd1_some hb9
          have J25 : ∀ (H : Heap) (locs : List Loc) (ls : Array Slot), GH D cI cZ layM q s ([iPageLength, iRoads, iRead, iAltered, iRanked, iStage, iFigures, iNewRoads, iTold, iRouted, iRouteSum], [jH], [aPage, aBeginOf, aEndOf, aLengthOf, aCosts, aRankOf, aRoadAt, aWorths, aMiddles, aLeasts, aBusy, aNewBegin, aNewEnd, aNewLength, aIsLeft, aAround, aWhole, aIsNeeded, aWereRanks, aWaitFrom, aWaitTo, aToldAt, aRisen, aUps, aTried, aRoutes]) H locs → lv_has ls 9 [(0, .ref (q 0)), (1, .int p1), (2, .int p2), (3, .int p3), (5, .int x5_2), (6, .int x6_7)] → W p l e R s m args below meth c H locs 0 0 Q (F0 m 116 ls [.int y_24]) := by
            intro H locs ls hG hl
            refine lv_istore (lv' := [(4, .int y_24), (0, .ref (q 0)), (1, .int p1), (2, .int p2), (3, .int p3), (5, .int x5_2), (6, .int x6_7)]) hx hb dX8_routeBy_116 hl (by decide) rfl (fun ls hl => ?_)
            obtain ⟨x6_27, ex6_27⟩ : ∃ z : Int32, z = x6_7 + 1 := ⟨_, rfl⟩
            have hb9 := bd_e ex6_27 hb9
            refine lv_iinc (v := x6_27) (lv' := [(6, .int x6_27), (4, .int y_24), (0, .ref (q 0)), (1, .int p1), (2, .int p2), (3, .int p3), (5, .int x5_2)]) hx hb dX8_routeBy_118 hl (k := 6) rfl (by rw [ex6_27]; rfl) (by decide) rfl (fun ls hl => ?_)
            refine lv_goto (tgt := 19) hx hb dX8_routeBy_121 (by decide) ?_
            exact hin9 _ (Option.some.inj hb9).symm H locs ls hG (lv_sub hl [2, 3, 4, 5, 1, 6, 0] rfl)
          refine lv_icmp_ge (tgt := 114) hx hb dX8_routeBy_106 (by decide) (fun cb26 => ?_) (fun cb26 => ?_)
          · have er25 := ite_t cb26 er25
            refine lv_iload hx hb dX8_routeBy_114 (lv_at hl 5 rfl) ?_
            cases er25
            exact J25 H locs ls hG (lv_sub hl [1, 2, 3, 4, 6, 7] rfl)
          · have er25 := ite_f cb26 er25
            refine lv_iload hx hb dX8_routeBy_109 (lv_at hl 0 rfl) ?_
            refine lv_goto (tgt := 116) hx hb dX8_routeBy_111 (by decide) ?_
            cases er25
            exact J25 H locs ls hG (lv_sub hl [1, 2, 3, 4, 6, 7] rfl)
        refine lv_if_eq (tgt := 98) hx hb dX8_routeBy_71 (by decide) (fun cb21 => ?_) (fun cb21 => ?_)
        · have er20 := ite_t cb21 er20
          refine lv_ldc (v := 268435456) hx hb X.2.2.2.1 (X.2.2.2.2 _ cn_X8_136) dX8_routeBy_98 ?_
          cases er20
          exact J20 H locs ls hG (lv_sub hl [1, 2, 3, 4, 5, 6, 7] rfl)
        · have er20 := ite_f cb21 er20
          refine lv_aload_n hx hb dX8_routeBy_74 rfl (lv_at hl 1 rfl) ?_
          refine g_get (v := .ref (q 4)) X hT hG fl_X8_19 0 rfl rfl rfl dX8_routeBy_75 ?_
          refine lv_iload hx hb dX8_routeBy_78 (lv_at hl 6 rfl) ?_
          obtain ⟨hi22, er20⟩ := ckin_some er20
          refine g_ald (f := aLengthOf) X hT hG 4 rfl rfl hi22 dX8_routeBy_80 ?_
          refine lv_aload_n hx hb dX8_routeBy_81 rfl (lv_at hl 1 rfl) ?_
          refine g_get (v := .ref (q 25)) X hT hG fl_X8_83 0 rfl rfl rfl dX8_routeBy_82 ?_
          refine lv_bipush (v := 12) hx hb dX8_routeBy_85 (by decide) ?_
          refine lv_iload hx hb dX8_routeBy_87 (lv_at hl 6 rfl) ?_
          refine lv_imul hx hb dX8_routeBy_89 ?_
          refine lv_iload hx hb dX8_routeBy_90 (lv_at hl 7 rfl) ?_
          refine lv_iadd hx hb dX8_routeBy_92 ?_
          obtain ⟨hi23, er20⟩ := ckin_some er20
          refine g_ald (f := aTried) X hT hG 25 rfl rfl hi23 dX8_routeBy_93 ?_
          refine lv_iadd hx hb dX8_routeBy_94 ?_
          refine lv_goto (tgt := 100) hx hb dX8_routeBy_95 (by decide) ?_
          cases er20
          exact J20 H locs ls hG (lv_sub hl [1, 2, 3, 4, 5, 6, 7] rfl)
      refine lv_icmp_ne (tgt := 66) hx hb dX8_routeBy_36 (by decide) (fun cb14 => ?_) (fun cb14 => ?_)
      · have er13 := ite_f cb14 er13
        refine lv_iconst (v := 0) hx hb dX8_routeBy_66 (by decide) ?_
        cases er13
        exact J13 H locs ls hG (lv_sub hl [0, 1, 2, 3, 4, 5, 6] rfl)
      · have er13 := ite_t cb14 er13
        refine lv_aload_n hx hb dX8_routeBy_39 rfl (lv_at hl 0 rfl) ?_
        refine g_get (v := .ref (q 3)) X hT hG fl_X8_16 0 rfl rfl rfl dX8_routeBy_40 ?_
        refine lv_iload hx hb dX8_routeBy_43 (lv_at hl 6 rfl) ?_
        obtain ⟨hi15, er13⟩ := ckin_some er13
        refine g_ald (f := aEndOf) X hT hG 3 rfl rfl hi15 dX8_routeBy_45 ?_
        refine lv_iload_n hx hb dX8_routeBy_46 rfl (lv_at hl 2 rfl) ?_
        refine lv_icmp_ne (tgt := 66) hx hb dX8_routeBy_47 (by decide) (fun cb16 => ?_) (fun cb16 => ?_)
        · have er13 := ite_f cb16 er13
          refine lv_iconst (v := 0) hx hb dX8_routeBy_66 (by decide) ?_
          cases er13
          exact J13 H locs ls hG (lv_sub hl [0, 1, 2, 3, 4, 5, 6] rfl)
        · have er13 := ite_t cb16 er13
          refine lv_iload hx hb dX8_routeBy_50 (lv_at hl 5 rfl) ?_
          refine lv_iload_n hx hb dX8_routeBy_52 rfl (lv_at hl 3 rfl) ?_
          refine lv_icmp_eq (tgt := 66) hx hb dX8_routeBy_53 (by decide) (fun cb17 => ?_) (fun cb17 => ?_)
          · have er13 := ite_t cb17 er13
            refine lv_iconst (v := 0) hx hb dX8_routeBy_66 (by decide) ?_
            cases er13
            exact J13 H locs ls hG (lv_sub hl [0, 1, 2, 3, 4, 5, 6] rfl)
          · have er13 := ite_f cb17 er13
            refine lv_iload hx hb dX8_routeBy_56 (lv_at hl 6 rfl) ?_
            refine lv_iload_n hx hb dX8_routeBy_58 rfl (lv_at hl 3 rfl) ?_
            refine lv_icmp_eq (tgt := 66) hx hb dX8_routeBy_59 (by decide) (fun cb18 => ?_) (fun cb18 => ?_)
            · have er13 := ite_t cb18 er13
              refine lv_iconst (v := 0) hx hb dX8_routeBy_66 (by decide) ?_
              cases er13
              exact J13 H locs ls hG (lv_sub hl [0, 1, 2, 3, 4, 5, 6] rfl)
            · have er13 := ite_f cb18 er13
              refine lv_iconst (v := 1) hx hb dX8_routeBy_62 (by decide) ?_
              refine lv_goto (tgt := 67) hx hb dX8_routeBy_63 (by decide) ?_
              cases er13
              exact J13 H locs ls hG (lv_sub hl [0, 1, 2, 3, 4, 5, 6] rfl)
def f8_routeNow (fu : Nat) (iRoads : Int32) (aCosts : (Nat → Int32)) (aLengthOf : (Nat → Int32)) (aTried : (Nat → Int32)) (aBeginOf : (Nat → Int32)) (p1 : Int32) (aEndOf : (Nat → Int32)) (p2 : Int32) : Option (Int32 × (Nat → Int32)) :=
  bnd1 (f8_layTried fu iRoads aCosts (-1) aLengthOf aTried) fun (aTried_1 : (Nat → Int32)) => bnd1 (f8_routeBy fu iRoads aBeginOf p1 aEndOf p2 (-1) aLengthOf aTried_1) fun (r_3 : Int32) => bnd1 (if r_3 < 268435456 then (some r_3) else some (-1)) fun (y_5 : Int32) => some (y_5, aTried_1)
set_option maxHeartbeats 4000000 in
set_option maxRecDepth 100000 in
theorem c_X8_routeNow (hq : gJ layM q) {fu : Nat} {p1 : Int32} {p2 : Int32} {o_r : Int32} {o_aTried : (Nat → Int32)} (h : f8_routeNow fu iRoads aCosts aLengthOf aTried aBeginOf p1 aEndOf p2 = some (o_r, o_aTried)) :
    GM l yX8_routeNow cX8_routeNow 4 (some .int) 2 47 D cI cZ layM q [.ref (q 0), .int p1, .int p2] ([iPageLength, iRoads, iRead, iAltered, iRanked, iStage, iFigures, iNewRoads, iTold, iRouted, iRouteSum], [jH], [aPage, aBeginOf, aEndOf, aLengthOf, aCosts, aRankOf, aRoadAt, aWorths, aMiddles, aLeasts, aBusy, aNewBegin, aNewEnd, aNewLength, aIsLeft, aAround, aWhole, aIsNeeded, aWereRanks, aWaitFrom, aWaitTo, aToldAt, aRisen, aUps, aTried, aRoutes]) (some (.int o_r)) ([iPageLength, iRoads, iRead, iAltered, iRanked, iStage, iFigures, iNewRoads, iTold, iRouted, iRouteSum], [jH], [aPage, aBeginOf, aEndOf, aLengthOf, aCosts, aRankOf, aRoadAt, aWorths, aMiddles, aLeasts, aBusy, aNewBegin, aNewEnd, aNewLength, aIsLeft, aAround, aWhole, aIsNeeded, aWereRanks, aWaitFrom, aWaitTo, aToldAt, aRisen, aUps, o_aTried, aRoutes]) := by
  refine GM.go RX8 (by decide) rfl (Nat.le_of_ble_eq_true rfl) ?_
  intro p e s m args below meth c ls R Q H locs X hr hlk hT hG hl hR hQ
  have hx := X.1
  have hb := X.2.1
  have hl : lv_has ls 4 [(0, .ref (q 0)), (1, .int p1), (2, .int p2)] := hl
  unfold f8_routeNow at h
  refine lv_aload_n hx hb dX8_routeNow_0 rfl (lv_at hl 0 rfl) ?_
  refine lv_iconst (v := (-1)) hx hb dX8_routeNow_1 (by decide) ?_
  obtain ⟨aTried_1, ec2, h⟩ := bnd1_some h
  refine g_callVv [.int (-1)] [] 0 X hT hG ml_X8_219 (c_X8_layTried hq ec2) rfl rfl rfl rfl rfl hl.1 (Nat.le_of_ble_eq_true rfl) (by rw [hR]; exact ⟨Nat.le_of_ble_eq_true rfl, Nat.le_of_ble_eq_true rfl⟩) dX8_routeNow_2 (fun H locs hG => ?_)
  have hG : GH D cI cZ layM q s ([iPageLength, iRoads, iRead, iAltered, iRanked, iStage, iFigures, iNewRoads, iTold, iRouted, iRouteSum], [jH], [aPage, aBeginOf, aEndOf, aLengthOf, aCosts, aRankOf, aRoadAt, aWorths, aMiddles, aLeasts, aBusy, aNewBegin, aNewEnd, aNewLength, aIsLeft, aAround, aWhole, aIsNeeded, aWereRanks, aWaitFrom, aWaitTo, aToldAt, aRisen, aUps, aTried_1, aRoutes]) H locs := hG
  refine lv_aload_n hx hb dX8_routeNow_5 rfl (lv_at hl 0 rfl) ?_
  refine lv_iload_n hx hb dX8_routeNow_6 rfl (lv_at hl 1 rfl) ?_
  refine lv_iload_n hx hb dX8_routeNow_7 rfl (lv_at hl 2 rfl) ?_
  refine lv_iconst (v := (-1)) hx hb dX8_routeNow_8 (by decide) ?_
  obtain ⟨r_3, ec4, h⟩ := bnd1_some h
  refine g_callVr [.int p1, .int p2, .int (-1)] [] 0 X hT hG ml_X8_222 (c_X8_routeBy hq ec4) rfl rfl rfl rfl rfl hl.1 (Nat.le_of_ble_eq_true rfl) (by rw [hR]; exact ⟨Nat.le_of_ble_eq_true rfl, Nat.le_of_ble_eq_true rfl⟩) dX8_routeNow_9 (fun H locs hG => ?_)
  refine lv_istore_n (lv' := [(3, .int r_3), (0, .ref (q 0)), (1, .int p1), (2, .int p2)]) hx hb dX8_routeNow_12 rfl hl (by decide) rfl (fun ls hl => ?_)
  refine lv_iload_n hx hb dX8_routeNow_13 rfl (lv_at hl 0 rfl) ?_
  refine lv_ldc (v := 268435456) hx hb X.2.2.2.1 (X.2.2.2.2 _ cn_X8_136) dX8_routeNow_14 ?_
  obtain ⟨y_5, er6, h⟩ := bnd1_some h
  have J6 : ∀ (H : Heap) (locs : List Loc) (ls : Array Slot), GH D cI cZ layM q s ([iPageLength, iRoads, iRead, iAltered, iRanked, iStage, iFigures, iNewRoads, iTold, iRouted, iRouteSum], [jH], [aPage, aBeginOf, aEndOf, aLengthOf, aCosts, aRankOf, aRoadAt, aWorths, aMiddles, aLeasts, aBusy, aNewBegin, aNewEnd, aNewLength, aIsLeft, aAround, aWhole, aIsNeeded, aWereRanks, aWaitFrom, aWaitTo, aToldAt, aRisen, aUps, aTried_1, aRoutes]) H locs → lv_has ls 4 [] → W p l e R s m args below meth c H locs 0 0 Q (F0 m 24 ls [.int y_5]) := by
    intro H locs ls hG hl
    cases h
    rw [hQ]
    exact g_iret X hT hG hr hlk dX8_routeNow_24
  refine lv_icmp_lt (tgt := 23) hx hb dX8_routeNow_16 (by decide) (fun cb7 => ?_) (fun cb7 => ?_)
  · have er6 := ite_t cb7 er6
    refine lv_iload_n hx hb dX8_routeNow_23 rfl (lv_at hl 0 rfl) ?_
    cases er6
    exact J6 H locs ls hG (lv_sub hl [] rfl)
  · have er6 := ite_f cb7 er6
    refine lv_iconst (v := (-1)) hx hb dX8_routeNow_19 (by decide) ?_
    refine lv_goto (tgt := 24) hx hb dX8_routeNow_20 (by decide) ?_
    cases er6
    exact J6 H locs ls hG (lv_sub hl [] rfl)
def f8_route (fu : Nat) (p1 : Int32) (aTried : (Nat → Int32)) (p2 : Int32) (iRoads : Int32) (aCosts : (Nat → Int32)) (aLengthOf : (Nat → Int32)) (aBeginOf : (Nat → Int32)) (aEndOf : (Nat → Int32)) : Option (Int32 × (Nat → Int32)) :=
  bnd1 (f8_within p1 0 7) fun (r_1 : Int32) => if r_1 = 0 then (some ((-101), aTried)) else bnd1 (f8_within p2 0 7) fun (r_4 : Int32) => if r_4 = 0 then (some ((-101), aTried)) else bnd2 (if p1 = p2 then (some ((-103), aTried)) else bnd2 (f8_routeNow fu iRoads aCosts aLengthOf aTried aBeginOf p1 aEndOf p2) fun (r_11 : Int32) (aTried_12 : (Nat → Int32)) => some (r_11, aTried_12)) fun (y_7 : Int32) (aTried_8 : (Nat → Int32)) => some (y_7, aTried_8)
set_option maxHeartbeats 4000000 in
set_option maxRecDepth 100000 in
theorem c_X8_route (hq : gJ layM q) {fu : Nat} {p1 : Int32} {p2 : Int32} {o_r : Int32} {o_aTried : (Nat → Int32)} (h : f8_route fu p1 aTried p2 iRoads aCosts aLengthOf aBeginOf aEndOf = some (o_r, o_aTried)) :
    GM l yX8_route cX8_route 3 (some .int) 3 70 D cI cZ layM q [.ref (q 0), .int p1, .int p2] ([iPageLength, iRoads, iRead, iAltered, iRanked, iStage, iFigures, iNewRoads, iTold, iRouted, iRouteSum], [jH], [aPage, aBeginOf, aEndOf, aLengthOf, aCosts, aRankOf, aRoadAt, aWorths, aMiddles, aLeasts, aBusy, aNewBegin, aNewEnd, aNewLength, aIsLeft, aAround, aWhole, aIsNeeded, aWereRanks, aWaitFrom, aWaitTo, aToldAt, aRisen, aUps, aTried, aRoutes]) (some (.int o_r)) ([iPageLength, iRoads, iRead, iAltered, iRanked, iStage, iFigures, iNewRoads, iTold, iRouted, iRouteSum], [jH], [aPage, aBeginOf, aEndOf, aLengthOf, aCosts, aRankOf, aRoadAt, aWorths, aMiddles, aLeasts, aBusy, aNewBegin, aNewEnd, aNewLength, aIsLeft, aAround, aWhole, aIsNeeded, aWereRanks, aWaitFrom, aWaitTo, aToldAt, aRisen, aUps, o_aTried, aRoutes]) := by
  refine GM.go RX8 (by decide) rfl (Nat.le_of_ble_eq_true rfl) ?_
  intro p e s m args below meth c ls R Q H locs X hr hlk hT hG hl hR hQ
  have hx := X.1
  have hb := X.2.1
  have hl : lv_has ls 3 [(0, .ref (q 0)), (1, .int p1), (2, .int p2)] := hl
  unfold f8_route at h
  refine lv_iload_n hx hb dX8_route_0 rfl (lv_at hl 1 rfl) ?_
  refine lv_iconst (v := 0) hx hb dX8_route_1 (by decide) ?_
  refine lv_bipush (v := 7) hx hb dX8_route_2 (by decide) ?_
  obtain ⟨r_1, ec2, h⟩ := bnd1_some h
  refine g_callSr [.int p1, .int 0, .int 7] [] X hT hG ml_X8_89 (c_X8_within hq ec2) rfl rfl hl.1 (Nat.le_of_ble_eq_true rfl) (by rw [hR]; exact ⟨Nat.le_of_ble_eq_true rfl, Nat.le_of_ble_eq_true rfl⟩) dX8_route_4 (fun H locs hG => ?_)
  refine lv_if_eq (tgt := 20) hx hb dX8_route_7 (by decide) (fun cb3 => ?_) (fun cb3 => ?_)
  · have h := ite_t cb3 h
    refine lv_bipush (v := (-101)) hx hb dX8_route_20 (by decide) ?_
    cases h
    rw [hQ]
    exact g_iret X hT hG hr hlk dX8_route_22
  · have h := ite_f cb3 h
    refine lv_iload_n hx hb dX8_route_10 rfl (lv_at hl 2 rfl) ?_
    refine lv_iconst (v := 0) hx hb dX8_route_11 (by decide) ?_
    refine lv_bipush (v := 7) hx hb dX8_route_12 (by decide) ?_
    obtain ⟨r_4, ec5, h⟩ := bnd1_some h
    refine g_callSr [.int p2, .int 0, .int 7] [] X hT hG ml_X8_89 (c_X8_within hq ec5) rfl rfl hl.1 (Nat.le_of_ble_eq_true rfl) (by rw [hR]; exact ⟨Nat.le_of_ble_eq_true rfl, Nat.le_of_ble_eq_true rfl⟩) dX8_route_14 (fun H locs hG => ?_)
    refine lv_if_ne (tgt := 23) hx hb dX8_route_17 (by decide) (fun cb6 => ?_) (fun cb6 => ?_)
    · have h := ite_f cb6 h
      refine lv_iload_n hx hb dX8_route_23 rfl (lv_at hl 1 rfl) ?_
      refine lv_iload_n hx hb dX8_route_24 rfl (lv_at hl 2 rfl) ?_
      obtain ⟨y_7, aTried_8, er9, h⟩ := bnd2_some h
      have J9 : ∀ (H : Heap) (locs : List Loc) (ls : Array Slot), GH D cI cZ layM q s ([iPageLength, iRoads, iRead, iAltered, iRanked, iStage, iFigures, iNewRoads, iTold, iRouted, iRouteSum], [jH], [aPage, aBeginOf, aEndOf, aLengthOf, aCosts, aRankOf, aRoadAt, aWorths, aMiddles, aLeasts, aBusy, aNewBegin, aNewEnd, aNewLength, aIsLeft, aAround, aWhole, aIsNeeded, aWereRanks, aWaitFrom, aWaitTo, aToldAt, aRisen, aUps, aTried_8, aRoutes]) H locs → lv_has ls 3 [] → W p l e R s m args below meth c H locs 0 0 Q (F0 m 39 ls [.int y_7]) := by
        intro H locs ls hG hl
        cases h
        rw [hQ]
        exact g_iret X hT hG hr hlk dX8_route_39
      refine lv_icmp_ne (tgt := 33) hx hb dX8_route_25 (by decide) (fun cb10 => ?_) (fun cb10 => ?_)
      · have er9 := ite_f cb10 er9
        refine lv_aload_n hx hb dX8_route_33 rfl (lv_at hl 0 rfl) ?_
        refine lv_iload_n hx hb dX8_route_34 rfl (lv_at hl 1 rfl) ?_
        refine lv_iload_n hx hb dX8_route_35 rfl (lv_at hl 2 rfl) ?_
        obtain ⟨r_11, aTried_12, ec13, er9⟩ := bnd2_some er9
        refine g_callVr [.int p1, .int p2] [] 0 X hT hG ml_X8_225 (c_X8_routeNow hq ec13) rfl rfl rfl rfl rfl hl.1 (Nat.le_of_ble_eq_true rfl) (by rw [hR]; exact ⟨Nat.le_of_ble_eq_true rfl, Nat.le_of_ble_eq_true rfl⟩) dX8_route_36 (fun H locs hG => ?_)
        have hG : GH D cI cZ layM q s ([iPageLength, iRoads, iRead, iAltered, iRanked, iStage, iFigures, iNewRoads, iTold, iRouted, iRouteSum], [jH], [aPage, aBeginOf, aEndOf, aLengthOf, aCosts, aRankOf, aRoadAt, aWorths, aMiddles, aLeasts, aBusy, aNewBegin, aNewEnd, aNewLength, aIsLeft, aAround, aWhole, aIsNeeded, aWereRanks, aWaitFrom, aWaitTo, aToldAt, aRisen, aUps, aTried_12, aRoutes]) H locs := hG
        cases er9
        exact J9 H locs ls hG (lv_sub hl [] rfl)
      · have er9 := ite_t cb10 er9
        refine lv_bipush (v := (-103)) hx hb dX8_route_28 (by decide) ?_
        refine lv_goto (tgt := 39) hx hb dX8_route_30 (by decide) ?_
        cases er9
        exact J9 H locs ls hG (lv_sub hl [] rfl)
    · have h := ite_t cb6 h
      refine lv_bipush (v := (-101)) hx hb dX8_route_20 (by decide) ?_
      cases h
      rw [hQ]
      exact g_iret X hT hG hr hlk dX8_route_22
def f8_layRoutes_b1 (fu : Nat) (iRoads : Int32) (aBeginOf : (Nat → Int32)) (aEndOf : (Nat → Int32)) (aLengthOf : (Nat → Int32)) (aTried_1 : (Nat → Int32)) (x1_3 : Int32) (iRouted_4 : Int32) (iRouteSum_5 : Int32) (aRoutes_6 : (Nat → Int32)) : Option ((Int32 × Int32 × Int32 × (Nat → Int32)) ⊕ (Int32 × Int32 × (Nat → Int32))) :=
  if 64 ≤ x1_3 then (some (.inr (iRouted_4, iRouteSum_5, aRoutes_6))) else bnd1 (if (x1_3 / 8) = (x1_3 - x1_3 / 8 * 8) then (some 268435456) else bnd1 (f8_routeBy fu iRoads aBeginOf (x1_3 / 8) aEndOf (x1_3 - x1_3 / 8 * 8) (-1) aLengthOf aTried_1) fun (r_15 : Int32) => some r_15) fun (y_12 : Int32) => ckin x1_3 64 (bd (upd aRoutes_6 x1_3.toNatClampNeg y_12) fun aRoutes_18 => ckin x1_3 64 (bnd1 (if 268435456 ≤ (aRoutes_18 x1_3.toNatClampNeg) then (some 0) else some 1) fun (y_20 : Int32) => bd ((iRouted_4 + y_20)) fun iRouted_23 => ckin x1_3 64 (bnd1 (if 268435456 ≤ (aRoutes_18 x1_3.toNatClampNeg) then (some 0) else ckin x1_3 64 (some (aRoutes_18 x1_3.toNatClampNeg))) fun (y_25 : Int32) => bd ((iRouteSum_5 + y_25)) fun iRouteSum_29 => bd (x1_3 + 1) fun x1_30 => some (.inl (x1_30, iRouted_23, iRouteSum_29, aRoutes_18)))))
def f8_layRoutes (fu : Nat) (iRoads : Int32) (aCosts : (Nat → Int32)) (aLengthOf : (Nat → Int32)) (aTried : (Nat → Int32)) (aBeginOf : (Nat → Int32)) (aEndOf : (Nat → Int32)) (aRoutes : (Nat → Int32)) : Option (Int32 × Int32 × (Nat → Int32) × (Nat → Int32)) :=
  bnd1 (f8_layTried fu iRoads aCosts (-1) aLengthOf aTried) fun (aTried_1 : (Nat → Int32)) => bnd3 (lpG (fun z => f8_layRoutes_b1 fu iRoads aBeginOf aEndOf aLengthOf aTried_1 z.1 z.2.1 z.2.2.1 z.2.2.2) fu ((0 : Int32), (0 : Int32), (0 : Int32), aRoutes)) fun (iRouted_7 : Int32) (iRouteSum_8 : Int32) (aRoutes_9 : (Nat → Int32)) => some (iRouted_7, iRouteSum_8, aTried_1, aRoutes_9)
set_option maxHeartbeats 4000000 in
set_option maxRecDepth 100000 in
theorem c_X8_layRoutes (hq : gJ layM q) {fu : Nat} {o_iRouted : Int32} {o_iRouteSum : Int32} {o_aTried : (Nat → Int32)} {o_aRoutes : (Nat → Int32)} (h : f8_layRoutes fu iRoads aCosts aLengthOf aTried aBeginOf aEndOf aRoutes = some (o_iRouted, o_iRouteSum, o_aTried, o_aRoutes)) :
    GM l yX8_layRoutes cX8_layRoutes 2 none 2 47 D cI cZ layM q [.ref (q 0)] ([iPageLength, iRoads, iRead, iAltered, iRanked, iStage, iFigures, iNewRoads, iTold, iRouted, iRouteSum], [jH], [aPage, aBeginOf, aEndOf, aLengthOf, aCosts, aRankOf, aRoadAt, aWorths, aMiddles, aLeasts, aBusy, aNewBegin, aNewEnd, aNewLength, aIsLeft, aAround, aWhole, aIsNeeded, aWereRanks, aWaitFrom, aWaitTo, aToldAt, aRisen, aUps, aTried, aRoutes]) none ([iPageLength, iRoads, iRead, iAltered, iRanked, iStage, iFigures, iNewRoads, iTold, o_iRouted, o_iRouteSum], [jH], [aPage, aBeginOf, aEndOf, aLengthOf, aCosts, aRankOf, aRoadAt, aWorths, aMiddles, aLeasts, aBusy, aNewBegin, aNewEnd, aNewLength, aIsLeft, aAround, aWhole, aIsNeeded, aWereRanks, aWaitFrom, aWaitTo, aToldAt, aRisen, aUps, o_aTried, o_aRoutes]) := by
  refine GM.go RX8 (by decide) rfl (Nat.le_of_ble_eq_true rfl) ?_
  intro p e s m args below meth c ls R Q H locs X hr hlk hT hG hl hR hQ
  have hx := X.1
  have hb := X.2.1
  have hl : lv_has ls 2 [(0, .ref (q 0))] := hl
  unfold f8_layRoutes at h
  refine lv_aload_n hx hb dX8_layRoutes_0 rfl (lv_at hl 0 rfl) ?_
  refine lv_iconst (v := (-1)) hx hb dX8_layRoutes_1 (by decide) ?_
  obtain ⟨aTried_1, ec2, h⟩ := bnd1_some h
  refine g_callVv [.int (-1)] [] 0 X hT hG ml_X8_219 (c_X8_layTried hq ec2) rfl rfl rfl rfl rfl hl.1 (Nat.le_of_ble_eq_true rfl) (by rw [hR]; exact ⟨Nat.le_of_ble_eq_true rfl, Nat.le_of_ble_eq_true rfl⟩) dX8_layRoutes_2 (fun H locs hG => ?_)
  have hG : GH D cI cZ layM q s ([iPageLength, iRoads, iRead, iAltered, iRanked, iStage, iFigures, iNewRoads, iTold, iRouted, iRouteSum], [jH], [aPage, aBeginOf, aEndOf, aLengthOf, aCosts, aRankOf, aRoadAt, aWorths, aMiddles, aLeasts, aBusy, aNewBegin, aNewEnd, aNewLength, aIsLeft, aAround, aWhole, aIsNeeded, aWereRanks, aWaitFrom, aWaitTo, aToldAt, aRisen, aUps, aTried_1, aRoutes]) H locs := hG
  refine lv_aload_n hx hb dX8_layRoutes_5 rfl (lv_at hl 0 rfl) ?_
  refine lv_iconst (v := 0) hx hb dX8_layRoutes_6 (by decide) ?_
  refine g_putI (w' := ([iPageLength, iRoads, iRead, iAltered, iRanked, iStage, iFigures, iNewRoads, iTold, 0, iRouteSum], [jH], [aPage, aBeginOf, aEndOf, aLengthOf, aCosts, aRankOf, aRoadAt, aWorths, aMiddles, aLeasts, aBusy, aNewBegin, aNewEnd, aNewLength, aIsLeft, aAround, aWhole, aIsNeeded, aWereRanks, aWaitFrom, aWaitTo, aToldAt, aRisen, aUps, aTried_1, aRoutes])) X hT hq hG fp_X8_228 0 rfl rfl gu_M_iRouted (Nat.le_of_ble_eq_true rfl) rfl dX8_layRoutes_7 (fun H locs hG => ?_)
  refine lv_aload_n hx hb dX8_layRoutes_10 rfl (lv_at hl 0 rfl) ?_
  refine lv_iconst (v := 0) hx hb dX8_layRoutes_11 (by decide) ?_
  refine g_putI (w' := ([iPageLength, iRoads, iRead, iAltered, iRanked, iStage, iFigures, iNewRoads, iTold, 0, 0], [jH], [aPage, aBeginOf, aEndOf, aLengthOf, aCosts, aRankOf, aRoadAt, aWorths, aMiddles, aLeasts, aBusy, aNewBegin, aNewEnd, aNewLength, aIsLeft, aAround, aWhole, aIsNeeded, aWereRanks, aWaitFrom, aWaitTo, aToldAt, aRisen, aUps, aTried_1, aRoutes])) X hT hq hG fp_X8_231 0 rfl rfl gu_M_iRouteSum (Nat.le_of_ble_eq_true rfl) rfl dX8_layRoutes_12 (fun H locs hG => ?_)
  refine lv_iconst (v := 0) hx hb dX8_layRoutes_15 (by decide) ?_
  refine lv_istore_n (lv' := [(1, .int 0), (0, .ref (q 0))]) hx hb dX8_layRoutes_16 rfl hl (by decide) rfl (fun ls hl => ?_)
  obtain ⟨iRouted_7, iRouteSum_8, aRoutes_9, eL10, h⟩ := bnd3_some h
  have JX10 : ∀ (H : Heap) (locs : List Loc) (ls : Array Slot), GH D cI cZ layM q s ([iPageLength, iRoads, iRead, iAltered, iRanked, iStage, iFigures, iNewRoads, iTold, iRouted_7, iRouteSum_8], [jH], [aPage, aBeginOf, aEndOf, aLengthOf, aCosts, aRankOf, aRoadAt, aWorths, aMiddles, aLeasts, aBusy, aNewBegin, aNewEnd, aNewLength, aIsLeft, aAround, aWhole, aIsNeeded, aWereRanks, aWaitFrom, aWaitTo, aToldAt, aRisen, aUps, aTried_1, aRoutes_9]) H locs → lv_has ls 2 [] → W p l e R s m args below meth c H locs 0 0 Q (F0 m 119 ls []) := by
    intro H locs ls hG hl
    cases h
    rw [hQ]
    exact g_vret X hT hG hr hlk dX8_layRoutes_119
  refine lpG_W (Wh := fun z => ∀ (H : Heap) (locs : List Loc) (ls : Array Slot), GH D cI cZ layM q s ([iPageLength, iRoads, iRead, iAltered, iRanked, iStage, iFigures, iNewRoads, iTold, z.2.1, z.2.2.1], [jH], [aPage, aBeginOf, aEndOf, aLengthOf, aCosts, aRankOf, aRoadAt, aWorths, aMiddles, aLeasts, aBusy, aNewBegin, aNewEnd, aNewLength, aIsLeft, aAround, aWhole, aIsNeeded, aWereRanks, aWaitFrom, aWaitTo, aToldAt, aRisen, aUps, aTried_1, z.2.2.2]) H locs → lv_has ls 2 [(0, .ref (q 0)), (1, .int (z.1))] → W p l e R s m args below meth c H locs 0 0 Q (F0 m 17 ls [])) ?_ fu _ eL10 H locs ls hG (lv_sub hl [1, 0] rfl)
  intro z rr10 hb10 hin10 hout10
  obtain ⟨x1_3, iRouted_4, iRouteSum_5, aRoutes_6⟩ := z
  intro H locs ls hG hl
  have hb10 : f8_layRoutes_b1 fu iRoads aBeginOf aEndOf aLengthOf aTried_1 x1_3 iRouted_4 iRouteSum_5 aRoutes_6 = some rr10 := hb10
  have hG : GH D cI cZ layM q s ([iPageLength, iRoads, iRead, iAltered, iRanked, iStage, iFigures, iNewRoads, iTold, iRouted_4, iRouteSum_5], [jH], [aPage, aBeginOf, aEndOf, aLengthOf, aCosts, aRankOf, aRoadAt, aWorths, aMiddles, aLeasts, aBusy, aNewBegin, aNewEnd, aNewLength, aIsLeft, aAround, aWhole, aIsNeeded, aWereRanks, aWaitFrom, aWaitTo, aToldAt, aRisen, aUps, aTried_1, aRoutes_6]) H locs := hG
  have hl : lv_has ls 2 [(0, .ref (q 0)), (1, .int x1_3)] := hl
  unfold f8_layRoutes_b1 at hb10
  refine lv_iload_n hx hb dX8_layRoutes_17 rfl (lv_at hl 1 rfl) ?_
  refine lv_bipush (v := 64) hx hb dX8_layRoutes_18 (by decide) ?_
  refine lv_icmp_ge (tgt := 119) hx hb dX8_layRoutes_20 (by decide) (fun cb11 => ?_) (fun cb11 => ?_)
  · have hb10 := ite_t cb11 hb10
    have eo := hout10 _ (Option.some.inj hb10).symm
    cases eo
    exact JX10 H locs ls hG (lv_sub hl [] rfl)
  · have hb10 := ite_f cb11 hb10
    refine lv_aload_n hx hb dX8_layRoutes_23 rfl (lv_at hl 0 rfl) ?_
    refine g_get (v := .ref (q 26)) X hT hG fl_X8_86 0 rfl rfl rfl dX8_layRoutes_24 ?_
    refine lv_iload_n hx hb dX8_layRoutes_27 rfl (lv_at hl 1 rfl) ?_
    refine lv_iload_n hx hb dX8_layRoutes_28 rfl (lv_at hl 1 rfl) ?_
    refine lv_bipush (v := 8) hx hb dX8_layRoutes_29 (by decide) ?_
    refine lv_idiv hx hb dX8_layRoutes_31 (by decide) ?_
    refine lv_iload_n hx hb dX8_layRoutes_32 rfl (lv_at hl 1 rfl) ?_
    refine lv_bipush (v := 8) hx hb dX8_layRoutes_33 (by decide) ?_
    refine lv_irem hx hb dX8_layRoutes_35 (by decide) ?_
    obtain ⟨y_12, er13, hb10⟩ := bnd1_some hb10
    have J13 : ∀ (H : Heap) (locs : List Loc) (ls : Array Slot), GH D cI cZ layM q s ([iPageLength, iRoads, iRead, iAltered, iRanked, iStage, iFigures, iNewRoads, iTold, iRouted_4, iRouteSum_5], [jH], [aPage, aBeginOf, aEndOf, aLengthOf, aCosts, aRankOf, aRoadAt, aWorths, aMiddles, aLeasts, aBusy, aNewBegin, aNewEnd, aNewLength, aIsLeft, aAround, aWhole, aIsNeeded, aWereRanks, aWaitFrom, aWaitTo, aToldAt, aRisen, aUps, aTried_1, aRoutes_6]) H locs → lv_has ls 2 [(0, .ref (q 0)), (1, .int x1_3)] → W p l e R s m args below meth c H locs 0 0 Q (F0 m 57 ls [.int y_12, .int x1_3, .ref (q 26)]) := by
      intro H locs ls hG hl
      obtain ⟨hi17, hb10⟩ := ckin_some hb10
      obtain ⟨aRoutes_18, eaRoutes_18⟩ : ∃ z : Nat → Int32, z = upd aRoutes_6 x1_3.toNatClampNeg y_12 := ⟨_, rfl⟩
      have hb10 := bd_e eaRoutes_18 hb10
      refine g_ast (w' := ([iPageLength, iRoads, iRead, iAltered, iRanked, iStage, iFigures, iNewRoads, iTold, iRouted_4, iRouteSum_5], [jH], [aPage, aBeginOf, aEndOf, aLengthOf, aCosts, aRankOf, aRoadAt, aWorths, aMiddles, aLeasts, aBusy, aNewBegin, aNewEnd, aNewLength, aIsLeft, aAround, aWhole, aIsNeeded, aWereRanks, aWaitFrom, aWaitTo, aToldAt, aRisen, aUps, aTried_1, aRoutes_18])) X hT hq hG 26 rfl ga_M_aRoutes (Nat.le_of_ble_eq_true rfl) hi17 (by subst eaRoutes_18; rfl) dX8_layRoutes_57 (fun H locs hG => ?_)
      refine lv_aload_n hx hb dX8_layRoutes_58 rfl (lv_at hl 0 rfl) ?_
      refine lv_dup hx hb dX8_layRoutes_59 rfl ?_
      refine g_get (v := .int iRouted_4) X hT hG fl_X8_228 0 rfl rfl rfl dX8_layRoutes_60 ?_
      refine lv_aload_n hx hb dX8_layRoutes_63 rfl (lv_at hl 0 rfl) ?_
      refine g_get (v := .ref (q 26)) X hT hG fl_X8_86 0 rfl rfl rfl dX8_layRoutes_64 ?_
      refine lv_iload_n hx hb dX8_layRoutes_67 rfl (lv_at hl 1 rfl) ?_
      obtain ⟨hi19, hb10⟩ := ckin_some hb10
      refine g_ald (f := aRoutes_18) X hT hG 26 rfl rfl hi19 dX8_layRoutes_68 ?_
      refine lv_ldc (v := 268435456) hx hb X.2.2.2.1 (X.2.2.2.2 _ cn_X8_136) dX8_layRoutes_69 ?_
      obtain ⟨y_20, er21, hb10⟩ := bnd1_some hb10
      have J21 : ∀ (H : Heap) (locs : List Loc) (ls : Array Slot), GH D cI cZ layM q s ([iPageLength, iRoads, iRead, iAltered, iRanked, iStage, iFigures, iNewRoads, iTold, iRouted_4, iRouteSum_5], [jH], [aPage, aBeginOf, aEndOf, aLengthOf, aCosts, aRankOf, aRoadAt, aWorths, aMiddles, aLeasts, aBusy, aNewBegin, aNewEnd, aNewLength, aIsLeft, aAround, aWhole, aIsNeeded, aWereRanks, aWaitFrom, aWaitTo, aToldAt, aRisen, aUps, aTried_1, aRoutes_18]) H locs → lv_has ls 2 [(0, .ref (q 0)), (1, .int x1_3)] → W p l e R s m args below meth c H locs 0 0 Q (F0 m 79 ls [.int y_20, .int iRouted_4, .ref (q 0)]) := by
        intro H locs ls hG hl
        refine lv_iadd hx hb dX8_layRoutes_79 ?_
        refine lv_topi (fun iRouted_23 eiRouted_23 => ?_)
        have hb10 := bd_e eiRouted_23 hb10
        refine g_putI (w' := ([iPageLength, iRoads, iRead, iAltered, iRanked, iStage, iFigures, iNewRoads, iTold, iRouted_23, iRouteSum_5], [jH], [aPage, aBeginOf, aEndOf, aLengthOf, aCosts, aRankOf, aRoadAt, aWorths, aMiddles, aLeasts, aBusy, aNewBegin, aNewEnd, aNewLength, aIsLeft, aAround, aWhole, aIsNeeded, aWereRanks, aWaitFrom, aWaitTo, aToldAt, aRisen, aUps, aTried_1, aRoutes_18])) X hT hq hG fp_X8_228 0 rfl rfl gu_M_iRouted (Nat.le_of_ble_eq_true rfl) rfl dX8_layRoutes_80 (fun H locs hG => ?_)
        refine lv_aload_n hx hb dX8_layRoutes_83 rfl (lv_at hl 0 rfl) ?_
        refine lv_dup hx hb dX8_layRoutes_84 rfl ?_
        refine g_get (v := .int iRouteSum_5) X hT hG fl_X8_231 0 rfl rfl rfl dX8_layRoutes_85 ?_
        refine lv_aload_n hx hb dX8_layRoutes_88 rfl (lv_at hl 0 rfl) ?_
        refine g_get (v := .ref (q 26)) X hT hG fl_X8_86 0 rfl rfl rfl dX8_layRoutes_89 ?_
        refine lv_iload_n hx hb dX8_layRoutes_92 rfl (lv_at hl 1 rfl) ?_
        obtain ⟨hi24, hb10⟩ := ckin_some hb10
        refine g_ald (f := aRoutes_18) X hT hG 26 rfl rfl hi24 dX8_layRoutes_93 ?_
        refine lv_ldc (v := 268435456) hx hb X.2.2.2.1 (X.2.2.2.2 _ cn_X8_136) dX8_layRoutes_94 ?_
        obtain ⟨y_25, er26, hb10⟩ := bnd1_some hb10
        have J26 : ∀ (H : Heap) (locs : List Loc) (ls : Array Slot), GH D cI cZ layM q s ([iPageLength, iRoads, iRead, iAltered, iRanked, iStage, iFigures, iNewRoads, iTold, iRouted_23, iRouteSum_5], [jH], [aPage, aBeginOf, aEndOf, aLengthOf, aCosts, aRankOf, aRoadAt, aWorths, aMiddles, aLeasts, aBusy, aNewBegin, aNewEnd, aNewLength, aIsLeft, aAround, aWhole, aIsNeeded, aWereRanks, aWaitFrom, aWaitTo, aToldAt, aRisen, aUps, aTried_1, aRoutes_18]) H locs → lv_has ls 2 [(0, .ref (q 0)), (1, .int x1_3)] → W p l e R s m args below meth c H locs 0 0 Q (F0 m 109 ls [.int y_25, .int iRouteSum_5, .ref (q 0)]) := by
          intro H locs ls hG hl
          refine lv_iadd hx hb dX8_layRoutes_109 ?_
          refine lv_topi (fun iRouteSum_29 eiRouteSum_29 => ?_)
          have hb10 := bd_e eiRouteSum_29 hb10
          refine g_putI (w' := ([iPageLength, iRoads, iRead, iAltered, iRanked, iStage, iFigures, iNewRoads, iTold, iRouted_23, iRouteSum_29], [jH], [aPage, aBeginOf, aEndOf, aLengthOf, aCosts, aRankOf, aRoadAt, aWorths, aMiddles, aLeasts, aBusy, aNewBegin, aNewEnd, aNewLength, aIsLeft, aAround, aWhole, aIsNeeded, aWereRanks, aWaitFrom, aWaitTo, aToldAt, aRisen, aUps, aTried_1, aRoutes_18])) X hT hq hG fp_X8_231 0 rfl rfl gu_M_iRouteSum (Nat.le_of_ble_eq_true rfl) rfl dX8_layRoutes_110 (fun H locs hG => ?_)
          obtain ⟨x1_30, ex1_30⟩ : ∃ z : Int32, z = x1_3 + 1 := ⟨_, rfl⟩
          have hb10 := bd_e ex1_30 hb10
          refine lv_iinc (v := x1_30) (lv' := [(1, .int x1_30), (0, .ref (q 0))]) hx hb dX8_layRoutes_113 hl (k := 1) rfl (by rw [ex1_30]; rfl) (by decide) rfl (fun ls hl => ?_)
          refine lv_goto (tgt := 17) hx hb dX8_layRoutes_116 (by decide) ?_
          exact hin10 _ (Option.some.inj hb10).symm H locs ls hG (lv_sub hl [1, 0] rfl)
        refine lv_icmp_ge (tgt := 108) hx hb dX8_layRoutes_96 (by decide) (fun cb27 => ?_) (fun cb27 => ?_)
        · have er26 := ite_t cb27 er26
          refine lv_iconst (v := 0) hx hb dX8_layRoutes_108 (by decide) ?_
          cases er26
          exact J26 H locs ls hG (lv_sub hl [0, 1] rfl)
        · have er26 := ite_f cb27 er26
          refine lv_aload_n hx hb dX8_layRoutes_99 rfl (lv_at hl 0 rfl) ?_
          refine g_get (v := .ref (q 26)) X hT hG fl_X8_86 0 rfl rfl rfl dX8_layRoutes_100 ?_
          refine lv_iload_n hx hb dX8_layRoutes_103 rfl (lv_at hl 1 rfl) ?_
          obtain ⟨hi28, er26⟩ := ckin_some er26
          refine g_ald (f := aRoutes_18) X hT hG 26 rfl rfl hi28 dX8_layRoutes_104 ?_
          refine lv_goto (tgt := 109) hx hb dX8_layRoutes_105 (by decide) ?_
          cases er26
          exact J26 H locs ls hG (lv_sub hl [0, 1] rfl)
      refine lv_icmp_ge (tgt := 78) hx hb dX8_layRoutes_71 (by decide) (fun cb22 => ?_) (fun cb22 => ?_)
      · have er21 := ite_t cb22 er21
        refine lv_iconst (v := 0) hx hb dX8_layRoutes_78 (by decide) ?_
        cases er21
        exact J21 H locs ls hG (lv_sub hl [0, 1] rfl)
      · have er21 := ite_f cb22 er21
        refine lv_iconst (v := 1) hx hb dX8_layRoutes_74 (by decide) ?_
        refine lv_goto (tgt := 79) hx hb dX8_layRoutes_75 (by decide) ?_
        cases er21
        exact J21 H locs ls hG (lv_sub hl [0, 1] rfl)
    refine lv_icmp_ne (tgt := 44) hx hb dX8_layRoutes_36 (by decide) (fun cb14 => ?_) (fun cb14 => ?_)
    · have er13 := ite_f cb14 er13
      refine lv_aload_n hx hb dX8_layRoutes_44 rfl (lv_at hl 0 rfl) ?_
      refine lv_iload_n hx hb dX8_layRoutes_45 rfl (lv_at hl 1 rfl) ?_
      refine lv_bipush (v := 8) hx hb dX8_layRoutes_46 (by decide) ?_
      refine lv_idiv hx hb dX8_layRoutes_48 (by decide) ?_
      refine lv_iload_n hx hb dX8_layRoutes_49 rfl (lv_at hl 1 rfl) ?_
      refine lv_bipush (v := 8) hx hb dX8_layRoutes_50 (by decide) ?_
      refine lv_irem hx hb dX8_layRoutes_52 (by decide) ?_
      refine lv_iconst (v := (-1)) hx hb dX8_layRoutes_53 (by decide) ?_
      obtain ⟨r_15, ec16, er13⟩ := bnd1_some er13
      refine g_callVr [.int (x1_3 / 8), .int (x1_3 - x1_3 / 8 * 8), .int (-1)] [.int x1_3, .ref (q 26)] 0 X hT hG ml_X8_222 (c_X8_routeBy hq ec16) rfl rfl rfl rfl rfl hl.1 (Nat.le_of_ble_eq_true rfl) (by rw [hR]; exact ⟨Nat.le_of_ble_eq_true rfl, Nat.le_of_ble_eq_true rfl⟩) dX8_layRoutes_54 (fun H locs hG => ?_)
      cases er13
      exact J13 H locs ls hG (lv_sub hl [0, 1] rfl)
    · have er13 := ite_t cb14 er13
      refine lv_ldc (v := 268435456) hx hb X.2.2.2.1 (X.2.2.2.2 _ cn_X8_136) dX8_layRoutes_39 ?_
      refine lv_goto (tgt := 57) hx hb dX8_layRoutes_41 (by decide) ?_
      cases er13
      exact J13 H locs ls hG (lv_sub hl [0, 1] rfl)
def f8_lossNow_b1 (fu : Nat) (aRoutes_4 : (Nat → Int32)) (iRoads : Int32) (aBeginOf : (Nat → Int32)) (aEndOf : (Nat → Int32)) (p1 : Int32) (aLengthOf : (Nat → Int32)) (aTried_6 : (Nat → Int32)) (p2 : Int32) (x3_8 : Int32) (x4_9 : Int32) : Option ((Int32 × Int32) ⊕ (Int32)) :=
  if 64 ≤ x4_9 then (some (.inr x3_8)) else ckin x4_9 64 (bnd1 (if 268435456 ≤ (aRoutes_4 x4_9.toNatClampNeg) then (some x3_8) else bnd1 (f8_routeBy fu iRoads aBeginOf (x4_9 / 8) aEndOf (x4_9 - x4_9 / 8 * 8) p1 aLengthOf aTried_6) fun (r_17 : Int32) => bnd1 (if r_17 < 268435456 then (ckin x4_9 64 (some (r_17 - (aRoutes_4 x4_9.toNatClampNeg)))) else some p2) fun (y_19 : Int32) => bd ((x3_8 + y_19)) fun x3_23 => some x3_23) fun (x3_14 : Int32) => bd (x4_9 + 1) fun x4_24 => some (.inl (x3_14, x4_24)))
def f8_lossNow (fu : Nat) (iRoads : Int32) (aCosts : (Nat → Int32)) (aLengthOf : (Nat → Int32)) (aTried : (Nat → Int32)) (aBeginOf : (Nat → Int32)) (aEndOf : (Nat → Int32)) (aRoutes : (Nat → Int32)) (p1 : Int32) (p2 : Int32) : Option (Int32 × Int32 × Int32 × (Nat → Int32) × (Nat → Int32)) :=
  bnd4 (f8_layRoutes fu iRoads aCosts aLengthOf aTried aBeginOf aEndOf aRoutes) fun (iRouted_1 : Int32) (iRouteSum_2 : Int32) (aTried_3 : (Nat → Int32)) (aRoutes_4 : (Nat → Int32)) => bnd1 (f8_layTried fu iRoads aCosts p1 aLengthOf aTried_3) fun (aTried_6 : (Nat → Int32)) => bnd1 (lpG (fun z => f8_lossNow_b1 fu aRoutes_4 iRoads aBeginOf aEndOf p1 aLengthOf aTried_6 p2 z.1 z.2) fu ((0 : Int32), (0 : Int32))) fun (x3_10 : Int32) => some (x3_10, iRouted_1, iRouteSum_2, aTried_6, aRoutes_4)
set_option maxHeartbeats 4000000 in
set_option maxRecDepth 100000 in
theorem c_X8_lossNow (hq : gJ layM q) {fu : Nat} {p1 : Int32} {p2 : Int32} {o_r : Int32} {o_iRouted : Int32} {o_iRouteSum : Int32} {o_aTried : (Nat → Int32)} {o_aRoutes : (Nat → Int32)} (h : f8_lossNow fu iRoads aCosts aLengthOf aTried aBeginOf aEndOf aRoutes p1 p2 = some (o_r, o_iRouted, o_iRouteSum, o_aTried, o_aRoutes)) :
    GM l yX8_lossNow cX8_lossNow 6 (some .int) 3 68 D cI cZ layM q [.ref (q 0), .int p1, .int p2] ([iPageLength, iRoads, iRead, iAltered, iRanked, iStage, iFigures, iNewRoads, iTold, iRouted, iRouteSum], [jH], [aPage, aBeginOf, aEndOf, aLengthOf, aCosts, aRankOf, aRoadAt, aWorths, aMiddles, aLeasts, aBusy, aNewBegin, aNewEnd, aNewLength, aIsLeft, aAround, aWhole, aIsNeeded, aWereRanks, aWaitFrom, aWaitTo, aToldAt, aRisen, aUps, aTried, aRoutes]) (some (.int o_r)) ([iPageLength, iRoads, iRead, iAltered, iRanked, iStage, iFigures, iNewRoads, iTold, o_iRouted, o_iRouteSum], [jH], [aPage, aBeginOf, aEndOf, aLengthOf, aCosts, aRankOf, aRoadAt, aWorths, aMiddles, aLeasts, aBusy, aNewBegin, aNewEnd, aNewLength, aIsLeft, aAround, aWhole, aIsNeeded, aWereRanks, aWaitFrom, aWaitTo, aToldAt, aRisen, aUps, o_aTried, o_aRoutes]) := by
  refine GM.go RX8 (by decide) rfl (Nat.le_of_ble_eq_true rfl) ?_
  intro p e s m args below meth c ls R Q H locs X hr hlk hT hG hl hR hQ
  have hx := X.1
  have hb := X.2.1
  have hl : lv_has ls 6 [(0, .ref (q 0)), (1, .int p1), (2, .int p2)] := hl
  unfold f8_lossNow at h
  refine lv_aload_n hx hb dX8_lossNow_0 rfl (lv_at hl 0 rfl) ?_
  obtain ⟨iRouted_1, iRouteSum_2, aTried_3, aRoutes_4, ec5, h⟩ := bnd4_some h
  refine g_callVv [] [] 0 X hT hG ml_X8_234 (c_X8_layRoutes hq ec5) rfl rfl rfl rfl rfl hl.1 (Nat.le_of_ble_eq_true rfl) (by rw [hR]; exact ⟨Nat.le_of_ble_eq_true rfl, Nat.le_of_ble_eq_true rfl⟩) dX8_lossNow_1 (fun H locs hG => ?_)
  have hG : GH D cI cZ layM q s ([iPageLength, iRoads, iRead, iAltered, iRanked, iStage, iFigures, iNewRoads, iTold, iRouted_1, iRouteSum_2], [jH], [aPage, aBeginOf, aEndOf, aLengthOf, aCosts, aRankOf, aRoadAt, aWorths, aMiddles, aLeasts, aBusy, aNewBegin, aNewEnd, aNewLength, aIsLeft, aAround, aWhole, aIsNeeded, aWereRanks, aWaitFrom, aWaitTo, aToldAt, aRisen, aUps, aTried_3, aRoutes_4]) H locs := hG
  refine lv_aload_n hx hb dX8_lossNow_4 rfl (lv_at hl 0 rfl) ?_
  refine lv_iload_n hx hb dX8_lossNow_5 rfl (lv_at hl 1 rfl) ?_
  obtain ⟨aTried_6, ec7, h⟩ := bnd1_some h
  refine g_callVv [.int p1] [] 0 X hT hG ml_X8_219 (c_X8_layTried hq ec7) rfl rfl rfl rfl rfl hl.1 (Nat.le_of_ble_eq_true rfl) (by rw [hR]; exact ⟨Nat.le_of_ble_eq_true rfl, Nat.le_of_ble_eq_true rfl⟩) dX8_lossNow_6 (fun H locs hG => ?_)
  have hG : GH D cI cZ layM q s ([iPageLength, iRoads, iRead, iAltered, iRanked, iStage, iFigures, iNewRoads, iTold, iRouted_1, iRouteSum_2], [jH], [aPage, aBeginOf, aEndOf, aLengthOf, aCosts, aRankOf, aRoadAt, aWorths, aMiddles, aLeasts, aBusy, aNewBegin, aNewEnd, aNewLength, aIsLeft, aAround, aWhole, aIsNeeded, aWereRanks, aWaitFrom, aWaitTo, aToldAt, aRisen, aUps, aTried_6, aRoutes_4]) H locs := hG
  refine lv_iconst (v := 0) hx hb dX8_lossNow_9 (by decide) ?_
  refine lv_istore_n (lv' := [(3, .int 0), (0, .ref (q 0)), (1, .int p1), (2, .int p2)]) hx hb dX8_lossNow_10 rfl hl (by decide) rfl (fun ls hl => ?_)
  refine lv_iconst (v := 0) hx hb dX8_lossNow_11 (by decide) ?_
  refine lv_istore (lv' := [(4, .int 0), (3, .int 0), (0, .ref (q 0)), (1, .int p1), (2, .int p2)]) hx hb dX8_lossNow_12 hl (by decide) rfl (fun ls hl => ?_)
  obtain ⟨x3_10, eL11, h⟩ := bnd1_some h
  have JX11 : ∀ (H : Heap) (locs : List Loc) (ls : Array Slot), GH D cI cZ layM q s ([iPageLength, iRoads, iRead, iAltered, iRanked, iStage, iFigures, iNewRoads, iTold, iRouted_1, iRouteSum_2], [jH], [aPage, aBeginOf, aEndOf, aLengthOf, aCosts, aRankOf, aRoadAt, aWorths, aMiddles, aLeasts, aBusy, aNewBegin, aNewEnd, aNewLength, aIsLeft, aAround, aWhole, aIsNeeded, aWereRanks, aWaitFrom, aWaitTo, aToldAt, aRisen, aUps, aTried_6, aRoutes_4]) H locs → lv_has ls 6 [(3, .int x3_10)] → W p l e R s m args below meth c H locs 0 0 Q (F0 m 80 ls []) := by
    intro H locs ls hG hl
    refine lv_iload_n hx hb dX8_lossNow_80 rfl (lv_at hl 0 rfl) ?_
    cases h
    rw [hQ]
    exact g_iret X hT hG hr hlk dX8_lossNow_81
  refine lpG_W (Wh := fun z => ∀ (H : Heap) (locs : List Loc) (ls : Array Slot), GH D cI cZ layM q s ([iPageLength, iRoads, iRead, iAltered, iRanked, iStage, iFigures, iNewRoads, iTold, iRouted_1, iRouteSum_2], [jH], [aPage, aBeginOf, aEndOf, aLengthOf, aCosts, aRankOf, aRoadAt, aWorths, aMiddles, aLeasts, aBusy, aNewBegin, aNewEnd, aNewLength, aIsLeft, aAround, aWhole, aIsNeeded, aWereRanks, aWaitFrom, aWaitTo, aToldAt, aRisen, aUps, aTried_6, aRoutes_4]) H locs → lv_has ls 6 [(0, .ref (q 0)), (1, .int p1), (2, .int p2), (3, .int (z.1)), (4, .int (z.2))] → W p l e R s m args below meth c H locs 0 0 Q (F0 m 14 ls [])) ?_ fu _ eL11 H locs ls hG (lv_sub hl [2, 3, 4, 1, 0] rfl)
  intro z rr11 hb11 hin11 hout11
  obtain ⟨x3_8, x4_9⟩ := z
  intro H locs ls hG hl
  have hb11 : f8_lossNow_b1 fu aRoutes_4 iRoads aBeginOf aEndOf p1 aLengthOf aTried_6 p2 x3_8 x4_9 = some rr11 := hb11
  have hG : GH D cI cZ layM q s ([iPageLength, iRoads, iRead, iAltered, iRanked, iStage, iFigures, iNewRoads, iTold, iRouted_1, iRouteSum_2], [jH], [aPage, aBeginOf, aEndOf, aLengthOf, aCosts, aRankOf, aRoadAt, aWorths, aMiddles, aLeasts, aBusy, aNewBegin, aNewEnd, aNewLength, aIsLeft, aAround, aWhole, aIsNeeded, aWereRanks, aWaitFrom, aWaitTo, aToldAt, aRisen, aUps, aTried_6, aRoutes_4]) H locs := hG
  have hl : lv_has ls 6 [(0, .ref (q 0)), (1, .int p1), (2, .int p2), (3, .int x3_8), (4, .int x4_9)] := hl
  unfold f8_lossNow_b1 at hb11
  refine lv_iload hx hb dX8_lossNow_14 (lv_at hl 4 rfl) ?_
  refine lv_bipush (v := 64) hx hb dX8_lossNow_16 (by decide) ?_
  refine lv_icmp_ge (tgt := 80) hx hb dX8_lossNow_18 (by decide) (fun cb12 => ?_) (fun cb12 => ?_)
  · have hb11 := ite_t cb12 hb11
    have eo := hout11 _ (Option.some.inj hb11).symm
    cases eo
    exact JX11 H locs ls hG (lv_sub hl [3] rfl)
  · have hb11 := ite_f cb12 hb11
    refine lv_aload_n hx hb dX8_lossNow_21 rfl (lv_at hl 0 rfl) ?_
    refine g_get (v := .ref (q 26)) X hT hG fl_X8_86 0 rfl rfl rfl dX8_lossNow_22 ?_
    refine lv_iload hx hb dX8_lossNow_25 (lv_at hl 4 rfl) ?_
    obtain ⟨hi13, hb11⟩ := ckin_some hb11
    refine g_ald (f := aRoutes_4) X hT hG 26 rfl rfl hi13 dX8_lossNow_27 ?_
    refine lv_ldc (v := 268435456) hx hb X.2.2.2.1 (X.2.2.2.2 _ cn_X8_136) dX8_lossNow_28 ?_
    obtain ⟨x3_14, er15, hb11⟩ := bnd1_some hb11
    have J15 : ∀ (H : Heap) (locs : List Loc) (ls : Array Slot), GH D cI cZ layM q s ([iPageLength, iRoads, iRead, iAltered, iRanked, iStage, iFigures, iNewRoads, iTold, iRouted_1, iRouteSum_2], [jH], [aPage, aBeginOf, aEndOf, aLengthOf, aCosts, aRankOf, aRoadAt, aWorths, aMiddles, aLeasts, aBusy, aNewBegin, aNewEnd, aNewLength, aIsLeft, aAround, aWhole, aIsNeeded, aWereRanks, aWaitFrom, aWaitTo, aToldAt, aRisen, aUps, aTried_6, aRoutes_4]) H locs → lv_has ls 6 [(0, .ref (q 0)), (1, .int p1), (2, .int p2), (3, .int x3_14), (4, .int x4_9)] → W p l e R s m args below meth c H locs 0 0 Q (F0 m 74 ls []) := by
      intro H locs ls hG hl
      obtain ⟨x4_24, ex4_24⟩ : ∃ z : Int32, z = x4_9 + 1 := ⟨_, rfl⟩
      have hb11 := bd_e ex4_24 hb11
      refine lv_iinc (v := x4_24) (lv' := [(4, .int x4_24), (0, .ref (q 0)), (1, .int p1), (2, .int p2), (3, .int x3_14)]) hx hb dX8_lossNow_74 hl (k := 4) rfl (by rw [ex4_24]; rfl) (by decide) rfl (fun ls hl => ?_)
      refine lv_goto (tgt := 14) hx hb dX8_lossNow_77 (by decide) ?_
      exact hin11 _ (Option.some.inj hb11).symm H locs ls hG (lv_sub hl [1, 2, 3, 4, 0] rfl)
    refine lv_icmp_ge (tgt := 74) hx hb dX8_lossNow_30 (by decide) (fun cb16 => ?_) (fun cb16 => ?_)
    · have er15 := ite_t cb16 er15
      cases er15
      exact J15 H locs ls hG (lv_sub hl [0, 1, 2, 3, 4] rfl)
    · have er15 := ite_f cb16 er15
      refine lv_aload_n hx hb dX8_lossNow_33 rfl (lv_at hl 0 rfl) ?_
      refine lv_iload hx hb dX8_lossNow_34 (lv_at hl 4 rfl) ?_
      refine lv_bipush (v := 8) hx hb dX8_lossNow_36 (by decide) ?_
      refine lv_idiv hx hb dX8_lossNow_38 (by decide) ?_
      refine lv_iload hx hb dX8_lossNow_39 (lv_at hl 4 rfl) ?_
      refine lv_bipush (v := 8) hx hb dX8_lossNow_41 (by decide) ?_
      refine lv_irem hx hb dX8_lossNow_43 (by decide) ?_
      refine lv_iload_n hx hb dX8_lossNow_44 rfl (lv_at hl 1 rfl) ?_
      obtain ⟨r_17, ec18, er15⟩ := bnd1_some er15
      refine g_callVr [.int (x4_9 / 8), .int (x4_9 - x4_9 / 8 * 8), .int p1] [] 0 X hT hG ml_X8_222 (c_X8_routeBy hq ec18) rfl rfl rfl rfl rfl hl.1 (Nat.le_of_ble_eq_true rfl) (by rw [hR]; exact ⟨Nat.le_of_ble_eq_true rfl, Nat.le_of_ble_eq_true rfl⟩) dX8_lossNow_45 (fun H locs hG => ?_)
      refine lv_istore (lv' := [(5, .int r_17), (0, .ref (q 0)), (1, .int p1), (2, .int p2), (3, .int x3_8), (4, .int x4_9)]) hx hb dX8_lossNow_48 hl (by decide) rfl (fun ls hl => ?_)
      refine lv_iload_n hx hb dX8_lossNow_50 rfl (lv_at hl 4 rfl) ?_
      refine lv_iload hx hb dX8_lossNow_51 (lv_at hl 0 rfl) ?_
      refine lv_ldc (v := 268435456) hx hb X.2.2.2.1 (X.2.2.2.2 _ cn_X8_136) dX8_lossNow_53 ?_
      obtain ⟨y_19, er20, er15⟩ := bnd1_some er15
      have J20 : ∀ (H : Heap) (locs : List Loc) (ls : Array Slot), GH D cI cZ layM q s ([iPageLength, iRoads, iRead, iAltered, iRanked, iStage, iFigures, iNewRoads, iTold, iRouted_1, iRouteSum_2], [jH], [aPage, aBeginOf, aEndOf, aLengthOf, aCosts, aRankOf, aRoadAt, aWorths, aMiddles, aLeasts, aBusy, aNewBegin, aNewEnd, aNewLength, aIsLeft, aAround, aWhole, aIsNeeded, aWereRanks, aWaitFrom, aWaitTo, aToldAt, aRisen, aUps, aTried_6, aRoutes_4]) H locs → lv_has ls 6 [(0, .ref (q 0)), (1, .int p1), (2, .int p2), (4, .int x4_9)] → W p l e R s m args below meth c H locs 0 0 Q (F0 m 72 ls [.int y_19, .int x3_8]) := by
        intro H locs ls hG hl
        refine lv_iadd hx hb dX8_lossNow_72 ?_
        refine lv_topi (fun x3_23 ex3_23 => ?_)
        have er15 := bd_e ex3_23 er15
        refine lv_istore_n (lv' := [(3, .int x3_23), (0, .ref (q 0)), (1, .int p1), (2, .int p2), (4, .int x4_9)]) hx hb dX8_lossNow_73 rfl hl (by decide) rfl (fun ls hl => ?_)
        cases er15
        exact J15 H locs ls hG (lv_sub hl [1, 2, 3, 0, 4] rfl)
      refine lv_icmp_lt (tgt := 62) hx hb dX8_lossNow_55 (by decide) (fun cb21 => ?_) (fun cb21 => ?_)
      · have er20 := ite_t cb21 er20
        refine lv_iload hx hb dX8_lossNow_62 (lv_at hl 0 rfl) ?_
        refine lv_aload_n hx hb dX8_lossNow_64 rfl (lv_at hl 1 rfl) ?_
        refine g_get (v := .ref (q 26)) X hT hG fl_X8_86 0 rfl rfl rfl dX8_lossNow_65 ?_
        refine lv_iload hx hb dX8_lossNow_68 (lv_at hl 5 rfl) ?_
        obtain ⟨hi22, er20⟩ := ckin_some er20
        refine g_ald (f := aRoutes_4) X hT hG 26 rfl rfl hi22 dX8_lossNow_70 ?_
        refine lv_isub hx hb dX8_lossNow_71 ?_
        cases er20
        exact J20 H locs ls hG (lv_sub hl [1, 2, 3, 5] rfl)
      · have er20 := ite_f cb21 er20
        refine lv_iload_n hx hb dX8_lossNow_58 rfl (lv_at hl 3 rfl) ?_
        refine lv_goto (tgt := 72) hx hb dX8_lossNow_59 (by decide) ?_
        cases er20
        exact J20 H locs ls hG (lv_sub hl [1, 2, 3, 5] rfl)
def f8_loss (fu : Nat) (p1 : Int32) (iRoads : Int32) (iRouted : Int32) (iRouteSum : Int32) (aTried : (Nat → Int32)) (aRoutes : (Nat → Int32)) (p2 : Int32) (aCosts : (Nat → Int32)) (aLengthOf : (Nat → Int32)) (aBeginOf : (Nat → Int32)) (aEndOf : (Nat → Int32)) : Option (Int32 × Int32 × Int32 × (Nat → Int32) × (Nat → Int32)) :=
  bnd1 (f8_isRoad p1 iRoads) fun (r_1 : Int32) => if r_1 = 0 then (some ((-101), iRouted, iRouteSum, aTried, aRoutes)) else bnd1 (f8_within p2 0 999) fun (r_4 : Int32) => bnd5 (if r_4 = 0 then (some ((-102), iRouted, iRouteSum, aTried, aRoutes)) else bnd5 (f8_lossNow fu iRoads aCosts aLengthOf aTried aBeginOf aEndOf aRoutes p1 p2) fun (r_13 : Int32) (iRouted_14 : Int32) (iRouteSum_15 : Int32) (aTried_16 : (Nat → Int32)) (aRoutes_17 : (Nat → Int32)) => some (r_13, iRouted_14, iRouteSum_15, aTried_16, aRoutes_17)) fun (y_6 : Int32) (iRouted_7 : Int32) (iRouteSum_8 : Int32) (aTried_9 : (Nat → Int32)) (aRoutes_10 : (Nat → Int32)) => some (y_6, iRouted_7, iRouteSum_8, aTried_9, aRoutes_10)
set_option maxHeartbeats 4000000 in
set_option maxRecDepth 100000 in
theorem c_X8_loss (hq : gJ layM q) {fu : Nat} {p1 : Int32} {p2 : Int32} {o_r : Int32} {o_iRouted : Int32} {o_iRouteSum : Int32} {o_aTried : (Nat → Int32)} {o_aRoutes : (Nat → Int32)} (h : f8_loss fu p1 iRoads iRouted iRouteSum aTried aRoutes p2 aCosts aLengthOf aBeginOf aEndOf = some (o_r, o_iRouted, o_iRouteSum, o_aTried, o_aRoutes)) :
    GM l yX8_loss cX8_loss 3 (some .int) 4 93 D cI cZ layM q [.ref (q 0), .int p1, .int p2] ([iPageLength, iRoads, iRead, iAltered, iRanked, iStage, iFigures, iNewRoads, iTold, iRouted, iRouteSum], [jH], [aPage, aBeginOf, aEndOf, aLengthOf, aCosts, aRankOf, aRoadAt, aWorths, aMiddles, aLeasts, aBusy, aNewBegin, aNewEnd, aNewLength, aIsLeft, aAround, aWhole, aIsNeeded, aWereRanks, aWaitFrom, aWaitTo, aToldAt, aRisen, aUps, aTried, aRoutes]) (some (.int o_r)) ([iPageLength, iRoads, iRead, iAltered, iRanked, iStage, iFigures, iNewRoads, iTold, o_iRouted, o_iRouteSum], [jH], [aPage, aBeginOf, aEndOf, aLengthOf, aCosts, aRankOf, aRoadAt, aWorths, aMiddles, aLeasts, aBusy, aNewBegin, aNewEnd, aNewLength, aIsLeft, aAround, aWhole, aIsNeeded, aWereRanks, aWaitFrom, aWaitTo, aToldAt, aRisen, aUps, o_aTried, o_aRoutes]) := by
  refine GM.go RX8 (by decide) rfl (Nat.le_of_ble_eq_true rfl) ?_
  intro p e s m args below meth c ls R Q H locs X hr hlk hT hG hl hR hQ
  have hx := X.1
  have hb := X.2.1
  have hl : lv_has ls 3 [(0, .ref (q 0)), (1, .int p1), (2, .int p2)] := hl
  unfold f8_loss at h
  refine lv_aload_n hx hb dX8_loss_0 rfl (lv_at hl 0 rfl) ?_
  refine lv_iload_n hx hb dX8_loss_1 rfl (lv_at hl 1 rfl) ?_
  obtain ⟨r_1, ec2, h⟩ := bnd1_some h
  refine g_callVr [.int p1] [] 0 X hT hG ml_X8_168 (c_X8_isRoad hq ec2) rfl rfl rfl rfl rfl hl.1 (Nat.le_of_ble_eq_true rfl) (by rw [hR]; exact ⟨Nat.le_of_ble_eq_true rfl, Nat.le_of_ble_eq_true rfl⟩) dX8_loss_2 (fun H locs hG => ?_)
  refine lv_if_ne (tgt := 11) hx hb dX8_loss_5 (by decide) (fun cb3 => ?_) (fun cb3 => ?_)
  · have h := ite_f cb3 h
    refine lv_iload_n hx hb dX8_loss_11 rfl (lv_at hl 2 rfl) ?_
    refine lv_iconst (v := 0) hx hb dX8_loss_12 (by decide) ?_
    refine lv_sipush (v := 999) hx hb dX8_loss_13 (by decide) ?_
    obtain ⟨r_4, ec5, h⟩ := bnd1_some h
    refine g_callSr [.int p2, .int 0, .int 999] [] X hT hG ml_X8_89 (c_X8_within hq ec5) rfl rfl hl.1 (Nat.le_of_ble_eq_true rfl) (by rw [hR]; exact ⟨Nat.le_of_ble_eq_true rfl, Nat.le_of_ble_eq_true rfl⟩) dX8_loss_16 (fun H locs hG => ?_)
    obtain ⟨y_6, iRouted_7, iRouteSum_8, aTried_9, aRoutes_10, er11, h⟩ := bnd5_some h
    have J11 : ∀ (H : Heap) (locs : List Loc) (ls : Array Slot), GH D cI cZ layM q s ([iPageLength, iRoads, iRead, iAltered, iRanked, iStage, iFigures, iNewRoads, iTold, iRouted_7, iRouteSum_8], [jH], [aPage, aBeginOf, aEndOf, aLengthOf, aCosts, aRankOf, aRoadAt, aWorths, aMiddles, aLeasts, aBusy, aNewBegin, aNewEnd, aNewLength, aIsLeft, aAround, aWhole, aIsNeeded, aWereRanks, aWaitFrom, aWaitTo, aToldAt, aRisen, aUps, aTried_9, aRoutes_10]) H locs → lv_has ls 3 [] → W p l e R s m args below meth c H locs 0 0 Q (F0 m 33 ls [.int y_6]) := by
      intro H locs ls hG hl
      cases h
      rw [hQ]
      exact g_iret X hT hG hr hlk dX8_loss_33
    refine lv_if_eq (tgt := 31) hx hb dX8_loss_19 (by decide) (fun cb12 => ?_) (fun cb12 => ?_)
    · have er11 := ite_t cb12 er11
      refine lv_bipush (v := (-102)) hx hb dX8_loss_31 (by decide) ?_
      cases er11
      exact J11 H locs ls hG (lv_sub hl [] rfl)
    · have er11 := ite_f cb12 er11
      refine lv_aload_n hx hb dX8_loss_22 rfl (lv_at hl 0 rfl) ?_
      refine lv_iload_n hx hb dX8_loss_23 rfl (lv_at hl 1 rfl) ?_
      refine lv_iload_n hx hb dX8_loss_24 rfl (lv_at hl 2 rfl) ?_
      obtain ⟨r_13, iRouted_14, iRouteSum_15, aTried_16, aRoutes_17, ec18, er11⟩ := bnd5_some er11
      refine g_callVr [.int p1, .int p2] [] 0 X hT hG ml_X8_237 (c_X8_lossNow hq ec18) rfl rfl rfl rfl rfl hl.1 (Nat.le_of_ble_eq_true rfl) (by rw [hR]; exact ⟨Nat.le_of_ble_eq_true rfl, Nat.le_of_ble_eq_true rfl⟩) dX8_loss_25 (fun H locs hG => ?_)
      have hG : GH D cI cZ layM q s ([iPageLength, iRoads, iRead, iAltered, iRanked, iStage, iFigures, iNewRoads, iTold, iRouted_14, iRouteSum_15], [jH], [aPage, aBeginOf, aEndOf, aLengthOf, aCosts, aRankOf, aRoadAt, aWorths, aMiddles, aLeasts, aBusy, aNewBegin, aNewEnd, aNewLength, aIsLeft, aAround, aWhole, aIsNeeded, aWereRanks, aWaitFrom, aWaitTo, aToldAt, aRisen, aUps, aTried_16, aRoutes_17]) H locs := hG
      refine lv_goto (tgt := 33) hx hb dX8_loss_28 (by decide) ?_
      cases er11
      exact J11 H locs ls hG (lv_sub hl [] rfl)
  · have h := ite_t cb3 h
    refine lv_bipush (v := (-101)) hx hb dX8_loss_8 (by decide) ?_
    cases h
    rw [hQ]
    exact g_iret X hT hG hr hlk dX8_loss_10
def f8_busiest_b1 (iRoads : Int32) (aBusy : (Nat → Int32)) (x1_1 : Int32) (x2_2 : Int32) : Option ((Int32 × Int32) ⊕ (Int32)) :=
  if iRoads ≤ x2_2 then (some (.inr x1_1)) else bnd1 (if x1_1 = (-1) then (some x2_2) else ckin x2_2 12 (ckin x1_1 12 (if (aBusy x2_2.toNatClampNeg) ≤ (aBusy x1_1.toNatClampNeg) then (some x1_1) else some x2_2))) fun (y_6 : Int32) => bd (x2_2 + 1) fun x2_12 => some (.inl (y_6, x2_12))
def f8_busiest (fu : Nat) (iRoads : Int32) (aBusy : (Nat → Int32)) : Option (Int32) :=
  bnd1 (lpG (fun z => f8_busiest_b1 iRoads aBusy z.1 z.2) fu (((-1) : Int32), (0 : Int32))) fun (x1_3 : Int32) => some x1_3
set_option maxHeartbeats 4000000 in
set_option maxRecDepth 100000 in
theorem c_X8_busiest (hq : gJ layM q) {fu : Nat} {o_r : Int32} (h : f8_busiest fu iRoads aBusy = some o_r) :
    GM l yX8_busiest cX8_busiest 3 (some .int) 0 0 D cI cZ layM q [.ref (q 0)] ([iPageLength, iRoads, iRead, iAltered, iRanked, iStage, iFigures, iNewRoads, iTold, iRouted, iRouteSum], [jH], [aPage, aBeginOf, aEndOf, aLengthOf, aCosts, aRankOf, aRoadAt, aWorths, aMiddles, aLeasts, aBusy, aNewBegin, aNewEnd, aNewLength, aIsLeft, aAround, aWhole, aIsNeeded, aWereRanks, aWaitFrom, aWaitTo, aToldAt, aRisen, aUps, aTried, aRoutes]) (some (.int o_r)) ([iPageLength, iRoads, iRead, iAltered, iRanked, iStage, iFigures, iNewRoads, iTold, iRouted, iRouteSum], [jH], [aPage, aBeginOf, aEndOf, aLengthOf, aCosts, aRankOf, aRoadAt, aWorths, aMiddles, aLeasts, aBusy, aNewBegin, aNewEnd, aNewLength, aIsLeft, aAround, aWhole, aIsNeeded, aWereRanks, aWaitFrom, aWaitTo, aToldAt, aRisen, aUps, aTried, aRoutes]) := by
  refine GM.go RX8 (by decide) rfl (Nat.le_of_ble_eq_true rfl) ?_
  intro p e s m args below meth c ls R Q H locs X hr hlk hT hG hl hR hQ
  have hx := X.1
  have hb := X.2.1
  have hl : lv_has ls 3 [(0, .ref (q 0))] := hl
  unfold f8_busiest at h
  refine lv_iconst (v := (-1)) hx hb dX8_busiest_0 (by decide) ?_
  refine lv_istore_n (lv' := [(1, .int (-1)), (0, .ref (q 0))]) hx hb dX8_busiest_1 rfl hl (by decide) rfl (fun ls hl => ?_)
  refine lv_iconst (v := 0) hx hb dX8_busiest_2 (by decide) ?_
  refine lv_istore_n (lv' := [(2, .int 0), (1, .int (-1)), (0, .ref (q 0))]) hx hb dX8_busiest_3 rfl hl (by decide) rfl (fun ls hl => ?_)
  obtain ⟨x1_3, eL4, h⟩ := bnd1_some h
  have JX4 : ∀ (H : Heap) (locs : List Loc) (ls : Array Slot), GH D cI cZ layM q s ([iPageLength, iRoads, iRead, iAltered, iRanked, iStage, iFigures, iNewRoads, iTold, iRouted, iRouteSum], [jH], [aPage, aBeginOf, aEndOf, aLengthOf, aCosts, aRankOf, aRoadAt, aWorths, aMiddles, aLeasts, aBusy, aNewBegin, aNewEnd, aNewLength, aIsLeft, aAround, aWhole, aIsNeeded, aWereRanks, aWaitFrom, aWaitTo, aToldAt, aRisen, aUps, aTried, aRoutes]) H locs → lv_has ls 3 [(1, .int x1_3)] → W p l e R s m args below meth c H locs 0 0 Q (F0 m 44 ls []) := by
    intro H locs ls hG hl
    refine lv_iload_n hx hb dX8_busiest_44 rfl (lv_at hl 0 rfl) ?_
    cases h
    rw [hQ]
    exact g_iret X hT hG hr hlk dX8_busiest_45
  refine lpG_W (Wh := fun z => ∀ (H : Heap) (locs : List Loc) (ls : Array Slot), GH D cI cZ layM q s ([iPageLength, iRoads, iRead, iAltered, iRanked, iStage, iFigures, iNewRoads, iTold, iRouted, iRouteSum], [jH], [aPage, aBeginOf, aEndOf, aLengthOf, aCosts, aRankOf, aRoadAt, aWorths, aMiddles, aLeasts, aBusy, aNewBegin, aNewEnd, aNewLength, aIsLeft, aAround, aWhole, aIsNeeded, aWereRanks, aWaitFrom, aWaitTo, aToldAt, aRisen, aUps, aTried, aRoutes]) H locs → lv_has ls 3 [(0, .ref (q 0)), (1, .int (z.1)), (2, .int (z.2))] → W p l e R s m args below meth c H locs 0 0 Q (F0 m 4 ls [])) ?_ fu _ eL4 H locs ls hG (lv_sub hl [2, 1, 0] rfl)
  intro z rr4 hb4 hin4 hout4
  obtain ⟨x1_1, x2_2⟩ := z
  intro H locs ls hG hl
  have hb4 : f8_busiest_b1 iRoads aBusy x1_1 x2_2 = some rr4 := hb4
  have hG : GH D cI cZ layM q s ([iPageLength, iRoads, iRead, iAltered, iRanked, iStage, iFigures, iNewRoads, iTold, iRouted, iRouteSum], [jH], [aPage, aBeginOf, aEndOf, aLengthOf, aCosts, aRankOf, aRoadAt, aWorths, aMiddles, aLeasts, aBusy, aNewBegin, aNewEnd, aNewLength, aIsLeft, aAround, aWhole, aIsNeeded, aWereRanks, aWaitFrom, aWaitTo, aToldAt, aRisen, aUps, aTried, aRoutes]) H locs := hG
  have hl : lv_has ls 3 [(0, .ref (q 0)), (1, .int x1_1), (2, .int x2_2)] := hl
  unfold f8_busiest_b1 at hb4
  refine lv_iload_n hx hb dX8_busiest_4 rfl (lv_at hl 2 rfl) ?_
  refine lv_aload_n hx hb dX8_busiest_5 rfl (lv_at hl 0 rfl) ?_
  refine g_get (v := .int iRoads) X hT hG fl_X8_120 0 rfl rfl rfl dX8_busiest_6 ?_
  refine lv_icmp_ge (tgt := 44) hx hb dX8_busiest_9 (by decide) (fun cb5 => ?_) (fun cb5 => ?_)
  · have hb4 := ite_t cb5 hb4
    have eo := hout4 _ (Option.some.inj hb4).symm
    cases eo
    exact JX4 H locs ls hG (lv_sub hl [1] rfl)
  · have hb4 := ite_f cb5 hb4
    refine lv_iload_n hx hb dX8_busiest_12 rfl (lv_at hl 1 rfl) ?_
    refine lv_iconst (v := (-1)) hx hb dX8_busiest_13 (by decide) ?_
    obtain ⟨y_6, er7, hb4⟩ := bnd1_some hb4
    have J7 : ∀ (H : Heap) (locs : List Loc) (ls : Array Slot), GH D cI cZ layM q s ([iPageLength, iRoads, iRead, iAltered, iRanked, iStage, iFigures, iNewRoads, iTold, iRouted, iRouteSum], [jH], [aPage, aBeginOf, aEndOf, aLengthOf, aCosts, aRankOf, aRoadAt, aWorths, aMiddles, aLeasts, aBusy, aNewBegin, aNewEnd, aNewLength, aIsLeft, aAround, aWhole, aIsNeeded, aWereRanks, aWaitFrom, aWaitTo, aToldAt, aRisen, aUps, aTried, aRoutes]) H locs → lv_has ls 3 [(0, .ref (q 0)), (2, .int x2_2)] → W p l e R s m args below meth c H locs 0 0 Q (F0 m 37 ls [.int y_6]) := by
      intro H locs ls hG hl
      refine lv_istore_n (lv' := [(1, .int y_6), (0, .ref (q 0)), (2, .int x2_2)]) hx hb dX8_busiest_37 rfl hl (by decide) rfl (fun ls hl => ?_)
      obtain ⟨x2_12, ex2_12⟩ : ∃ z : Int32, z = x2_2 + 1 := ⟨_, rfl⟩
      have hb4 := bd_e ex2_12 hb4
      refine lv_iinc (v := x2_12) (lv' := [(2, .int x2_12), (1, .int y_6), (0, .ref (q 0))]) hx hb dX8_busiest_38 hl (k := 2) rfl (by rw [ex2_12]; rfl) (by decide) rfl (fun ls hl => ?_)
      refine lv_goto (tgt := 4) hx hb dX8_busiest_41 (by decide) ?_
      exact hin4 _ (Option.some.inj hb4).symm H locs ls hG (lv_sub hl [2, 1, 0] rfl)
    refine lv_icmp_eq (tgt := 32) hx hb dX8_busiest_14 (by decide) (fun cb8 => ?_) (fun cb8 => ?_)
    · have er7 := ite_t cb8 er7
      refine lv_iload_n hx hb dX8_busiest_32 rfl (lv_at hl 2 rfl) ?_
      refine lv_goto (tgt := 37) hx hb dX8_busiest_33 (by decide) ?_
      cases er7
      exact J7 H locs ls hG (lv_sub hl [0, 2] rfl)
    · have er7 := ite_f cb8 er7
      refine lv_aload_n hx hb dX8_busiest_17 rfl (lv_at hl 0 rfl) ?_
      refine g_get (v := .ref (q 11)) X hT hG fl_X8_40 0 rfl rfl rfl dX8_busiest_18 ?_
      refine lv_iload_n hx hb dX8_busiest_21 rfl (lv_at hl 2 rfl) ?_
      obtain ⟨hi9, er7⟩ := ckin_some er7
      refine g_ald (f := aBusy) X hT hG 11 rfl rfl hi9 dX8_busiest_22 ?_
      refine lv_aload_n hx hb dX8_busiest_23 rfl (lv_at hl 0 rfl) ?_
      refine g_get (v := .ref (q 11)) X hT hG fl_X8_40 0 rfl rfl rfl dX8_busiest_24 ?_
      refine lv_iload_n hx hb dX8_busiest_27 rfl (lv_at hl 1 rfl) ?_
      obtain ⟨hi10, er7⟩ := ckin_some er7
      refine g_ald (f := aBusy) X hT hG 11 rfl rfl hi10 dX8_busiest_28 ?_
      refine lv_icmp_le (tgt := 36) hx hb dX8_busiest_29 (by decide) (fun cb11 => ?_) (fun cb11 => ?_)
      · have er7 := ite_t cb11 er7
        refine lv_iload_n hx hb dX8_busiest_36 rfl (lv_at hl 1 rfl) ?_
        cases er7
        exact J7 H locs ls hG (lv_sub hl [0, 2] rfl)
      · have er7 := ite_f cb11 er7
        refine lv_iload_n hx hb dX8_busiest_32 rfl (lv_at hl 2 rfl) ?_
        refine lv_goto (tgt := 37) hx hb dX8_busiest_33 (by decide) ?_
        cases er7
        exact J7 H locs ls hG (lv_sub hl [0, 2] rfl)
def f8_arcsAll_k1 : Option (Int32) :=
  some 1
def f8_arcsAll_b1 (iRoads : Int32) (aWorths : (Nat → Int32)) (p1 : Int32) (aMiddles : (Nat → Int32)) (x2_1 : Int32) (x3_2 : Int32) : Option ((Int32 × Int32) ⊕ (Int32)) :=
  if (iRoads * iRoads) ≤ x3_2 then (some (.inr x2_1)) else ckz iRoads (ckz iRoads (bd (((12 * (x3_2 / iRoads)) + (x3_2 - x3_2 / iRoads * iRoads))) fun x4_8 => ckin x4_8 144 (bnd1 (if 268435456 ≤ (aWorths x4_8.toNatClampNeg) then (some 0) else if p1 = 0 then (f8_arcsAll_k1) else ckin x4_8 144 (if (aMiddles x4_8.toNatClampNeg) = (-1) then (some 0) else f8_arcsAll_k1)) fun (y_10 : Int32) => bd ((x2_1 + y_10)) fun x2_17 => bd (x3_2 + 1) fun x3_18 => some (.inl (x2_17, x3_18)))))
def f8_arcsAll (fu : Nat) (iRoads : Int32) (aWorths : (Nat → Int32)) (p1 : Int32) (aMiddles : (Nat → Int32)) : Option (Int32) :=
  bnd1 (lpG (fun z => f8_arcsAll_b1 iRoads aWorths p1 aMiddles z.1 z.2) fu ((0 : Int32), (0 : Int32))) fun (x2_3 : Int32) => some x2_3
set_option maxHeartbeats 4000000 in
set_option maxRecDepth 100000 in
theorem c_X8_arcsAll (hq : gJ layM q) {fu : Nat} {p1 : Int32} {o_r : Int32} (h : f8_arcsAll fu iRoads aWorths p1 aMiddles = some o_r) :
    GM l yX8_arcsAll cX8_arcsAll 5 (some .int) 0 0 D cI cZ layM q [.ref (q 0), .int p1] ([iPageLength, iRoads, iRead, iAltered, iRanked, iStage, iFigures, iNewRoads, iTold, iRouted, iRouteSum], [jH], [aPage, aBeginOf, aEndOf, aLengthOf, aCosts, aRankOf, aRoadAt, aWorths, aMiddles, aLeasts, aBusy, aNewBegin, aNewEnd, aNewLength, aIsLeft, aAround, aWhole, aIsNeeded, aWereRanks, aWaitFrom, aWaitTo, aToldAt, aRisen, aUps, aTried, aRoutes]) (some (.int o_r)) ([iPageLength, iRoads, iRead, iAltered, iRanked, iStage, iFigures, iNewRoads, iTold, iRouted, iRouteSum], [jH], [aPage, aBeginOf, aEndOf, aLengthOf, aCosts, aRankOf, aRoadAt, aWorths, aMiddles, aLeasts, aBusy, aNewBegin, aNewEnd, aNewLength, aIsLeft, aAround, aWhole, aIsNeeded, aWereRanks, aWaitFrom, aWaitTo, aToldAt, aRisen, aUps, aTried, aRoutes]) := by
  refine GM.go RX8 (by decide) rfl (Nat.le_of_ble_eq_true rfl) ?_
  intro p e s m args below meth c ls R Q H locs X hr hlk hT hG hl hR hQ
  have hx := X.1
  have hb := X.2.1
  have hl : lv_has ls 5 [(0, .ref (q 0)), (1, .int p1)] := hl
  unfold f8_arcsAll at h
  refine lv_iconst (v := 0) hx hb dX8_arcsAll_0 (by decide) ?_
  refine lv_istore_n (lv' := [(2, .int 0), (0, .ref (q 0)), (1, .int p1)]) hx hb dX8_arcsAll_1 rfl hl (by decide) rfl (fun ls hl => ?_)
  refine lv_iconst (v := 0) hx hb dX8_arcsAll_2 (by decide) ?_
  refine lv_istore_n (lv' := [(3, .int 0), (2, .int 0), (0, .ref (q 0)), (1, .int p1)]) hx hb dX8_arcsAll_3 rfl hl (by decide) rfl (fun ls hl => ?_)
  obtain ⟨x2_3, eL4, h⟩ := bnd1_some h
  have JX4 : ∀ (H : Heap) (locs : List Loc) (ls : Array Slot), GH D cI cZ layM q s ([iPageLength, iRoads, iRead, iAltered, iRanked, iStage, iFigures, iNewRoads, iTold, iRouted, iRouteSum], [jH], [aPage, aBeginOf, aEndOf, aLengthOf, aCosts, aRankOf, aRoadAt, aWorths, aMiddles, aLeasts, aBusy, aNewBegin, aNewEnd, aNewLength, aIsLeft, aAround, aWhole, aIsNeeded, aWereRanks, aWaitFrom, aWaitTo, aToldAt, aRisen, aUps, aTried, aRoutes]) H locs → lv_has ls 5 [(2, .int x2_3)] → W p l e R s m args below meth c H locs 0 0 Q (F0 m 76 ls []) := by
    intro H locs ls hG hl
    refine lv_iload_n hx hb dX8_arcsAll_76 rfl (lv_at hl 0 rfl) ?_
    cases h
    rw [hQ]
    exact g_iret X hT hG hr hlk dX8_arcsAll_77
  refine lpG_W (Wh := fun z => ∀ (H : Heap) (locs : List Loc) (ls : Array Slot), GH D cI cZ layM q s ([iPageLength, iRoads, iRead, iAltered, iRanked, iStage, iFigures, iNewRoads, iTold, iRouted, iRouteSum], [jH], [aPage, aBeginOf, aEndOf, aLengthOf, aCosts, aRankOf, aRoadAt, aWorths, aMiddles, aLeasts, aBusy, aNewBegin, aNewEnd, aNewLength, aIsLeft, aAround, aWhole, aIsNeeded, aWereRanks, aWaitFrom, aWaitTo, aToldAt, aRisen, aUps, aTried, aRoutes]) H locs → lv_has ls 5 [(0, .ref (q 0)), (1, .int p1), (2, .int (z.1)), (3, .int (z.2))] → W p l e R s m args below meth c H locs 0 0 Q (F0 m 4 ls [])) ?_ fu _ eL4 H locs ls hG (lv_sub hl [2, 3, 1, 0] rfl)
  intro z rr4 hb4 hin4 hout4
  obtain ⟨x2_1, x3_2⟩ := z
  intro H locs ls hG hl
  have hb4 : f8_arcsAll_b1 iRoads aWorths p1 aMiddles x2_1 x3_2 = some rr4 := hb4
  have hG : GH D cI cZ layM q s ([iPageLength, iRoads, iRead, iAltered, iRanked, iStage, iFigures, iNewRoads, iTold, iRouted, iRouteSum], [jH], [aPage, aBeginOf, aEndOf, aLengthOf, aCosts, aRankOf, aRoadAt, aWorths, aMiddles, aLeasts, aBusy, aNewBegin, aNewEnd, aNewLength, aIsLeft, aAround, aWhole, aIsNeeded, aWereRanks, aWaitFrom, aWaitTo, aToldAt, aRisen, aUps, aTried, aRoutes]) H locs := hG
  have hl : lv_has ls 5 [(0, .ref (q 0)), (1, .int p1), (2, .int x2_1), (3, .int x3_2)] := hl
  unfold f8_arcsAll_b1 at hb4
  refine lv_iload_n hx hb dX8_arcsAll_4 rfl (lv_at hl 3 rfl) ?_
  refine lv_aload_n hx hb dX8_arcsAll_5 rfl (lv_at hl 0 rfl) ?_
  refine g_get (v := .int iRoads) X hT hG fl_X8_120 0 rfl rfl rfl dX8_arcsAll_6 ?_
  refine lv_aload_n hx hb dX8_arcsAll_9 rfl (lv_at hl 0 rfl) ?_
  refine g_get (v := .int iRoads) X hT hG fl_X8_120 0 rfl rfl rfl dX8_arcsAll_10 ?_
  refine lv_imul hx hb dX8_arcsAll_13 ?_
  refine lv_icmp_ge (tgt := 76) hx hb dX8_arcsAll_14 (by decide) (fun cb5 => ?_) (fun cb5 => ?_)
  · have hb4 := ite_t cb5 hb4
    have eo := hout4 _ (Option.some.inj hb4).symm
    cases eo
    exact JX4 H locs ls hG (lv_sub hl [2] rfl)
  · have hb4 := ite_f cb5 hb4
    refine lv_bipush (v := 12) hx hb dX8_arcsAll_17 (by decide) ?_
    refine lv_iload_n hx hb dX8_arcsAll_19 rfl (lv_at hl 3 rfl) ?_
    refine lv_aload_n hx hb dX8_arcsAll_20 rfl (lv_at hl 0 rfl) ?_
    refine g_get (v := .int iRoads) X hT hG fl_X8_120 0 rfl rfl rfl dX8_arcsAll_21 ?_
    obtain ⟨hz6, hb4⟩ := ckz_some hb4
    refine lv_idiv hx hb dX8_arcsAll_24 hz6 ?_
    refine lv_imul hx hb dX8_arcsAll_25 ?_
    refine lv_iload_n hx hb dX8_arcsAll_26 rfl (lv_at hl 3 rfl) ?_
    refine lv_aload_n hx hb dX8_arcsAll_27 rfl (lv_at hl 0 rfl) ?_
    refine g_get (v := .int iRoads) X hT hG fl_X8_120 0 rfl rfl rfl dX8_arcsAll_28 ?_
    obtain ⟨hz7, hb4⟩ := ckz_some hb4
    refine lv_irem hx hb dX8_arcsAll_31 hz7 ?_
    refine lv_iadd hx hb dX8_arcsAll_32 ?_
    refine lv_topi (fun x4_8 ex4_8 => ?_)
    have hb4 := bd_e ex4_8 hb4
    refine lv_istore (lv' := [(4, .int x4_8), (0, .ref (q 0)), (1, .int p1), (2, .int x2_1), (3, .int x3_2)]) hx hb dX8_arcsAll_33 hl (by decide) rfl (fun ls hl => ?_)
    refine lv_iload_n hx hb dX8_arcsAll_35 rfl (lv_at hl 3 rfl) ?_
    refine lv_aload_n hx hb dX8_arcsAll_36 rfl (lv_at hl 1 rfl) ?_
    refine g_get (v := .ref (q 8)) X hT hG fl_X8_31 0 rfl rfl rfl dX8_arcsAll_37 ?_
    refine lv_iload hx hb dX8_arcsAll_40 (lv_at hl 0 rfl) ?_
    obtain ⟨hi9, hb4⟩ := ckin_some hb4
    refine g_ald (f := aWorths) X hT hG 8 rfl rfl hi9 dX8_arcsAll_42 ?_
    refine lv_ldc (v := 268435456) hx hb X.2.2.2.1 (X.2.2.2.2 _ cn_X8_136) dX8_arcsAll_43 ?_
    obtain ⟨y_10, er11, hb4⟩ := bnd1_some hb4
    have J11 : ∀ (H : Heap) (locs : List Loc) (ls : Array Slot), GH D cI cZ layM q s ([iPageLength, iRoads, iRead, iAltered, iRanked, iStage, iFigures, iNewRoads, iTold, iRouted, iRouteSum], [jH], [aPage, aBeginOf, aEndOf, aLengthOf, aCosts, aRankOf, aRoadAt, aWorths, aMiddles, aLeasts, aBusy, aNewBegin, aNewEnd, aNewLength, aIsLeft, aAround, aWhole, aIsNeeded, aWereRanks, aWaitFrom, aWaitTo, aToldAt, aRisen, aUps, aTried, aRoutes]) H locs → lv_has ls 5 [(0, .ref (q 0)), (1, .int p1), (3, .int x3_2)] → W p l e R s m args below meth c H locs 0 0 Q (F0 m 68 ls [.int y_10, .int x2_1]) := by
      intro H locs ls hG hl
      refine lv_iadd hx hb dX8_arcsAll_68 ?_
      refine lv_topi (fun x2_17 ex2_17 => ?_)
      have hb4 := bd_e ex2_17 hb4
      refine lv_istore_n (lv' := [(2, .int x2_17), (0, .ref (q 0)), (1, .int p1), (3, .int x3_2)]) hx hb dX8_arcsAll_69 rfl hl (by decide) rfl (fun ls hl => ?_)
      obtain ⟨x3_18, ex3_18⟩ : ∃ z : Int32, z = x3_2 + 1 := ⟨_, rfl⟩
      have hb4 := bd_e ex3_18 hb4
      refine lv_iinc (v := x3_18) (lv' := [(3, .int x3_18), (2, .int x2_17), (0, .ref (q 0)), (1, .int p1)]) hx hb dX8_arcsAll_70 hl (k := 3) rfl (by rw [ex3_18]; rfl) (by decide) rfl (fun ls hl => ?_)
      refine lv_goto (tgt := 4) hx hb dX8_arcsAll_73 (by decide) ?_
      exact hin4 _ (Option.some.inj hb4).symm H locs ls hG (lv_sub hl [2, 3, 1, 0] rfl)
    refine lv_icmp_ge (tgt := 67) hx hb dX8_arcsAll_45 (by decide) (fun cb12 => ?_) (fun cb12 => ?_)
    · have er11 := ite_t cb12 er11
      refine lv_iconst (v := 0) hx hb dX8_arcsAll_67 (by decide) ?_
      cases er11
      exact J11 H locs ls hG (lv_sub hl [1, 2, 4] rfl)
    · have er11 := ite_f cb12 er11
      refine lv_iload_n hx hb dX8_arcsAll_48 rfl (lv_at hl 2 rfl) ?_
      have K13 : ∀ (H : Heap) (locs : List Loc) (ls : Array Slot), GH D cI cZ layM q s ([iPageLength, iRoads, iRead, iAltered, iRanked, iStage, iFigures, iNewRoads, iTold, iRouted, iRouteSum], [jH], [aPage, aBeginOf, aEndOf, aLengthOf, aCosts, aRankOf, aRoadAt, aWorths, aMiddles, aLeasts, aBusy, aNewBegin, aNewEnd, aNewLength, aIsLeft, aAround, aWhole, aIsNeeded, aWereRanks, aWaitFrom, aWaitTo, aToldAt, aRisen, aUps, aTried, aRoutes]) H locs → lv_has ls 5 [(0, .ref (q 0)), (1, .int p1), (3, .int x3_2)] → f8_arcsAll_k1 = some y_10 → W p l e R s m args below meth c H locs 0 0 Q (F0 m 63 ls [.int x2_1]) := by
        intro H locs ls hG hl hk13
        unfold f8_arcsAll_k1 at hk13
        refine lv_iconst (v := 1) hx hb dX8_arcsAll_63 (by decide) ?_
        refine lv_goto (tgt := 68) hx hb dX8_arcsAll_64 (by decide) ?_
        cases hk13
        exact J11 H locs ls hG (lv_sub hl [0, 1, 2] rfl)
      refine lv_if_eq (tgt := 63) hx hb dX8_arcsAll_49 (by decide) (fun cb14 => ?_) (fun cb14 => ?_)
      · have er11 := ite_t cb14 er11
        exact K13 H locs ls hG (lv_sub hl [1, 2, 4] rfl) er11
      · have er11 := ite_f cb14 er11
        refine lv_aload_n hx hb dX8_arcsAll_52 rfl (lv_at hl 1 rfl) ?_
        refine g_get (v := .ref (q 9)) X hT hG fl_X8_34 0 rfl rfl rfl dX8_arcsAll_53 ?_
        refine lv_iload hx hb dX8_arcsAll_56 (lv_at hl 0 rfl) ?_
        obtain ⟨hi15, er11⟩ := ckin_some er11
        refine g_ald (f := aMiddles) X hT hG 9 rfl rfl hi15 dX8_arcsAll_58 ?_
        refine lv_iconst (v := (-1)) hx hb dX8_arcsAll_59 (by decide) ?_
        refine lv_icmp_eq (tgt := 67) hx hb dX8_arcsAll_60 (by decide) (fun cb16 => ?_) (fun cb16 => ?_)
        · have er11 := ite_t cb16 er11
          refine lv_iconst (v := 0) hx hb dX8_arcsAll_67 (by decide) ?_
          cases er11
          exact J11 H locs ls hG (lv_sub hl [1, 2, 4] rfl)
        · have er11 := ite_f cb16 er11
          exact K13 H locs ls hG (lv_sub hl [1, 2, 4] rfl) er11
def f8_allNow (fu : Nat) (iRoads : Int32) (aCosts : (Nat → Int32)) (aLengthOf : (Nat → Int32)) (aTried : (Nat → Int32)) (aBeginOf : (Nat → Int32)) (aEndOf : (Nat → Int32)) (aRoutes : (Nat → Int32)) (p1 : Int32) (aBusy : (Nat → Int32)) (aWorths : (Nat → Int32)) (aMiddles : (Nat → Int32)) : Option (Int32 × Int32 × Int32 × (Nat → Int32) × (Nat → Int32)) :=
  bnd4 (f8_layRoutes fu iRoads aCosts aLengthOf aTried aBeginOf aEndOf aRoutes) fun (iRouted_1 : Int32) (iRouteSum_2 : Int32) (aTried_3 : (Nat → Int32)) (aRoutes_4 : (Nat → Int32)) => if p1 = 0 then (bnd1 (f8_busiest fu iRoads aBusy) fun (r_7 : Int32) => some (r_7, iRouted_1, iRouteSum_2, aTried_3, aRoutes_4)) else if p1 = 1 then (bnd1 (if iRoads = 0 then (some 0) else bnd1 (f8_busiest fu iRoads aBusy) fun (r_13 : Int32) => ckin r_13 12 (some (aBusy r_13.toNatClampNeg))) fun (y_10 : Int32) => some (y_10, iRouted_1, iRouteSum_2, aTried_3, aRoutes_4)) else if p1 = 2 then (bnd1 (f8_arcsAll fu iRoads aWorths 0 aMiddles) fun (r_17 : Int32) => some (r_17, iRouted_1, iRouteSum_2, aTried_3, aRoutes_4)) else if p1 = 3 then (bnd1 (f8_arcsAll fu iRoads aWorths 1 aMiddles) fun (r_20 : Int32) => some (r_20, iRouted_1, iRouteSum_2, aTried_3, aRoutes_4)) else if p1 = 4 then (some (iRouted_1, iRouted_1, iRouteSum_2, aTried_3, aRoutes_4)) else some (iRouteSum_2, iRouted_1, iRouteSum_2, aTried_3, aRoutes_4)
set_option maxHeartbeats 4000000 in
set_option maxRecDepth 100000 in
theorem c_X8_allNow (hq : gJ layM q) {fu : Nat} {p1 : Int32} {o_r : Int32} {o_iRouted : Int32} {o_iRouteSum : Int32} {o_aTried : (Nat → Int32)} {o_aRoutes : (Nat → Int32)} (h : f8_allNow fu iRoads aCosts aLengthOf aTried aBeginOf aEndOf aRoutes p1 aBusy aWorths aMiddles = some (o_r, o_iRouted, o_iRouteSum, o_aTried, o_aRoutes)) :
    GM l yX8_allNow cX8_allNow 2 (some .int) 3 68 D cI cZ layM q [.ref (q 0), .int p1] ([iPageLength, iRoads, iRead, iAltered, iRanked, iStage, iFigures, iNewRoads, iTold, iRouted, iRouteSum], [jH], [aPage, aBeginOf, aEndOf, aLengthOf, aCosts, aRankOf, aRoadAt, aWorths, aMiddles, aLeasts, aBusy, aNewBegin, aNewEnd, aNewLength, aIsLeft, aAround, aWhole, aIsNeeded, aWereRanks, aWaitFrom, aWaitTo, aToldAt, aRisen, aUps, aTried, aRoutes]) (some (.int o_r)) ([iPageLength, iRoads, iRead, iAltered, iRanked, iStage, iFigures, iNewRoads, iTold, o_iRouted, o_iRouteSum], [jH], [aPage, aBeginOf, aEndOf, aLengthOf, aCosts, aRankOf, aRoadAt, aWorths, aMiddles, aLeasts, aBusy, aNewBegin, aNewEnd, aNewLength, aIsLeft, aAround, aWhole, aIsNeeded, aWereRanks, aWaitFrom, aWaitTo, aToldAt, aRisen, aUps, o_aTried, o_aRoutes]) := by
  refine GM.go RX8 (by decide) rfl (Nat.le_of_ble_eq_true rfl) ?_
  intro p e s m args below meth c ls R Q H locs X hr hlk hT hG hl hR hQ
  have hx := X.1
  have hb := X.2.1
  have hl : lv_has ls 2 [(0, .ref (q 0)), (1, .int p1)] := hl
  unfold f8_allNow at h
  refine lv_aload_n hx hb dX8_allNow_0 rfl (lv_at hl 0 rfl) ?_
  obtain ⟨iRouted_1, iRouteSum_2, aTried_3, aRoutes_4, ec5, h⟩ := bnd4_some h
  refine g_callVv [] [] 0 X hT hG ml_X8_234 (c_X8_layRoutes hq ec5) rfl rfl rfl rfl rfl hl.1 (Nat.le_of_ble_eq_true rfl) (by rw [hR]; exact ⟨Nat.le_of_ble_eq_true rfl, Nat.le_of_ble_eq_true rfl⟩) dX8_allNow_1 (fun H locs hG => ?_)
  have hG : GH D cI cZ layM q s ([iPageLength, iRoads, iRead, iAltered, iRanked, iStage, iFigures, iNewRoads, iTold, iRouted_1, iRouteSum_2], [jH], [aPage, aBeginOf, aEndOf, aLengthOf, aCosts, aRankOf, aRoadAt, aWorths, aMiddles, aLeasts, aBusy, aNewBegin, aNewEnd, aNewLength, aIsLeft, aAround, aWhole, aIsNeeded, aWereRanks, aWaitFrom, aWaitTo, aToldAt, aRisen, aUps, aTried_3, aRoutes_4]) H locs := hG
  refine lv_iload_n hx hb dX8_allNow_4 rfl (lv_at hl 1 rfl) ?_
  by_cases cs6 : p1 = 0
  · have h := ite_t cs6 h
    refine g_eqi cs6 ?_
    refine lv_tableIn (x := 0) hx hb dX8_allNow_5 (by decide) (by decide) (off := 35) rfl (tgt := 40) (by decide) ?_
    refine lv_aload_n hx hb dX8_allNow_40 rfl (lv_at hl 0 rfl) ?_
    obtain ⟨r_7, ec8, h⟩ := bnd1_some h
    refine g_callVr [] [] 0 X hT hG ml_X8_240 (c_X8_busiest hq ec8) rfl rfl rfl rfl rfl hl.1 (Nat.le_of_ble_eq_true rfl) (by rw [hR]; exact ⟨Nat.le_of_ble_eq_true rfl, Nat.le_of_ble_eq_true rfl⟩) dX8_allNow_41 (fun H locs hG => ?_)
    cases h
    rw [hQ]
    exact g_iret X hT hG hr hlk dX8_allNow_44
  · have h := ite_f cs6 h
    by_cases cs9 : p1 = 1
    · have h := ite_t cs9 h
      refine g_eqi cs9 ?_
      refine lv_tableIn (x := 1) hx hb dX8_allNow_5 (by decide) (by decide) (off := 40) rfl (tgt := 45) (by decide) ?_
      refine lv_aload_n hx hb dX8_allNow_45 rfl (lv_at hl 0 rfl) ?_
      refine g_get (v := .int iRoads) X hT hG fl_X8_120 0 rfl rfl rfl dX8_allNow_46 ?_
      obtain ⟨y_10, er11, h⟩ := bnd1_some h
      have J11 : ∀ (H : Heap) (locs : List Loc) (ls : Array Slot), GH D cI cZ layM q s ([iPageLength, iRoads, iRead, iAltered, iRanked, iStage, iFigures, iNewRoads, iTold, iRouted_1, iRouteSum_2], [jH], [aPage, aBeginOf, aEndOf, aLengthOf, aCosts, aRankOf, aRoadAt, aWorths, aMiddles, aLeasts, aBusy, aNewBegin, aNewEnd, aNewLength, aIsLeft, aAround, aWhole, aIsNeeded, aWereRanks, aWaitFrom, aWaitTo, aToldAt, aRisen, aUps, aTried_3, aRoutes_4]) H locs → lv_has ls 2 [] → W p l e R s m args below meth c H locs 0 0 Q (F0 m 65 ls [.int y_10]) := by
        intro H locs ls hG hl
        cases h
        rw [hQ]
        exact g_iret X hT hG hr hlk dX8_allNow_65
      refine lv_if_ne (tgt := 56) hx hb dX8_allNow_49 (by decide) (fun cb12 => ?_) (fun cb12 => ?_)
      · have er11 := ite_f cb12 er11
        refine lv_aload_n hx hb dX8_allNow_56 rfl (lv_at hl 0 rfl) ?_
        refine g_get (v := .ref (q 11)) X hT hG fl_X8_40 0 rfl rfl rfl dX8_allNow_57 ?_
        refine lv_aload_n hx hb dX8_allNow_60 rfl (lv_at hl 0 rfl) ?_
        obtain ⟨r_13, ec14, er11⟩ := bnd1_some er11
        refine g_callVr [] [.ref (q 11)] 0 X hT hG ml_X8_240 (c_X8_busiest hq ec14) rfl rfl rfl rfl rfl hl.1 (Nat.le_of_ble_eq_true rfl) (by rw [hR]; exact ⟨Nat.le_of_ble_eq_true rfl, Nat.le_of_ble_eq_true rfl⟩) dX8_allNow_61 (fun H locs hG => ?_)
        obtain ⟨hi15, er11⟩ := ckin_some er11
        refine g_ald (f := aBusy) X hT hG 11 rfl rfl hi15 dX8_allNow_64 ?_
        cases er11
        exact J11 H locs ls hG (lv_sub hl [] rfl)
      · have er11 := ite_t cb12 er11
        refine lv_iconst (v := 0) hx hb dX8_allNow_52 (by decide) ?_
        refine lv_goto (tgt := 65) hx hb dX8_allNow_53 (by decide) ?_
        cases er11
        exact J11 H locs ls hG (lv_sub hl [] rfl)
    · have h := ite_f cs9 h
      by_cases cs16 : p1 = 2
      · have h := ite_t cs16 h
        refine g_eqi cs16 ?_
        refine lv_tableIn (x := 2) hx hb dX8_allNow_5 (by decide) (by decide) (off := 61) rfl (tgt := 66) (by decide) ?_
        refine lv_aload_n hx hb dX8_allNow_66 rfl (lv_at hl 0 rfl) ?_
        refine lv_iconst (v := 0) hx hb dX8_allNow_67 (by decide) ?_
        obtain ⟨r_17, ec18, h⟩ := bnd1_some h
        refine g_callVr [.int 0] [] 0 X hT hG ml_X8_243 (c_X8_arcsAll hq ec18) rfl rfl rfl rfl rfl hl.1 (Nat.le_of_ble_eq_true rfl) (by rw [hR]; exact ⟨Nat.le_of_ble_eq_true rfl, Nat.le_of_ble_eq_true rfl⟩) dX8_allNow_68 (fun H locs hG => ?_)
        cases h
        rw [hQ]
        exact g_iret X hT hG hr hlk dX8_allNow_71
      · have h := ite_f cs16 h
        by_cases cs19 : p1 = 3
        · have h := ite_t cs19 h
          refine g_eqi cs19 ?_
          refine lv_tableIn (x := 3) hx hb dX8_allNow_5 (by decide) (by decide) (off := 67) rfl (tgt := 72) (by decide) ?_
          refine lv_aload_n hx hb dX8_allNow_72 rfl (lv_at hl 0 rfl) ?_
          refine lv_iconst (v := 1) hx hb dX8_allNow_73 (by decide) ?_
          obtain ⟨r_20, ec21, h⟩ := bnd1_some h
          refine g_callVr [.int 1] [] 0 X hT hG ml_X8_243 (c_X8_arcsAll hq ec21) rfl rfl rfl rfl rfl hl.1 (Nat.le_of_ble_eq_true rfl) (by rw [hR]; exact ⟨Nat.le_of_ble_eq_true rfl, Nat.le_of_ble_eq_true rfl⟩) dX8_allNow_74 (fun H locs hG => ?_)
          cases h
          rw [hQ]
          exact g_iret X hT hG hr hlk dX8_allNow_77
        · have h := ite_f cs19 h
          by_cases cs22 : p1 = 4
          · have h := ite_t cs22 h
            refine g_eqi cs22 ?_
            refine lv_tableIn (x := 4) hx hb dX8_allNow_5 (by decide) (by decide) (off := 73) rfl (tgt := 78) (by decide) ?_
            refine lv_aload_n hx hb dX8_allNow_78 rfl (lv_at hl 0 rfl) ?_
            refine g_get (v := .int iRouted_1) X hT hG fl_X8_228 0 rfl rfl rfl dX8_allNow_79 ?_
            cases h
            rw [hQ]
            exact g_iret X hT hG hr hlk dX8_allNow_82
          · have h := ite_f cs22 h
            refine lv_tableOut hx hb dX8_allNow_5 (sw_out (n := 5) (Nat.le_of_ble_eq_true rfl) (fun k hk => by match k, hk with | 0, _ => exact cs6 | 1, _ => exact cs9 | 2, _ => exact cs16 | 3, _ => exact cs19 | 4, _ => exact cs22 | k + 5, hk => omega)) (tgt := 83) (by decide) ?_
            refine lv_aload_n hx hb dX8_allNow_83 rfl (lv_at hl 0 rfl) ?_
            refine g_get (v := .int iRouteSum_2) X hT hG fl_X8_231 0 rfl rfl rfl dX8_allNow_84 ?_
            cases h
            rw [hQ]
            exact g_iret X hT hG hr hlk dX8_allNow_87
def f8_all (fu : Nat) (p1 : Int32) (iRouted : Int32) (iRouteSum : Int32) (aTried : (Nat → Int32)) (aRoutes : (Nat → Int32)) (iRoads : Int32) (aCosts : (Nat → Int32)) (aLengthOf : (Nat → Int32)) (aBeginOf : (Nat → Int32)) (aEndOf : (Nat → Int32)) (aBusy : (Nat → Int32)) (aWorths : (Nat → Int32)) (aMiddles : (Nat → Int32)) : Option (Int32 × Int32 × Int32 × (Nat → Int32) × (Nat → Int32)) :=
  bnd1 (f8_within p1 0 5) fun (r_1 : Int32) => bnd5 (if r_1 = 0 then (some ((-102), iRouted, iRouteSum, aTried, aRoutes)) else bnd5 (f8_allNow fu iRoads aCosts aLengthOf aTried aBeginOf aEndOf aRoutes p1 aBusy aWorths aMiddles) fun (r_10 : Int32) (iRouted_11 : Int32) (iRouteSum_12 : Int32) (aTried_13 : (Nat → Int32)) (aRoutes_14 : (Nat → Int32)) => some (r_10, iRouted_11, iRouteSum_12, aTried_13, aRoutes_14)) fun (y_3 : Int32) (iRouted_4 : Int32) (iRouteSum_5 : Int32) (aTried_6 : (Nat → Int32)) (aRoutes_7 : (Nat → Int32)) => some (y_3, iRouted_4, iRouteSum_5, aTried_6, aRoutes_7)
set_option maxHeartbeats 4000000 in
set_option maxRecDepth 100000 in
theorem c_X8_all (hq : gJ layM q) {fu : Nat} {p1 : Int32} {o_r : Int32} {o_iRouted : Int32} {o_iRouteSum : Int32} {o_aTried : (Nat → Int32)} {o_aRoutes : (Nat → Int32)} (h : f8_all fu p1 iRouted iRouteSum aTried aRoutes iRoads aCosts aLengthOf aBeginOf aEndOf aBusy aWorths aMiddles = some (o_r, o_iRouted, o_iRouteSum, o_aTried, o_aRoutes)) :
    GM l yX8_all cX8_all 2 (some .int) 4 89 D cI cZ layM q [.ref (q 0), .int p1] ([iPageLength, iRoads, iRead, iAltered, iRanked, iStage, iFigures, iNewRoads, iTold, iRouted, iRouteSum], [jH], [aPage, aBeginOf, aEndOf, aLengthOf, aCosts, aRankOf, aRoadAt, aWorths, aMiddles, aLeasts, aBusy, aNewBegin, aNewEnd, aNewLength, aIsLeft, aAround, aWhole, aIsNeeded, aWereRanks, aWaitFrom, aWaitTo, aToldAt, aRisen, aUps, aTried, aRoutes]) (some (.int o_r)) ([iPageLength, iRoads, iRead, iAltered, iRanked, iStage, iFigures, iNewRoads, iTold, o_iRouted, o_iRouteSum], [jH], [aPage, aBeginOf, aEndOf, aLengthOf, aCosts, aRankOf, aRoadAt, aWorths, aMiddles, aLeasts, aBusy, aNewBegin, aNewEnd, aNewLength, aIsLeft, aAround, aWhole, aIsNeeded, aWereRanks, aWaitFrom, aWaitTo, aToldAt, aRisen, aUps, o_aTried, o_aRoutes]) := by
  refine GM.go RX8 (by decide) rfl (Nat.le_of_ble_eq_true rfl) ?_
  intro p e s m args below meth c ls R Q H locs X hr hlk hT hG hl hR hQ
  have hx := X.1
  have hb := X.2.1
  have hl : lv_has ls 2 [(0, .ref (q 0)), (1, .int p1)] := hl
  unfold f8_all at h
  refine lv_iload_n hx hb dX8_all_0 rfl (lv_at hl 1 rfl) ?_
  refine lv_iconst (v := 0) hx hb dX8_all_1 (by decide) ?_
  refine lv_iconst (v := 5) hx hb dX8_all_2 (by decide) ?_
  obtain ⟨r_1, ec2, h⟩ := bnd1_some h
  refine g_callSr [.int p1, .int 0, .int 5] [] X hT hG ml_X8_89 (c_X8_within hq ec2) rfl rfl hl.1 (Nat.le_of_ble_eq_true rfl) (by rw [hR]; exact ⟨Nat.le_of_ble_eq_true rfl, Nat.le_of_ble_eq_true rfl⟩) dX8_all_3 (fun H locs hG => ?_)
  obtain ⟨y_3, iRouted_4, iRouteSum_5, aTried_6, aRoutes_7, er8, h⟩ := bnd5_some h
  have J8 : ∀ (H : Heap) (locs : List Loc) (ls : Array Slot), GH D cI cZ layM q s ([iPageLength, iRoads, iRead, iAltered, iRanked, iStage, iFigures, iNewRoads, iTold, iRouted_4, iRouteSum_5], [jH], [aPage, aBeginOf, aEndOf, aLengthOf, aCosts, aRankOf, aRoadAt, aWorths, aMiddles, aLeasts, aBusy, aNewBegin, aNewEnd, aNewLength, aIsLeft, aAround, aWhole, aIsNeeded, aWereRanks, aWaitFrom, aWaitTo, aToldAt, aRisen, aUps, aTried_6, aRoutes_7]) H locs → lv_has ls 2 [] → W p l e R s m args below meth c H locs 0 0 Q (F0 m 19 ls [.int y_3]) := by
    intro H locs ls hG hl
    cases h
    rw [hQ]
    exact g_iret X hT hG hr hlk dX8_all_19
  refine lv_if_eq (tgt := 17) hx hb dX8_all_6 (by decide) (fun cb9 => ?_) (fun cb9 => ?_)
  · have er8 := ite_t cb9 er8
    refine lv_bipush (v := (-102)) hx hb dX8_all_17 (by decide) ?_
    cases er8
    exact J8 H locs ls hG (lv_sub hl [] rfl)
  · have er8 := ite_f cb9 er8
    refine lv_aload_n hx hb dX8_all_9 rfl (lv_at hl 0 rfl) ?_
    refine lv_iload_n hx hb dX8_all_10 rfl (lv_at hl 1 rfl) ?_
    obtain ⟨r_10, iRouted_11, iRouteSum_12, aTried_13, aRoutes_14, ec15, er8⟩ := bnd5_some er8
    refine g_callVr [.int p1] [] 0 X hT hG ml_X8_247 (c_X8_allNow hq ec15) rfl rfl rfl rfl rfl hl.1 (Nat.le_of_ble_eq_true rfl) (by rw [hR]; exact ⟨Nat.le_of_ble_eq_true rfl, Nat.le_of_ble_eq_true rfl⟩) dX8_all_11 (fun H locs hG => ?_)
    have hG : GH D cI cZ layM q s ([iPageLength, iRoads, iRead, iAltered, iRanked, iStage, iFigures, iNewRoads, iTold, iRouted_11, iRouteSum_12], [jH], [aPage, aBeginOf, aEndOf, aLengthOf, aCosts, aRankOf, aRoadAt, aWorths, aMiddles, aLeasts, aBusy, aNewBegin, aNewEnd, aNewLength, aIsLeft, aAround, aWhole, aIsNeeded, aWereRanks, aWaitFrom, aWaitTo, aToldAt, aRisen, aUps, aTried_13, aRoutes_14]) H locs := hG
    refine lv_goto (tgt := 19) hx hb dX8_all_14 (by decide) ?_
    cases er8
    exact J8 H locs ls hG (lv_sub hl [] rfl)
def f8_turnsAll_k1 : Option (Int32) :=
  some 1
def f8_turnsAll_b1 (iRoads : Int32) (aEndOf : (Nat → Int32)) (aBeginOf : (Nat → Int32)) (p1 : Int32) (aCosts : (Nat → Int32)) (x2_1 : Int32) (x3_2 : Int32) : Option ((Int32 × Int32) ⊕ (Int32)) :=
  if (iRoads * iRoads) ≤ x3_2 then (some (.inr x2_1)) else ckz iRoads (bd ((x3_2 / iRoads)) fun x4_7 => ckz iRoads (bd ((x3_2 - x3_2 / iRoads * iRoads)) fun x5_9 => bnd1 (f8_isTurn x4_7 x5_9 aEndOf aBeginOf) fun (r_10 : Int32) => bnd1 (if r_10 = 0 then (some 0) else if p1 = 0 then (f8_turnsAll_k1) else ckin ((12 * x4_7) + x5_9) 144 (if (aCosts ((12 * x4_7) + x5_9).toNatClampNeg) = (-5) then (f8_turnsAll_k1) else some 0)) fun (y_12 : Int32) => bd ((x2_1 + y_12)) fun x2_19 => bd (x3_2 + 1) fun x3_20 => some (.inl (x2_19, x3_20))))
def f8_turnsAll (fu : Nat) (iRoads : Int32) (aEndOf : (Nat → Int32)) (aBeginOf : (Nat → Int32)) (p1 : Int32) (aCosts : (Nat → Int32)) : Option (Int32) :=
  bnd1 (lpG (fun z => f8_turnsAll_b1 iRoads aEndOf aBeginOf p1 aCosts z.1 z.2) fu ((0 : Int32), (0 : Int32))) fun (x2_3 : Int32) => some x2_3
set_option maxHeartbeats 4000000 in
set_option maxRecDepth 100000 in
theorem c_X8_turnsAll (hq : gJ layM q) {fu : Nat} {p1 : Int32} {o_r : Int32} (h : f8_turnsAll fu iRoads aEndOf aBeginOf p1 aCosts = some o_r) :
    GM l yX8_turnsAll cX8_turnsAll 6 (some .int) 1 22 D cI cZ layM q [.ref (q 0), .int p1] ([iPageLength, iRoads, iRead, iAltered, iRanked, iStage, iFigures, iNewRoads, iTold, iRouted, iRouteSum], [jH], [aPage, aBeginOf, aEndOf, aLengthOf, aCosts, aRankOf, aRoadAt, aWorths, aMiddles, aLeasts, aBusy, aNewBegin, aNewEnd, aNewLength, aIsLeft, aAround, aWhole, aIsNeeded, aWereRanks, aWaitFrom, aWaitTo, aToldAt, aRisen, aUps, aTried, aRoutes]) (some (.int o_r)) ([iPageLength, iRoads, iRead, iAltered, iRanked, iStage, iFigures, iNewRoads, iTold, iRouted, iRouteSum], [jH], [aPage, aBeginOf, aEndOf, aLengthOf, aCosts, aRankOf, aRoadAt, aWorths, aMiddles, aLeasts, aBusy, aNewBegin, aNewEnd, aNewLength, aIsLeft, aAround, aWhole, aIsNeeded, aWereRanks, aWaitFrom, aWaitTo, aToldAt, aRisen, aUps, aTried, aRoutes]) := by
  refine GM.go RX8 (by decide) rfl (Nat.le_of_ble_eq_true rfl) ?_
  intro p e s m args below meth c ls R Q H locs X hr hlk hT hG hl hR hQ
  have hx := X.1
  have hb := X.2.1
  have hl : lv_has ls 6 [(0, .ref (q 0)), (1, .int p1)] := hl
  unfold f8_turnsAll at h
  refine lv_iconst (v := 0) hx hb dX8_turnsAll_0 (by decide) ?_
  refine lv_istore_n (lv' := [(2, .int 0), (0, .ref (q 0)), (1, .int p1)]) hx hb dX8_turnsAll_1 rfl hl (by decide) rfl (fun ls hl => ?_)
  refine lv_iconst (v := 0) hx hb dX8_turnsAll_2 (by decide) ?_
  refine lv_istore_n (lv' := [(3, .int 0), (2, .int 0), (0, .ref (q 0)), (1, .int p1)]) hx hb dX8_turnsAll_3 rfl hl (by decide) rfl (fun ls hl => ?_)
  obtain ⟨x2_3, eL4, h⟩ := bnd1_some h
  have JX4 : ∀ (H : Heap) (locs : List Loc) (ls : Array Slot), GH D cI cZ layM q s ([iPageLength, iRoads, iRead, iAltered, iRanked, iStage, iFigures, iNewRoads, iTold, iRouted, iRouteSum], [jH], [aPage, aBeginOf, aEndOf, aLengthOf, aCosts, aRankOf, aRoadAt, aWorths, aMiddles, aLeasts, aBusy, aNewBegin, aNewEnd, aNewLength, aIsLeft, aAround, aWhole, aIsNeeded, aWereRanks, aWaitFrom, aWaitTo, aToldAt, aRisen, aUps, aTried, aRoutes]) H locs → lv_has ls 6 [(2, .int x2_3)] → W p l e R s m args below meth c H locs 0 0 Q (F0 m 80 ls []) := by
    intro H locs ls hG hl
    refine lv_iload_n hx hb dX8_turnsAll_80 rfl (lv_at hl 0 rfl) ?_
    cases h
    rw [hQ]
    exact g_iret X hT hG hr hlk dX8_turnsAll_81
  refine lpG_W (Wh := fun z => ∀ (H : Heap) (locs : List Loc) (ls : Array Slot), GH D cI cZ layM q s ([iPageLength, iRoads, iRead, iAltered, iRanked, iStage, iFigures, iNewRoads, iTold, iRouted, iRouteSum], [jH], [aPage, aBeginOf, aEndOf, aLengthOf, aCosts, aRankOf, aRoadAt, aWorths, aMiddles, aLeasts, aBusy, aNewBegin, aNewEnd, aNewLength, aIsLeft, aAround, aWhole, aIsNeeded, aWereRanks, aWaitFrom, aWaitTo, aToldAt, aRisen, aUps, aTried, aRoutes]) H locs → lv_has ls 6 [(0, .ref (q 0)), (1, .int p1), (2, .int (z.1)), (3, .int (z.2))] → W p l e R s m args below meth c H locs 0 0 Q (F0 m 4 ls [])) ?_ fu _ eL4 H locs ls hG (lv_sub hl [2, 3, 1, 0] rfl)
  intro z rr4 hb4 hin4 hout4
  obtain ⟨x2_1, x3_2⟩ := z
  intro H locs ls hG hl
  have hb4 : f8_turnsAll_b1 iRoads aEndOf aBeginOf p1 aCosts x2_1 x3_2 = some rr4 := hb4
  have hG : GH D cI cZ layM q s ([iPageLength, iRoads, iRead, iAltered, iRanked, iStage, iFigures, iNewRoads, iTold, iRouted, iRouteSum], [jH], [aPage, aBeginOf, aEndOf, aLengthOf, aCosts, aRankOf, aRoadAt, aWorths, aMiddles, aLeasts, aBusy, aNewBegin, aNewEnd, aNewLength, aIsLeft, aAround, aWhole, aIsNeeded, aWereRanks, aWaitFrom, aWaitTo, aToldAt, aRisen, aUps, aTried, aRoutes]) H locs := hG
  have hl : lv_has ls 6 [(0, .ref (q 0)), (1, .int p1), (2, .int x2_1), (3, .int x3_2)] := hl
  unfold f8_turnsAll_b1 at hb4
  refine lv_iload_n hx hb dX8_turnsAll_4 rfl (lv_at hl 3 rfl) ?_
  refine lv_aload_n hx hb dX8_turnsAll_5 rfl (lv_at hl 0 rfl) ?_
  refine g_get (v := .int iRoads) X hT hG fl_X8_120 0 rfl rfl rfl dX8_turnsAll_6 ?_
  refine lv_aload_n hx hb dX8_turnsAll_9 rfl (lv_at hl 0 rfl) ?_
  refine g_get (v := .int iRoads) X hT hG fl_X8_120 0 rfl rfl rfl dX8_turnsAll_10 ?_
  refine lv_imul hx hb dX8_turnsAll_13 ?_
  refine lv_icmp_ge (tgt := 80) hx hb dX8_turnsAll_14 (by decide) (fun cb5 => ?_) (fun cb5 => ?_)
  · have hb4 := ite_t cb5 hb4
    have eo := hout4 _ (Option.some.inj hb4).symm
    cases eo
    exact JX4 H locs ls hG (lv_sub hl [2] rfl)
  · have hb4 := ite_f cb5 hb4
    refine lv_iload_n hx hb dX8_turnsAll_17 rfl (lv_at hl 3 rfl) ?_
    refine lv_aload_n hx hb dX8_turnsAll_18 rfl (lv_at hl 0 rfl) ?_
    refine g_get (v := .int iRoads) X hT hG fl_X8_120 0 rfl rfl rfl dX8_turnsAll_19 ?_
    obtain ⟨hz6, hb4⟩ := ckz_some hb4
    refine lv_idiv hx hb dX8_turnsAll_22 hz6 ?_
    refine lv_topi (fun x4_7 ex4_7 => ?_)
    have hb4 := bd_e ex4_7 hb4
    refine lv_istore (lv' := [(4, .int x4_7), (0, .ref (q 0)), (1, .int p1), (2, .int x2_1), (3, .int x3_2)]) hx hb dX8_turnsAll_23 hl (by decide) rfl (fun ls hl => ?_)
    refine lv_iload_n hx hb dX8_turnsAll_25 rfl (lv_at hl 4 rfl) ?_
    refine lv_aload_n hx hb dX8_turnsAll_26 rfl (lv_at hl 1 rfl) ?_
    refine g_get (v := .int iRoads) X hT hG fl_X8_120 0 rfl rfl rfl dX8_turnsAll_27 ?_
    obtain ⟨hz8, hb4⟩ := ckz_some hb4
    refine lv_irem hx hb dX8_turnsAll_30 hz8 ?_
    refine lv_topi (fun x5_9 ex5_9 => ?_)
    have hb4 := bd_e ex5_9 hb4
    refine lv_istore (lv' := [(5, .int x5_9), (4, .int x4_7), (0, .ref (q 0)), (1, .int p1), (2, .int x2_1), (3, .int x3_2)]) hx hb dX8_turnsAll_31 hl (by decide) rfl (fun ls hl => ?_)
    refine lv_iload_n hx hb dX8_turnsAll_33 rfl (lv_at hl 4 rfl) ?_
    refine lv_aload_n hx hb dX8_turnsAll_34 rfl (lv_at hl 2 rfl) ?_
    refine lv_iload hx hb dX8_turnsAll_35 (lv_at hl 1 rfl) ?_
    refine lv_iload hx hb dX8_turnsAll_37 (lv_at hl 0 rfl) ?_
    obtain ⟨r_10, ec11, hb4⟩ := bnd1_some hb4
    refine g_callVr [.int x4_7, .int x5_9] [.int x2_1] 0 X hT hG ml_X8_183 (c_X8_isTurn hq ec11) rfl rfl rfl rfl rfl hl.1 (Nat.le_of_ble_eq_true rfl) (by rw [hR]; exact ⟨Nat.le_of_ble_eq_true rfl, Nat.le_of_ble_eq_true rfl⟩) dX8_turnsAll_39 (fun H locs hG => ?_)
    obtain ⟨y_12, er13, hb4⟩ := bnd1_some hb4
    have J13 : ∀ (H : Heap) (locs : List Loc) (ls : Array Slot), GH D cI cZ layM q s ([iPageLength, iRoads, iRead, iAltered, iRanked, iStage, iFigures, iNewRoads, iTold, iRouted, iRouteSum], [jH], [aPage, aBeginOf, aEndOf, aLengthOf, aCosts, aRankOf, aRoadAt, aWorths, aMiddles, aLeasts, aBusy, aNewBegin, aNewEnd, aNewLength, aIsLeft, aAround, aWhole, aIsNeeded, aWereRanks, aWaitFrom, aWaitTo, aToldAt, aRisen, aUps, aTried, aRoutes]) H locs → lv_has ls 6 [(0, .ref (q 0)), (1, .int p1), (3, .int x3_2)] → W p l e R s m args below meth c H locs 0 0 Q (F0 m 72 ls [.int y_12, .int x2_1]) := by
      intro H locs ls hG hl
      refine lv_iadd hx hb dX8_turnsAll_72 ?_
      refine lv_topi (fun x2_19 ex2_19 => ?_)
      have hb4 := bd_e ex2_19 hb4
      refine lv_istore_n (lv' := [(2, .int x2_19), (0, .ref (q 0)), (1, .int p1), (3, .int x3_2)]) hx hb dX8_turnsAll_73 rfl hl (by decide) rfl (fun ls hl => ?_)
      obtain ⟨x3_20, ex3_20⟩ : ∃ z : Int32, z = x3_2 + 1 := ⟨_, rfl⟩
      have hb4 := bd_e ex3_20 hb4
      refine lv_iinc (v := x3_20) (lv' := [(3, .int x3_20), (2, .int x2_19), (0, .ref (q 0)), (1, .int p1)]) hx hb dX8_turnsAll_74 hl (k := 3) rfl (by rw [ex3_20]; rfl) (by decide) rfl (fun ls hl => ?_)
      refine lv_goto (tgt := 4) hx hb dX8_turnsAll_77 (by decide) ?_
      exact hin4 _ (Option.some.inj hb4).symm H locs ls hG (lv_sub hl [2, 3, 1, 0] rfl)
    refine lv_if_eq (tgt := 71) hx hb dX8_turnsAll_42 (by decide) (fun cb14 => ?_) (fun cb14 => ?_)
    · have er13 := ite_t cb14 er13
      refine lv_iconst (v := 0) hx hb dX8_turnsAll_71 (by decide) ?_
      cases er13
      exact J13 H locs ls hG (lv_sub hl [2, 3, 5] rfl)
    · have er13 := ite_f cb14 er13
      refine lv_iload_n hx hb dX8_turnsAll_45 rfl (lv_at hl 3 rfl) ?_
      have K15 : ∀ (H : Heap) (locs : List Loc) (ls : Array Slot), GH D cI cZ layM q s ([iPageLength, iRoads, iRead, iAltered, iRanked, iStage, iFigures, iNewRoads, iTold, iRouted, iRouteSum], [jH], [aPage, aBeginOf, aEndOf, aLengthOf, aCosts, aRankOf, aRoadAt, aWorths, aMiddles, aLeasts, aBusy, aNewBegin, aNewEnd, aNewLength, aIsLeft, aAround, aWhole, aIsNeeded, aWereRanks, aWaitFrom, aWaitTo, aToldAt, aRisen, aUps, aTried, aRoutes]) H locs → lv_has ls 6 [(0, .ref (q 0)), (1, .int p1), (3, .int x3_2)] → f8_turnsAll_k1 = some y_12 → W p l e R s m args below meth c H locs 0 0 Q (F0 m 67 ls [.int x2_1]) := by
        intro H locs ls hG hl hk15
        unfold f8_turnsAll_k1 at hk15
        refine lv_iconst (v := 1) hx hb dX8_turnsAll_67 (by decide) ?_
        refine lv_goto (tgt := 72) hx hb dX8_turnsAll_68 (by decide) ?_
        cases hk15
        exact J13 H locs ls hG (lv_sub hl [0, 1, 2] rfl)
      refine lv_if_eq (tgt := 67) hx hb dX8_turnsAll_46 (by decide) (fun cb16 => ?_) (fun cb16 => ?_)
      · have er13 := ite_t cb16 er13
        exact K15 H locs ls hG (lv_sub hl [2, 3, 5] rfl) er13
      · have er13 := ite_f cb16 er13
        refine lv_aload_n hx hb dX8_turnsAll_49 rfl (lv_at hl 2 rfl) ?_
        refine g_get (v := .ref (q 5)) X hT hG fl_X8_22 0 rfl rfl rfl dX8_turnsAll_50 ?_
        refine lv_bipush (v := 12) hx hb dX8_turnsAll_53 (by decide) ?_
        refine lv_iload hx hb dX8_turnsAll_55 (lv_at hl 1 rfl) ?_
        refine lv_imul hx hb dX8_turnsAll_57 ?_
        refine lv_iload hx hb dX8_turnsAll_58 (lv_at hl 0 rfl) ?_
        refine lv_iadd hx hb dX8_turnsAll_60 ?_
        obtain ⟨hi17, er13⟩ := ckin_some er13
        refine g_ald (f := aCosts) X hT hG 5 rfl rfl hi17 dX8_turnsAll_61 ?_
        refine lv_bipush (v := (-5)) hx hb dX8_turnsAll_62 (by decide) ?_
        refine lv_icmp_ne (tgt := 71) hx hb dX8_turnsAll_64 (by decide) (fun cb18 => ?_) (fun cb18 => ?_)
        · have er13 := ite_f cb18 er13
          refine lv_iconst (v := 0) hx hb dX8_turnsAll_71 (by decide) ?_
          cases er13
          exact J13 H locs ls hG (lv_sub hl [2, 3, 5] rfl)
        · have er13 := ite_t cb18 er13
          exact K15 H locs ls hG (lv_sub hl [2, 3, 5] rfl) er13
def f8_howMany (fu : Nat) (p1 : Int32) (iRoads : Int32) (iPageLength : Int32) (aEndOf : (Nat → Int32)) (aBeginOf : (Nat → Int32)) (aCosts : (Nat → Int32)) (iRead : Int32) (iAltered : Int32) (iRanked : Int32) : Option (Int32) :=
  if p1 = 0 then (some iRoads) else if p1 = 1 then (some iPageLength) else if p1 = 2 then (bnd1 (f8_turnsAll fu iRoads aEndOf aBeginOf 0 aCosts) fun (r_4 : Int32) => some r_4) else if p1 = 3 then (bnd1 (f8_turnsAll fu iRoads aEndOf aBeginOf 1 aCosts) fun (r_7 : Int32) => some r_7) else if p1 = 4 then (some iRead) else if p1 = 5 then (some iAltered) else if p1 = 6 then (some iRanked) else some (-102)
set_option maxHeartbeats 4000000 in
set_option maxRecDepth 100000 in
theorem c_X8_howMany (hq : gJ layM q) {fu : Nat} {p1 : Int32} {o_r : Int32} (h : f8_howMany fu p1 iRoads iPageLength aEndOf aBeginOf aCosts iRead iAltered iRanked = some o_r) :
    GM l yX8_howMany cX8_howMany 2 (some .int) 2 47 D cI cZ layM q [.ref (q 0), .int p1] ([iPageLength, iRoads, iRead, iAltered, iRanked, iStage, iFigures, iNewRoads, iTold, iRouted, iRouteSum], [jH], [aPage, aBeginOf, aEndOf, aLengthOf, aCosts, aRankOf, aRoadAt, aWorths, aMiddles, aLeasts, aBusy, aNewBegin, aNewEnd, aNewLength, aIsLeft, aAround, aWhole, aIsNeeded, aWereRanks, aWaitFrom, aWaitTo, aToldAt, aRisen, aUps, aTried, aRoutes]) (some (.int o_r)) ([iPageLength, iRoads, iRead, iAltered, iRanked, iStage, iFigures, iNewRoads, iTold, iRouted, iRouteSum], [jH], [aPage, aBeginOf, aEndOf, aLengthOf, aCosts, aRankOf, aRoadAt, aWorths, aMiddles, aLeasts, aBusy, aNewBegin, aNewEnd, aNewLength, aIsLeft, aAround, aWhole, aIsNeeded, aWereRanks, aWaitFrom, aWaitTo, aToldAt, aRisen, aUps, aTried, aRoutes]) := by
  refine GM.go RX8 (by decide) rfl (Nat.le_of_ble_eq_true rfl) ?_
  intro p e s m args below meth c ls R Q H locs X hr hlk hT hG hl hR hQ
  have hx := X.1
  have hb := X.2.1
  have hl : lv_has ls 2 [(0, .ref (q 0)), (1, .int p1)] := hl
  unfold f8_howMany at h
  refine lv_iload_n hx hb dX8_howMany_0 rfl (lv_at hl 1 rfl) ?_
  by_cases cs1 : p1 = 0
  · have h := ite_t cs1 h
    refine g_eqi cs1 ?_
    refine lv_tableIn (x := 0) hx hb dX8_howMany_1 (by decide) (by decide) (off := 43) rfl (tgt := 44) (by decide) ?_
    refine lv_aload_n hx hb dX8_howMany_44 rfl (lv_at hl 0 rfl) ?_
    refine g_get (v := .int iRoads) X hT hG fl_X8_120 0 rfl rfl rfl dX8_howMany_45 ?_
    cases h
    rw [hQ]
    exact g_iret X hT hG hr hlk dX8_howMany_48
  · have h := ite_f cs1 h
    by_cases cs2 : p1 = 1
    · have h := ite_t cs2 h
      refine g_eqi cs2 ?_
      refine lv_tableIn (x := 1) hx hb dX8_howMany_1 (by decide) (by decide) (off := 48) rfl (tgt := 49) (by decide) ?_
      refine lv_aload_n hx hb dX8_howMany_49 rfl (lv_at hl 0 rfl) ?_
      refine g_get (v := .int iPageLength) X hT hG fl_X8_93 0 rfl rfl rfl dX8_howMany_50 ?_
      cases h
      rw [hQ]
      exact g_iret X hT hG hr hlk dX8_howMany_53
    · have h := ite_f cs2 h
      by_cases cs3 : p1 = 2
      · have h := ite_t cs3 h
        refine g_eqi cs3 ?_
        refine lv_tableIn (x := 2) hx hb dX8_howMany_1 (by decide) (by decide) (off := 53) rfl (tgt := 54) (by decide) ?_
        refine lv_aload_n hx hb dX8_howMany_54 rfl (lv_at hl 0 rfl) ?_
        refine lv_iconst (v := 0) hx hb dX8_howMany_55 (by decide) ?_
        obtain ⟨r_4, ec5, h⟩ := bnd1_some h
        refine g_callVr [.int 0] [] 0 X hT hG ml_X8_250 (c_X8_turnsAll hq ec5) rfl rfl rfl rfl rfl hl.1 (Nat.le_of_ble_eq_true rfl) (by rw [hR]; exact ⟨Nat.le_of_ble_eq_true rfl, Nat.le_of_ble_eq_true rfl⟩) dX8_howMany_56 (fun H locs hG => ?_)
        cases h
        rw [hQ]
        exact g_iret X hT hG hr hlk dX8_howMany_59
      · have h := ite_f cs3 h
        by_cases cs6 : p1 = 3
        · have h := ite_t cs6 h
          refine g_eqi cs6 ?_
          refine lv_tableIn (x := 3) hx hb dX8_howMany_1 (by decide) (by decide) (off := 59) rfl (tgt := 60) (by decide) ?_
          refine lv_aload_n hx hb dX8_howMany_60 rfl (lv_at hl 0 rfl) ?_
          refine lv_iconst (v := 1) hx hb dX8_howMany_61 (by decide) ?_
          obtain ⟨r_7, ec8, h⟩ := bnd1_some h
          refine g_callVr [.int 1] [] 0 X hT hG ml_X8_250 (c_X8_turnsAll hq ec8) rfl rfl rfl rfl rfl hl.1 (Nat.le_of_ble_eq_true rfl) (by rw [hR]; exact ⟨Nat.le_of_ble_eq_true rfl, Nat.le_of_ble_eq_true rfl⟩) dX8_howMany_62 (fun H locs hG => ?_)
          cases h
          rw [hQ]
          exact g_iret X hT hG hr hlk dX8_howMany_65
        · have h := ite_f cs6 h
          by_cases cs9 : p1 = 4
          · have h := ite_t cs9 h
            refine g_eqi cs9 ?_
            refine lv_tableIn (x := 4) hx hb dX8_howMany_1 (by decide) (by decide) (off := 65) rfl (tgt := 66) (by decide) ?_
            refine lv_aload_n hx hb dX8_howMany_66 rfl (lv_at hl 0 rfl) ?_
            refine g_get (v := .int iRead) X hT hG fl_X8_129 0 rfl rfl rfl dX8_howMany_67 ?_
            cases h
            rw [hQ]
            exact g_iret X hT hG hr hlk dX8_howMany_70
          · have h := ite_f cs9 h
            by_cases cs10 : p1 = 5
            · have h := ite_t cs10 h
              refine g_eqi cs10 ?_
              refine lv_tableIn (x := 5) hx hb dX8_howMany_1 (by decide) (by decide) (off := 70) rfl (tgt := 71) (by decide) ?_
              refine lv_aload_n hx hb dX8_howMany_71 rfl (lv_at hl 0 rfl) ?_
              refine g_get (v := .int iAltered) X hT hG fl_X8_171 0 rfl rfl rfl dX8_howMany_72 ?_
              cases h
              rw [hQ]
              exact g_iret X hT hG hr hlk dX8_howMany_75
            · have h := ite_f cs10 h
              by_cases cs11 : p1 = 6
              · have h := ite_t cs11 h
                refine g_eqi cs11 ?_
                refine lv_tableIn (x := 6) hx hb dX8_howMany_1 (by decide) (by decide) (off := 75) rfl (tgt := 76) (by decide) ?_
                refine lv_aload_n hx hb dX8_howMany_76 rfl (lv_at hl 0 rfl) ?_
                refine g_get (v := .int iRanked) X hT hG fl_X8_186 0 rfl rfl rfl dX8_howMany_77 ?_
                cases h
                rw [hQ]
                exact g_iret X hT hG hr hlk dX8_howMany_80
              · have h := ite_f cs11 h
                refine lv_tableOut hx hb dX8_howMany_1 (sw_out (n := 7) (Nat.le_of_ble_eq_true rfl) (fun k hk => by match k, hk with | 0, _ => exact cs1 | 1, _ => exact cs2 | 2, _ => exact cs3 | 3, _ => exact cs6 | 4, _ => exact cs9 | 5, _ => exact cs10 | 6, _ => exact cs11 | k + 7, hk => omega)) (tgt := 81) (by decide) ?_
                refine lv_bipush (v := (-102)) hx hb dX8_howMany_81 (by decide) ?_
                cases h
                rw [hQ]
                exact g_iret X hT hG hr hlk dX8_howMany_83
def f8_count (fu : Nat) (p1 : Int32) (iRoads : Int32) (iPageLength : Int32) (aEndOf : (Nat → Int32)) (aBeginOf : (Nat → Int32)) (aCosts : (Nat → Int32)) (iRead : Int32) (iAltered : Int32) (iRanked : Int32) : Option (Int32) :=
  bnd1 (f8_howMany fu p1 iRoads iPageLength aEndOf aBeginOf aCosts iRead iAltered iRanked) fun (r_1 : Int32) => some r_1
set_option maxHeartbeats 4000000 in
set_option maxRecDepth 100000 in
theorem c_X8_count (hq : gJ layM q) {fu : Nat} {p1 : Int32} {o_r : Int32} (h : f8_count fu p1 iRoads iPageLength aEndOf aBeginOf aCosts iRead iAltered iRanked = some o_r) :
    GM l yX8_count cX8_count 2 (some .int) 3 68 D cI cZ layM q [.ref (q 0), .int p1] ([iPageLength, iRoads, iRead, iAltered, iRanked, iStage, iFigures, iNewRoads, iTold, iRouted, iRouteSum], [jH], [aPage, aBeginOf, aEndOf, aLengthOf, aCosts, aRankOf, aRoadAt, aWorths, aMiddles, aLeasts, aBusy, aNewBegin, aNewEnd, aNewLength, aIsLeft, aAround, aWhole, aIsNeeded, aWereRanks, aWaitFrom, aWaitTo, aToldAt, aRisen, aUps, aTried, aRoutes]) (some (.int o_r)) ([iPageLength, iRoads, iRead, iAltered, iRanked, iStage, iFigures, iNewRoads, iTold, iRouted, iRouteSum], [jH], [aPage, aBeginOf, aEndOf, aLengthOf, aCosts, aRankOf, aRoadAt, aWorths, aMiddles, aLeasts, aBusy, aNewBegin, aNewEnd, aNewLength, aIsLeft, aAround, aWhole, aIsNeeded, aWereRanks, aWaitFrom, aWaitTo, aToldAt, aRisen, aUps, aTried, aRoutes]) := by
  refine GM.go RX8 (by decide) rfl (Nat.le_of_ble_eq_true rfl) ?_
  intro p e s m args below meth c ls R Q H locs X hr hlk hT hG hl hR hQ
  have hx := X.1
  have hb := X.2.1
  have hl : lv_has ls 2 [(0, .ref (q 0)), (1, .int p1)] := hl
  unfold f8_count at h
  refine lv_aload_n hx hb dX8_count_0 rfl (lv_at hl 0 rfl) ?_
  refine lv_iload_n hx hb dX8_count_1 rfl (lv_at hl 1 rfl) ?_
  obtain ⟨r_1, ec2, h⟩ := bnd1_some h
  refine g_callVr [.int p1] [] 0 X hT hG ml_X8_253 (c_X8_howMany hq ec2) rfl rfl rfl rfl rfl hl.1 (Nat.le_of_ble_eq_true rfl) (by rw [hR]; exact ⟨Nat.le_of_ble_eq_true rfl, Nat.le_of_ble_eq_true rfl⟩) dX8_count_2 (fun H locs hG => ?_)
  cases h
  rw [hQ]
  exact g_iret X hT hG hr hlk dX8_count_5
def f8_mix (jH : Int64) (p1 : Int64) : Option (Int64) :=
  bd (((31 * jH) + p1)) fun jH_1 => some jH_1
set_option maxHeartbeats 4000000 in
set_option maxRecDepth 100000 in
theorem c_X8_mix (hq : gJ layM q) {p1 : Int64} {o_jH : Int64} (h : f8_mix jH p1 = some o_jH) :
    GM l yX8_mix cX8_mix 3 none 0 0 D cI cZ layM q [.ref (q 0), .long p1] ([iPageLength, iRoads, iRead, iAltered, iRanked, iStage, iFigures, iNewRoads, iTold, iRouted, iRouteSum], [jH], [aPage, aBeginOf, aEndOf, aLengthOf, aCosts, aRankOf, aRoadAt, aWorths, aMiddles, aLeasts, aBusy, aNewBegin, aNewEnd, aNewLength, aIsLeft, aAround, aWhole, aIsNeeded, aWereRanks, aWaitFrom, aWaitTo, aToldAt, aRisen, aUps, aTried, aRoutes]) none ([iPageLength, iRoads, iRead, iAltered, iRanked, iStage, iFigures, iNewRoads, iTold, iRouted, iRouteSum], [o_jH], [aPage, aBeginOf, aEndOf, aLengthOf, aCosts, aRankOf, aRoadAt, aWorths, aMiddles, aLeasts, aBusy, aNewBegin, aNewEnd, aNewLength, aIsLeft, aAround, aWhole, aIsNeeded, aWereRanks, aWaitFrom, aWaitTo, aToldAt, aRisen, aUps, aTried, aRoutes]) := by
  refine GM.go RX8 (by decide) rfl (Nat.le_of_ble_eq_true rfl) ?_
  intro p e s m args below meth c ls R Q H locs X hr hlk hT hG hl hR hQ
  have hx := X.1
  have hb := X.2.1
  have hl : lv_has ls 3 [(0, .ref (q 0)), (1, .long p1)] := hl
  unfold f8_mix at h
  refine lv_aload_n hx hb dX8_mix_0 rfl (lv_at hl 0 rfl) ?_
  refine lv_ldc2 (v := 31) hx hb X.2.2.2.1 (X.2.2.2.2 _ cn_X8_256) dX8_mix_1 ?_
  refine lv_aload_n hx hb dX8_mix_4 rfl (lv_at hl 0 rfl) ?_
  refine g_get (v := .long jH) X hT hG fl_X8_258 0 rfl rfl rfl dX8_mix_5 ?_
  refine lv_lmul hx hb dX8_mix_8 ?_
  refine lv_lload_n hx hb dX8_mix_9 rfl (lv_at hl 1 rfl) ?_
  refine lv_ladd hx hb dX8_mix_10 ?_
  refine lv_topl (fun jH_1 ejH_1 => ?_)
  have h := bd_e ejH_1 h
  refine g_putJ (w' := ([iPageLength, iRoads, iRead, iAltered, iRanked, iStage, iFigures, iNewRoads, iTold, iRouted, iRouteSum], [jH_1], [aPage, aBeginOf, aEndOf, aLengthOf, aCosts, aRankOf, aRoadAt, aWorths, aMiddles, aLeasts, aBusy, aNewBegin, aNewEnd, aNewLength, aIsLeft, aAround, aWhole, aIsNeeded, aWereRanks, aWaitFrom, aWaitTo, aToldAt, aRisen, aUps, aTried, aRoutes])) X hT hq hG fp_X8_258 0 rfl rfl gu_M_jH gk_M (Nat.le_of_ble_eq_true rfl) rfl dX8_mix_11 (fun H locs hG => ?_)
  cases h
  rw [hQ]
  exact g_vret X hT hG hr hlk dX8_mix_14
def f8_mixPair_b1 (fu : Nat) (p1 : Int32) (p2 : Int32) (aWorths : (Nat → Int32)) (aMiddles : (Nat → Int32)) (aRankOf : (Nat → Int32)) (x3_21 : Int32) (iTold_22 : Int32) (jH_23 : Int64) (aWaitFrom_24 : (Nat → Int32)) (aWaitTo_25 : (Nat → Int32)) (aToldAt_26 : (Nat → Int32)) : Option ((Int32 × Int32 × Int64 × (Nat → Int32) × (Nat → Int32) × (Nat → Int32)) ⊕ (Int32 × Int64 × (Nat → Int32) × (Nat → Int32) × (Nat → Int32))) :=
  if 4 ≤ x3_21 then (some (.inr (iTold_22, jH_23, aWaitFrom_24, aWaitTo_25, aToldAt_26))) else bnd5 (f8_arcNow fu p1 p2 aWorths x3_21 aToldAt_26 aWaitFrom_24 aWaitTo_25 aMiddles aRankOf iTold_22) fun (r_34 : Int32) (iTold_35 : Int32) (aWaitFrom_36 : (Nat → Int32)) (aWaitTo_37 : (Nat → Int32)) (aToldAt_38 : (Nat → Int32)) => bnd1 (f8_mix jH_23 (r_34.toInt64)) fun (jH_40 : Int64) => bd (x3_21 + 1) fun x3_42 => some (.inl (x3_42, iTold_35, jH_40, aWaitFrom_36, aWaitTo_37, aToldAt_38))
def f8_mixPair (fu : Nat) (p1 : Int32) (p2 : Int32) (aLeasts : (Nat → Int32)) (jH : Int64) (iRoads : Int32) (aRisen : (Nat → Int32)) (aRoadAt : (Nat → Int32)) (aWorths : (Nat → Int32)) (aUps : (Nat → Int32)) (aMiddles : (Nat → Int32)) (aRankOf : (Nat → Int32)) (iTold : Int32) (aWaitFrom : (Nat → Int32)) (aWaitTo : (Nat → Int32)) (aToldAt : (Nat → Int32)) : Option (Int32 × Int64 × (Nat → Int32) × (Nat → Int32) × (Nat → Int32) × (Nat → Int32) × (Nat → Int32)) :=
  bnd1 (f8_leastNow p1 p2 aLeasts) fun (r_1 : Int32) => bnd1 (f8_mix jH (r_1.toInt64)) fun (jH_3 : Int64) => bnd2 (f8_risenTo fu iRoads p1 aRisen 1 aRoadAt aWorths p2) fun (r_5 : Int32) (aRisen_6 : (Nat → Int32)) => bnd1 (f8_mix jH_3 (r_5.toInt64)) fun (jH_8 : Int64) => bnd2 (f8_risenTo fu iRoads p1 aRisen_6 0 aRoadAt aWorths p2) fun (r_10 : Int32) (aRisen_11 : (Nat → Int32)) => bnd1 (f8_mix jH_8 (r_10.toInt64)) fun (jH_13 : Int64) => bnd3 (f8_meetNow fu iRoads p1 aRisen_11 aRoadAt aWorths aUps p2) fun (r_15 : Int32) (aRisen_16 : (Nat → Int32)) (aUps_17 : (Nat → Int32)) => bnd1 (f8_mix jH_13 (r_15.toInt64)) fun (jH_19 : Int64) => bnd5 (lpG (fun z => f8_mixPair_b1 fu p1 p2 aWorths aMiddles aRankOf z.1 z.2.1 z.2.2.1 z.2.2.2.1 z.2.2.2.2.1 z.2.2.2.2.2) fu ((0 : Int32), iTold, jH_19, aWaitFrom, aWaitTo, aToldAt)) fun (iTold_27 : Int32) (jH_28 : Int64) (aWaitFrom_29 : (Nat → Int32)) (aWaitTo_30 : (Nat → Int32)) (aToldAt_31 : (Nat → Int32)) => some (iTold_27, jH_28, aWaitFrom_29, aWaitTo_30, aToldAt_31, aRisen_16, aUps_17)
set_option maxHeartbeats 4000000 in
set_option maxRecDepth 100000 in
theorem c_X8_mixPair (hq : gJ layM q) {fu : Nat} {p1 : Int32} {p2 : Int32} {o_iTold : Int32} {o_jH : Int64} {o_aWaitFrom : (Nat → Int32)} {o_aWaitTo : (Nat → Int32)} {o_aToldAt : (Nat → Int32)} {o_aRisen : (Nat → Int32)} {o_aUps : (Nat → Int32)} (h : f8_mixPair fu p1 p2 aLeasts jH iRoads aRisen aRoadAt aWorths aUps aMiddles aRankOf iTold aWaitFrom aWaitTo aToldAt = some (o_iTold, o_jH, o_aWaitFrom, o_aWaitTo, o_aToldAt, o_aRisen, o_aUps)) :
    GM l yX8_mixPair cX8_mixPair 4 none 2 53 D cI cZ layM q [.ref (q 0), .int p1, .int p2] ([iPageLength, iRoads, iRead, iAltered, iRanked, iStage, iFigures, iNewRoads, iTold, iRouted, iRouteSum], [jH], [aPage, aBeginOf, aEndOf, aLengthOf, aCosts, aRankOf, aRoadAt, aWorths, aMiddles, aLeasts, aBusy, aNewBegin, aNewEnd, aNewLength, aIsLeft, aAround, aWhole, aIsNeeded, aWereRanks, aWaitFrom, aWaitTo, aToldAt, aRisen, aUps, aTried, aRoutes]) none ([iPageLength, iRoads, iRead, iAltered, iRanked, iStage, iFigures, iNewRoads, o_iTold, iRouted, iRouteSum], [o_jH], [aPage, aBeginOf, aEndOf, aLengthOf, aCosts, aRankOf, aRoadAt, aWorths, aMiddles, aLeasts, aBusy, aNewBegin, aNewEnd, aNewLength, aIsLeft, aAround, aWhole, aIsNeeded, aWereRanks, o_aWaitFrom, o_aWaitTo, o_aToldAt, o_aRisen, o_aUps, aTried, aRoutes]) := by
  refine GM.go RX8 (by decide) rfl (Nat.le_of_ble_eq_true rfl) ?_
  intro p e s m args below meth c ls R Q H locs X hr hlk hT hG hl hR hQ
  have hx := X.1
  have hb := X.2.1
  have hl : lv_has ls 4 [(0, .ref (q 0)), (1, .int p1), (2, .int p2)] := hl
  unfold f8_mixPair at h
  refine lv_aload_n hx hb dX8_mixPair_0 rfl (lv_at hl 0 rfl) ?_
  refine lv_aload_n hx hb dX8_mixPair_1 rfl (lv_at hl 0 rfl) ?_
  refine lv_iload_n hx hb dX8_mixPair_2 rfl (lv_at hl 1 rfl) ?_
  refine lv_iload_n hx hb dX8_mixPair_3 rfl (lv_at hl 2 rfl) ?_
  obtain ⟨r_1, ec2, h⟩ := bnd1_some h
  refine g_callVr [.int p1, .int p2] [.ref (q 0)] 0 X hT hG ml_X8_195 (c_X8_leastNow hq ec2) rfl rfl rfl rfl rfl hl.1 (Nat.le_of_ble_eq_true rfl) (by rw [hR]; exact ⟨Nat.le_of_ble_eq_true rfl, Nat.le_of_ble_eq_true rfl⟩) dX8_mixPair_4 (fun H locs hG => ?_)
  refine lv_i2l (v := r_1.toInt64) hx hb dX8_mixPair_7 rfl ?_
  obtain ⟨jH_3, ec4, h⟩ := bnd1_some h
  refine g_callVv [.long (r_1.toInt64)] [] 0 X hT hG ml_X8_262 (c_X8_mix hq ec4) rfl rfl rfl rfl rfl hl.1 (Nat.le_of_ble_eq_true rfl) (by rw [hR]; exact ⟨Nat.le_of_ble_eq_true rfl, Nat.le_of_ble_eq_true rfl⟩) dX8_mixPair_8 (fun H locs hG => ?_)
  have hG : GH D cI cZ layM q s ([iPageLength, iRoads, iRead, iAltered, iRanked, iStage, iFigures, iNewRoads, iTold, iRouted, iRouteSum], [jH_3], [aPage, aBeginOf, aEndOf, aLengthOf, aCosts, aRankOf, aRoadAt, aWorths, aMiddles, aLeasts, aBusy, aNewBegin, aNewEnd, aNewLength, aIsLeft, aAround, aWhole, aIsNeeded, aWereRanks, aWaitFrom, aWaitTo, aToldAt, aRisen, aUps, aTried, aRoutes]) H locs := hG
  refine lv_aload_n hx hb dX8_mixPair_11 rfl (lv_at hl 0 rfl) ?_
  refine lv_aload_n hx hb dX8_mixPair_12 rfl (lv_at hl 0 rfl) ?_
  refine lv_iload_n hx hb dX8_mixPair_13 rfl (lv_at hl 1 rfl) ?_
  refine lv_iload_n hx hb dX8_mixPair_14 rfl (lv_at hl 2 rfl) ?_
  refine lv_iconst (v := 1) hx hb dX8_mixPair_15 (by decide) ?_
  obtain ⟨r_5, aRisen_6, ec7, h⟩ := bnd2_some h
  refine g_callVr [.int p1, .int p2, .int 1] [.ref (q 0)] 0 X hT hG ml_X8_212 (c_X8_risenTo hq ec7) rfl rfl rfl rfl rfl hl.1 (Nat.le_of_ble_eq_true rfl) (by rw [hR]; exact ⟨Nat.le_of_ble_eq_true rfl, Nat.le_of_ble_eq_true rfl⟩) dX8_mixPair_16 (fun H locs hG => ?_)
  have hG : GH D cI cZ layM q s ([iPageLength, iRoads, iRead, iAltered, iRanked, iStage, iFigures, iNewRoads, iTold, iRouted, iRouteSum], [jH_3], [aPage, aBeginOf, aEndOf, aLengthOf, aCosts, aRankOf, aRoadAt, aWorths, aMiddles, aLeasts, aBusy, aNewBegin, aNewEnd, aNewLength, aIsLeft, aAround, aWhole, aIsNeeded, aWereRanks, aWaitFrom, aWaitTo, aToldAt, aRisen_6, aUps, aTried, aRoutes]) H locs := hG
  refine lv_i2l (v := r_5.toInt64) hx hb dX8_mixPair_19 rfl ?_
  obtain ⟨jH_8, ec9, h⟩ := bnd1_some h
  refine g_callVv [.long (r_5.toInt64)] [] 0 X hT hG ml_X8_262 (c_X8_mix hq ec9) rfl rfl rfl rfl rfl hl.1 (Nat.le_of_ble_eq_true rfl) (by rw [hR]; exact ⟨Nat.le_of_ble_eq_true rfl, Nat.le_of_ble_eq_true rfl⟩) dX8_mixPair_20 (fun H locs hG => ?_)
  have hG : GH D cI cZ layM q s ([iPageLength, iRoads, iRead, iAltered, iRanked, iStage, iFigures, iNewRoads, iTold, iRouted, iRouteSum], [jH_8], [aPage, aBeginOf, aEndOf, aLengthOf, aCosts, aRankOf, aRoadAt, aWorths, aMiddles, aLeasts, aBusy, aNewBegin, aNewEnd, aNewLength, aIsLeft, aAround, aWhole, aIsNeeded, aWereRanks, aWaitFrom, aWaitTo, aToldAt, aRisen_6, aUps, aTried, aRoutes]) H locs := hG
  refine lv_aload_n hx hb dX8_mixPair_23 rfl (lv_at hl 0 rfl) ?_
  refine lv_aload_n hx hb dX8_mixPair_24 rfl (lv_at hl 0 rfl) ?_
  refine lv_iload_n hx hb dX8_mixPair_25 rfl (lv_at hl 1 rfl) ?_
  refine lv_iload_n hx hb dX8_mixPair_26 rfl (lv_at hl 2 rfl) ?_
  refine lv_iconst (v := 0) hx hb dX8_mixPair_27 (by decide) ?_
  obtain ⟨r_10, aRisen_11, ec12, h⟩ := bnd2_some h
  refine g_callVr [.int p1, .int p2, .int 0] [.ref (q 0)] 0 X hT hG ml_X8_212 (c_X8_risenTo hq ec12) rfl rfl rfl rfl rfl hl.1 (Nat.le_of_ble_eq_true rfl) (by rw [hR]; exact ⟨Nat.le_of_ble_eq_true rfl, Nat.le_of_ble_eq_true rfl⟩) dX8_mixPair_28 (fun H locs hG => ?_)
  have hG : GH D cI cZ layM q s ([iPageLength, iRoads, iRead, iAltered, iRanked, iStage, iFigures, iNewRoads, iTold, iRouted, iRouteSum], [jH_8], [aPage, aBeginOf, aEndOf, aLengthOf, aCosts, aRankOf, aRoadAt, aWorths, aMiddles, aLeasts, aBusy, aNewBegin, aNewEnd, aNewLength, aIsLeft, aAround, aWhole, aIsNeeded, aWereRanks, aWaitFrom, aWaitTo, aToldAt, aRisen_11, aUps, aTried, aRoutes]) H locs := hG
  refine lv_i2l (v := r_10.toInt64) hx hb dX8_mixPair_31 rfl ?_
  obtain ⟨jH_13, ec14, h⟩ := bnd1_some h
  refine g_callVv [.long (r_10.toInt64)] [] 0 X hT hG ml_X8_262 (c_X8_mix hq ec14) rfl rfl rfl rfl rfl hl.1 (Nat.le_of_ble_eq_true rfl) (by rw [hR]; exact ⟨Nat.le_of_ble_eq_true rfl, Nat.le_of_ble_eq_true rfl⟩) dX8_mixPair_32 (fun H locs hG => ?_)
  have hG : GH D cI cZ layM q s ([iPageLength, iRoads, iRead, iAltered, iRanked, iStage, iFigures, iNewRoads, iTold, iRouted, iRouteSum], [jH_13], [aPage, aBeginOf, aEndOf, aLengthOf, aCosts, aRankOf, aRoadAt, aWorths, aMiddles, aLeasts, aBusy, aNewBegin, aNewEnd, aNewLength, aIsLeft, aAround, aWhole, aIsNeeded, aWereRanks, aWaitFrom, aWaitTo, aToldAt, aRisen_11, aUps, aTried, aRoutes]) H locs := hG
  refine lv_aload_n hx hb dX8_mixPair_35 rfl (lv_at hl 0 rfl) ?_
  refine lv_aload_n hx hb dX8_mixPair_36 rfl (lv_at hl 0 rfl) ?_
  refine lv_iload_n hx hb dX8_mixPair_37 rfl (lv_at hl 1 rfl) ?_
  refine lv_iload_n hx hb dX8_mixPair_38 rfl (lv_at hl 2 rfl) ?_
  obtain ⟨r_15, aRisen_16, aUps_17, ec18, h⟩ := bnd3_some h
  refine g_callVr [.int p1, .int p2] [.ref (q 0)] 0 X hT hG ml_X8_216 (c_X8_meetNow hq ec18) rfl rfl rfl rfl rfl hl.1 (Nat.le_of_ble_eq_true rfl) (by rw [hR]; exact ⟨Nat.le_of_ble_eq_true rfl, Nat.le_of_ble_eq_true rfl⟩) dX8_mixPair_39 (fun H locs hG => ?_)
  have hG : GH D cI cZ layM q s ([iPageLength, iRoads, iRead, iAltered, iRanked, iStage, iFigures, iNewRoads, iTold, iRouted, iRouteSum], [jH_13], [aPage, aBeginOf, aEndOf, aLengthOf, aCosts, aRankOf, aRoadAt, aWorths, aMiddles, aLeasts, aBusy, aNewBegin, aNewEnd, aNewLength, aIsLeft, aAround, aWhole, aIsNeeded, aWereRanks, aWaitFrom, aWaitTo, aToldAt, aRisen_16, aUps_17, aTried, aRoutes]) H locs := hG
  refine lv_i2l (v := r_15.toInt64) hx hb dX8_mixPair_42 rfl ?_
  obtain ⟨jH_19, ec20, h⟩ := bnd1_some h
  refine g_callVv [.long (r_15.toInt64)] [] 0 X hT hG ml_X8_262 (c_X8_mix hq ec20) rfl rfl rfl rfl rfl hl.1 (Nat.le_of_ble_eq_true rfl) (by rw [hR]; exact ⟨Nat.le_of_ble_eq_true rfl, Nat.le_of_ble_eq_true rfl⟩) dX8_mixPair_43 (fun H locs hG => ?_)
  have hG : GH D cI cZ layM q s ([iPageLength, iRoads, iRead, iAltered, iRanked, iStage, iFigures, iNewRoads, iTold, iRouted, iRouteSum], [jH_19], [aPage, aBeginOf, aEndOf, aLengthOf, aCosts, aRankOf, aRoadAt, aWorths, aMiddles, aLeasts, aBusy, aNewBegin, aNewEnd, aNewLength, aIsLeft, aAround, aWhole, aIsNeeded, aWereRanks, aWaitFrom, aWaitTo, aToldAt, aRisen_16, aUps_17, aTried, aRoutes]) H locs := hG
  refine lv_iconst (v := 0) hx hb dX8_mixPair_46 (by decide) ?_
  refine lv_istore_n (lv' := [(3, .int 0), (0, .ref (q 0)), (1, .int p1), (2, .int p2)]) hx hb dX8_mixPair_47 rfl hl (by decide) rfl (fun ls hl => ?_)
  obtain ⟨iTold_27, jH_28, aWaitFrom_29, aWaitTo_30, aToldAt_31, eL32, h⟩ := bnd5_some h
  have JX32 : ∀ (H : Heap) (locs : List Loc) (ls : Array Slot), GH D cI cZ layM q s ([iPageLength, iRoads, iRead, iAltered, iRanked, iStage, iFigures, iNewRoads, iTold_27, iRouted, iRouteSum], [jH_28], [aPage, aBeginOf, aEndOf, aLengthOf, aCosts, aRankOf, aRoadAt, aWorths, aMiddles, aLeasts, aBusy, aNewBegin, aNewEnd, aNewLength, aIsLeft, aAround, aWhole, aIsNeeded, aWereRanks, aWaitFrom_29, aWaitTo_30, aToldAt_31, aRisen_16, aUps_17, aTried, aRoutes]) H locs → lv_has ls 4 [] → W p l e R s m args below meth c H locs 0 0 Q (F0 m 71 ls []) := by
    intro H locs ls hG hl
    cases h
    rw [hQ]
    exact g_vret X hT hG hr hlk dX8_mixPair_71
  refine lpG_W (Wh := fun z => ∀ (H : Heap) (locs : List Loc) (ls : Array Slot), GH D cI cZ layM q s ([iPageLength, iRoads, iRead, iAltered, iRanked, iStage, iFigures, iNewRoads, z.2.1, iRouted, iRouteSum], [z.2.2.1], [aPage, aBeginOf, aEndOf, aLengthOf, aCosts, aRankOf, aRoadAt, aWorths, aMiddles, aLeasts, aBusy, aNewBegin, aNewEnd, aNewLength, aIsLeft, aAround, aWhole, aIsNeeded, aWereRanks, z.2.2.2.1, z.2.2.2.2.1, z.2.2.2.2.2, aRisen_16, aUps_17, aTried, aRoutes]) H locs → lv_has ls 4 [(0, .ref (q 0)), (1, .int p1), (2, .int p2), (3, .int (z.1))] → W p l e R s m args below meth c H locs 0 0 Q (F0 m 48 ls [])) ?_ fu _ eL32 H locs ls hG (lv_sub hl [1, 2, 3, 0] rfl)
  intro z rr32 hb32 hin32 hout32
  obtain ⟨x3_21, iTold_22, jH_23, aWaitFrom_24, aWaitTo_25, aToldAt_26⟩ := z
  intro H locs ls hG hl
  have hb32 : f8_mixPair_b1 fu p1 p2 aWorths aMiddles aRankOf x3_21 iTold_22 jH_23 aWaitFrom_24 aWaitTo_25 aToldAt_26 = some rr32 := hb32
  have hG : GH D cI cZ layM q s ([iPageLength, iRoads, iRead, iAltered, iRanked, iStage, iFigures, iNewRoads, iTold_22, iRouted, iRouteSum], [jH_23], [aPage, aBeginOf, aEndOf, aLengthOf, aCosts, aRankOf, aRoadAt, aWorths, aMiddles, aLeasts, aBusy, aNewBegin, aNewEnd, aNewLength, aIsLeft, aAround, aWhole, aIsNeeded, aWereRanks, aWaitFrom_24, aWaitTo_25, aToldAt_26, aRisen_16, aUps_17, aTried, aRoutes]) H locs := hG
  have hl : lv_has ls 4 [(0, .ref (q 0)), (1, .int p1), (2, .int p2), (3, .int x3_21)] := hl
  unfold f8_mixPair_b1 at hb32
  refine lv_iload_n hx hb dX8_mixPair_48 rfl (lv_at hl 3 rfl) ?_
  refine lv_iconst (v := 4) hx hb dX8_mixPair_49 (by decide) ?_
  refine lv_icmp_ge (tgt := 71) hx hb dX8_mixPair_50 (by decide) (fun cb33 => ?_) (fun cb33 => ?_)
  · have hb32 := ite_t cb33 hb32
    have eo := hout32 _ (Option.some.inj hb32).symm
    cases eo
    exact JX32 H locs ls hG (lv_sub hl [] rfl)
  · have hb32 := ite_f cb33 hb32
    refine lv_aload_n hx hb dX8_mixPair_53 rfl (lv_at hl 0 rfl) ?_
    refine lv_aload_n hx hb dX8_mixPair_54 rfl (lv_at hl 0 rfl) ?_
    refine lv_iload_n hx hb dX8_mixPair_55 rfl (lv_at hl 1 rfl) ?_
    refine lv_iload_n hx hb dX8_mixPair_56 rfl (lv_at hl 2 rfl) ?_
    refine lv_iload_n hx hb dX8_mixPair_57 rfl (lv_at hl 3 rfl) ?_
    obtain ⟨r_34, iTold_35, aWaitFrom_36, aWaitTo_37, aToldAt_38, ec39, hb32⟩ := bnd5_some hb32
    refine g_callVr [.int p1, .int p2, .int x3_21] [.ref (q 0)] 0 X hT hG ml_X8_204 (c_X8_arcNow hq ec39) rfl rfl rfl rfl rfl hl.1 (Nat.le_of_ble_eq_true rfl) (by rw [hR]; exact ⟨Nat.le_of_ble_eq_true rfl, Nat.le_of_ble_eq_true rfl⟩) dX8_mixPair_58 (fun H locs hG => ?_)
    have hG : GH D cI cZ layM q s ([iPageLength, iRoads, iRead, iAltered, iRanked, iStage, iFigures, iNewRoads, iTold_35, iRouted, iRouteSum], [jH_23], [aPage, aBeginOf, aEndOf, aLengthOf, aCosts, aRankOf, aRoadAt, aWorths, aMiddles, aLeasts, aBusy, aNewBegin, aNewEnd, aNewLength, aIsLeft, aAround, aWhole, aIsNeeded, aWereRanks, aWaitFrom_36, aWaitTo_37, aToldAt_38, aRisen_16, aUps_17, aTried, aRoutes]) H locs := hG
    refine lv_i2l (v := r_34.toInt64) hx hb dX8_mixPair_61 rfl ?_
    obtain ⟨jH_40, ec41, hb32⟩ := bnd1_some hb32
    refine g_callVv [.long (r_34.toInt64)] [] 0 X hT hG ml_X8_262 (c_X8_mix hq ec41) rfl rfl rfl rfl rfl hl.1 (Nat.le_of_ble_eq_true rfl) (by rw [hR]; exact ⟨Nat.le_of_ble_eq_true rfl, Nat.le_of_ble_eq_true rfl⟩) dX8_mixPair_62 (fun H locs hG => ?_)
    have hG : GH D cI cZ layM q s ([iPageLength, iRoads, iRead, iAltered, iRanked, iStage, iFigures, iNewRoads, iTold_35, iRouted, iRouteSum], [jH_40], [aPage, aBeginOf, aEndOf, aLengthOf, aCosts, aRankOf, aRoadAt, aWorths, aMiddles, aLeasts, aBusy, aNewBegin, aNewEnd, aNewLength, aIsLeft, aAround, aWhole, aIsNeeded, aWereRanks, aWaitFrom_36, aWaitTo_37, aToldAt_38, aRisen_16, aUps_17, aTried, aRoutes]) H locs := hG
    obtain ⟨x3_42, ex3_42⟩ : ∃ z : Int32, z = x3_21 + 1 := ⟨_, rfl⟩
    have hb32 := bd_e ex3_42 hb32
    refine lv_iinc (v := x3_42) (lv' := [(3, .int x3_42), (0, .ref (q 0)), (1, .int p1), (2, .int p2)]) hx hb dX8_mixPair_65 hl (k := 3) rfl (by rw [ex3_42]; rfl) (by decide) rfl (fun ls hl => ?_)
    refine lv_goto (tgt := 48) hx hb dX8_mixPair_68 (by decide) ?_
    exact hin32 _ (Option.some.inj hb32).symm H locs ls hG (lv_sub hl [1, 2, 3, 0] rfl)
def f8_digest_b1 (fu : Nat) (iRoads : Int32) (aBeginOf : (Nat → Int32)) (aEndOf : (Nat → Int32)) (aLengthOf : (Nat → Int32)) (aRankOf : (Nat → Int32)) (aWorths : (Nat → Int32)) (aMiddles : (Nat → Int32)) (aBusy : (Nat → Int32)) (x1_1 : Int32) (jH_2 : Int64) : Option ((Int32 × Int64) ⊕ (Int64)) :=
  if (6 * iRoads) ≤ x1_1 then (some (.inr jH_2)) else bnd1 (f8_roadNow fu (x1_1 - x1_1 / 6 * 6) (x1_1 / 6) aBeginOf aEndOf aLengthOf aRankOf iRoads aWorths aMiddles aBusy) fun (r_6 : Int32) => bnd1 (f8_mix jH_2 (r_6.toInt64)) fun (jH_8 : Int64) => bd (x1_1 + 1) fun x1_10 => some (.inl (x1_10, jH_8))
def f8_digest_b3 (fu : Nat) (iRoads : Int32) (x1_11 : Int32) (aLeasts : (Nat → Int32)) (aRoadAt : (Nat → Int32)) (aWorths : (Nat → Int32)) (aMiddles : (Nat → Int32)) (aRankOf : (Nat → Int32)) (x2_28 : Int32) (iTold_29 : Int32) (jH_30 : Int64) (aWaitFrom_31 : (Nat → Int32)) (aWaitTo_32 : (Nat → Int32)) (aToldAt_33 : (Nat → Int32)) (aRisen_34 : (Nat → Int32)) (aUps_35 : (Nat → Int32)) : Option ((Int32 × Int32 × Int64 × (Nat → Int32) × (Nat → Int32) × (Nat → Int32) × (Nat → Int32) × (Nat → Int32)) ⊕ (Int32 × Int64 × (Nat → Int32) × (Nat → Int32) × (Nat → Int32) × (Nat → Int32) × (Nat → Int32))) :=
  if iRoads ≤ x2_28 then (some (.inr (iTold_29, jH_30, aWaitFrom_31, aWaitTo_32, aToldAt_33, aRisen_34, aUps_35))) else bnd7 (f8_mixPair fu x1_11 x2_28 aLeasts jH_30 iRoads aRisen_34 aRoadAt aWorths aUps_35 aMiddles aRankOf iTold_29 aWaitFrom_31 aWaitTo_32 aToldAt_33) fun (iTold_45 : Int32) (jH_46 : Int64) (aWaitFrom_47 : (Nat → Int32)) (aWaitTo_48 : (Nat → Int32)) (aToldAt_49 : (Nat → Int32)) (aRisen_50 : (Nat → Int32)) (aUps_51 : (Nat → Int32)) => bd (x2_28 + 1) fun x2_53 => some (.inl (x2_53, iTold_45, jH_46, aWaitFrom_47, aWaitTo_48, aToldAt_49, aRisen_50, aUps_51))
def f8_digest_b2 (fu : Nat) (iRoads : Int32) (aLeasts : (Nat → Int32)) (aRoadAt : (Nat → Int32)) (aWorths : (Nat → Int32)) (aMiddles : (Nat → Int32)) (aRankOf : (Nat → Int32)) (x1_11 : Int32) (iTold_12 : Int32) (jH_13 : Int64) (aWaitFrom_14 : (Nat → Int32)) (aWaitTo_15 : (Nat → Int32)) (aToldAt_16 : (Nat → Int32)) (aRisen_17 : (Nat → Int32)) (aUps_18 : (Nat → Int32)) : Option ((Int32 × Int32 × Int64 × (Nat → Int32) × (Nat → Int32) × (Nat → Int32) × (Nat → Int32) × (Nat → Int32)) ⊕ (Int32 × Int64 × (Nat → Int32) × (Nat → Int32) × (Nat → Int32) × (Nat → Int32) × (Nat → Int32))) :=
  if iRoads ≤ x1_11 then (some (.inr (iTold_12, jH_13, aWaitFrom_14, aWaitTo_15, aToldAt_16, aRisen_17, aUps_18))) else bnd7 (lpG (fun z => f8_digest_b3 fu iRoads x1_11 aLeasts aRoadAt aWorths aMiddles aRankOf z.1 z.2.1 z.2.2.1 z.2.2.2.1 z.2.2.2.2.1 z.2.2.2.2.2.1 z.2.2.2.2.2.2.1 z.2.2.2.2.2.2.2) fu ((0 : Int32), iTold_12, jH_13, aWaitFrom_14, aWaitTo_15, aToldAt_16, aRisen_17, aUps_18)) fun (iTold_36 : Int32) (jH_37 : Int64) (aWaitFrom_38 : (Nat → Int32)) (aWaitTo_39 : (Nat → Int32)) (aToldAt_40 : (Nat → Int32)) (aRisen_41 : (Nat → Int32)) (aUps_42 : (Nat → Int32)) => bd (x1_11 + 1) fun x1_54 => some (.inl (x1_54, iTold_36, jH_37, aWaitFrom_38, aWaitTo_39, aToldAt_40, aRisen_41, aUps_42))
def f8_digest_b4 (aRoutes_58 : (Nat → Int32)) (x1_60 : Int32) (jH_61 : Int64) : Option ((Int32 × Int64) ⊕ (Int64)) :=
  if 64 ≤ x1_60 then (some (.inr jH_61)) else bnd1 (if (x1_60 / 8) = (x1_60 - x1_60 / 8 * 8) then (some jH_61) else ckin x1_60 64 (bnd1 (if (aRoutes_58 x1_60.toNatClampNeg) < 268435456 then (ckin x1_60 64 (some ((aRoutes_58 x1_60.toNatClampNeg).toInt64))) else some (-1)) fun (y_69 : Int64) => bnd1 (f8_mix jH_61 y_69) fun (jH_73 : Int64) => some jH_73)) fun (jH_65 : Int64) => bd (x1_60 + 1) fun x1_75 => some (.inl (x1_75, jH_65))
def f8_digest_b5 (fu : Nat) (iRoads : Int32) (aCosts : (Nat → Int32)) (aLengthOf : (Nat → Int32)) (aBeginOf : (Nat → Int32)) (aEndOf : (Nat → Int32)) (x1_76 : Int32) (iRouted_77 : Int32) (iRouteSum_78 : Int32) (jH_79 : Int64) (aTried_80 : (Nat → Int32)) (aRoutes_81 : (Nat → Int32)) : Option ((Int32 × Int32 × Int32 × Int64 × (Nat → Int32) × (Nat → Int32)) ⊕ (Int32 × Int32 × Int64 × (Nat → Int32) × (Nat → Int32))) :=
  if iRoads ≤ x1_76 then (some (.inr (iRouted_77, iRouteSum_78, jH_79, aTried_80, aRoutes_81))) else bnd5 (f8_lossNow fu iRoads aCosts aLengthOf aTried_80 aBeginOf aEndOf aRoutes_81 x1_76 100) fun (r_89 : Int32) (iRouted_90 : Int32) (iRouteSum_91 : Int32) (aTried_92 : (Nat → Int32)) (aRoutes_93 : (Nat → Int32)) => bnd1 (f8_mix jH_79 (r_89.toInt64)) fun (jH_95 : Int64) => bd (x1_76 + 1) fun x1_97 => some (.inl (x1_97, iRouted_90, iRouteSum_91, jH_95, aTried_92, aRoutes_93))
def f8_digest_b6 (fu : Nat) (iRoads : Int32) (aCosts : (Nat → Int32)) (aLengthOf : (Nat → Int32)) (aBeginOf : (Nat → Int32)) (aEndOf : (Nat → Int32)) (aBusy : (Nat → Int32)) (aWorths : (Nat → Int32)) (aMiddles : (Nat → Int32)) (x1_98 : Int32) (iRouted_99 : Int32) (iRouteSum_100 : Int32) (jH_101 : Int64) (aTried_102 : (Nat → Int32)) (aRoutes_103 : (Nat → Int32)) : Option ((Int32 × Int32 × Int32 × Int64 × (Nat → Int32) × (Nat → Int32)) ⊕ (Int32 × Int32 × Int64 × (Nat → Int32) × (Nat → Int32))) :=
  if 6 ≤ x1_98 then (some (.inr (iRouted_99, iRouteSum_100, jH_101, aTried_102, aRoutes_103))) else bnd5 (f8_allNow fu iRoads aCosts aLengthOf aTried_102 aBeginOf aEndOf aRoutes_103 x1_98 aBusy aWorths aMiddles) fun (r_111 : Int32) (iRouted_112 : Int32) (iRouteSum_113 : Int32) (aTried_114 : (Nat → Int32)) (aRoutes_115 : (Nat → Int32)) => bnd1 (f8_mix jH_101 (r_111.toInt64)) fun (jH_117 : Int64) => bd (x1_98 + 1) fun x1_119 => some (.inl (x1_119, iRouted_112, iRouteSum_113, jH_117, aTried_114, aRoutes_115))
def f8_digest_b7 (iPageLength : Int32) (aPage : (Nat → Int32)) (x1_120 : Int32) (jH_121 : Int64) : Option ((Int32 × Int64) ⊕ (Int64)) :=
  if iPageLength ≤ x1_120 then (some (.inr jH_121)) else ckin x1_120 60 (bnd1 (f8_mix jH_121 ((aPage x1_120.toNatClampNeg).toInt64)) fun (jH_126 : Int64) => bd (x1_120 + 1) fun x1_128 => some (.inl (x1_128, jH_126)))
def f8_digest_b8 (fu : Nat) (iRoads : Int32) (iPageLength : Int32) (aEndOf : (Nat → Int32)) (aBeginOf : (Nat → Int32)) (aCosts : (Nat → Int32)) (iRead : Int32) (iAltered : Int32) (iRanked : Int32) (x1_129 : Int32) (jH_130 : Int64) : Option ((Int32 × Int64) ⊕ (Int64)) :=
  if 7 ≤ x1_129 then (some (.inr jH_130)) else bnd1 (f8_howMany fu x1_129 iRoads iPageLength aEndOf aBeginOf aCosts iRead iAltered iRanked) fun (r_134 : Int32) => bnd1 (f8_mix jH_130 (r_134.toInt64)) fun (jH_136 : Int64) => bd (x1_129 + 1) fun x1_138 => some (.inl (x1_138, jH_136))
def f8_digest (fu : Nat) (iRoads : Int32) (aBeginOf : (Nat → Int32)) (aEndOf : (Nat → Int32)) (aLengthOf : (Nat → Int32)) (aRankOf : (Nat → Int32)) (aWorths : (Nat → Int32)) (aMiddles : (Nat → Int32)) (aBusy : (Nat → Int32)) (aLeasts : (Nat → Int32)) (aRoadAt : (Nat → Int32)) (iTold : Int32) (aWaitFrom : (Nat → Int32)) (aWaitTo : (Nat → Int32)) (aToldAt : (Nat → Int32)) (aRisen : (Nat → Int32)) (aUps : (Nat → Int32)) (aCosts : (Nat → Int32)) (aTried : (Nat → Int32)) (aRoutes : (Nat → Int32)) (iPageLength : Int32) (aPage : (Nat → Int32)) (iRead : Int32) (iAltered : Int32) (iRanked : Int32) : Option (Int64 × Int32 × Int32 × Int32 × Int64 × (Nat → Int32) × (Nat → Int32) × (Nat → Int32) × (Nat → Int32) × (Nat → Int32) × (Nat → Int32) × (Nat → Int32)) :=
  bnd1 (lpG (fun z => f8_digest_b1 fu iRoads aBeginOf aEndOf aLengthOf aRankOf aWorths aMiddles aBusy z.1 z.2) fu ((0 : Int32), (1627 : Int64))) fun (jH_3 : Int64) => bnd7 (lpG (fun z => f8_digest_b2 fu iRoads aLeasts aRoadAt aWorths aMiddles aRankOf z.1 z.2.1 z.2.2.1 z.2.2.2.1 z.2.2.2.2.1 z.2.2.2.2.2.1 z.2.2.2.2.2.2.1 z.2.2.2.2.2.2.2) fu ((0 : Int32), iTold, jH_3, aWaitFrom, aWaitTo, aToldAt, aRisen, aUps)) fun (iTold_19 : Int32) (jH_20 : Int64) (aWaitFrom_21 : (Nat → Int32)) (aWaitTo_22 : (Nat → Int32)) (aToldAt_23 : (Nat → Int32)) (aRisen_24 : (Nat → Int32)) (aUps_25 : (Nat → Int32)) => bnd4 (f8_layRoutes fu iRoads aCosts aLengthOf aTried aBeginOf aEndOf aRoutes) fun (iRouted_55 : Int32) (iRouteSum_56 : Int32) (aTried_57 : (Nat → Int32)) (aRoutes_58 : (Nat → Int32)) => bnd1 (lpG (fun z => f8_digest_b4 aRoutes_58 z.1 z.2) fu ((0 : Int32), jH_20)) fun (jH_62 : Int64) => bnd5 (lpG (fun z => f8_digest_b5 fu iRoads aCosts aLengthOf aBeginOf aEndOf z.1 z.2.1 z.2.2.1 z.2.2.2.1 z.2.2.2.2.1 z.2.2.2.2.2) fu ((0 : Int32), iRouted_55, iRouteSum_56, jH_62, aTried_57, aRoutes_58)) fun (iRouted_82 : Int32) (iRouteSum_83 : Int32) (jH_84 : Int64) (aTried_85 : (Nat → Int32)) (aRoutes_86 : (Nat → Int32)) => bnd5 (lpG (fun z => f8_digest_b6 fu iRoads aCosts aLengthOf aBeginOf aEndOf aBusy aWorths aMiddles z.1 z.2.1 z.2.2.1 z.2.2.2.1 z.2.2.2.2.1 z.2.2.2.2.2) fu ((0 : Int32), iRouted_82, iRouteSum_83, jH_84, aTried_85, aRoutes_86)) fun (iRouted_104 : Int32) (iRouteSum_105 : Int32) (jH_106 : Int64) (aTried_107 : (Nat → Int32)) (aRoutes_108 : (Nat → Int32)) => bnd1 (lpG (fun z => f8_digest_b7 iPageLength aPage z.1 z.2) fu ((0 : Int32), jH_106)) fun (jH_122 : Int64) => bnd1 (lpG (fun z => f8_digest_b8 fu iRoads iPageLength aEndOf aBeginOf aCosts iRead iAltered iRanked z.1 z.2) fu ((0 : Int32), jH_122)) fun (jH_131 : Int64) => some (jH_131, iTold_19, iRouted_104, iRouteSum_105, jH_131, aWaitFrom_21, aWaitTo_22, aToldAt_23, aRisen_24, aUps_25, aTried_107, aRoutes_108)
set_option maxHeartbeats 4000000 in
set_option maxRecDepth 100000 in
theorem c_X8_digest (hq : gJ layM q) {fu : Nat} {o_r : Int64} {o_iTold : Int32} {o_iRouted : Int32} {o_iRouteSum : Int32} {o_jH : Int64} {o_aWaitFrom : (Nat → Int32)} {o_aWaitTo : (Nat → Int32)} {o_aToldAt : (Nat → Int32)} {o_aRisen : (Nat → Int32)} {o_aUps : (Nat → Int32)} {o_aTried : (Nat → Int32)} {o_aRoutes : (Nat → Int32)} (h : f8_digest fu iRoads aBeginOf aEndOf aLengthOf aRankOf aWorths aMiddles aBusy aLeasts aRoadAt iTold aWaitFrom aWaitTo aToldAt aRisen aUps aCosts aTried aRoutes iPageLength aPage iRead iAltered iRanked = some (o_r, o_iTold, o_iRouted, o_iRouteSum, o_jH, o_aWaitFrom, o_aWaitTo, o_aToldAt, o_aRisen, o_aUps, o_aTried, o_aRoutes)) :
    GM l yX8_digest cX8_digest 3 (some .long) 4 93 D cI cZ layM q [.ref (q 0)] ([iPageLength, iRoads, iRead, iAltered, iRanked, iStage, iFigures, iNewRoads, iTold, iRouted, iRouteSum], [jH], [aPage, aBeginOf, aEndOf, aLengthOf, aCosts, aRankOf, aRoadAt, aWorths, aMiddles, aLeasts, aBusy, aNewBegin, aNewEnd, aNewLength, aIsLeft, aAround, aWhole, aIsNeeded, aWereRanks, aWaitFrom, aWaitTo, aToldAt, aRisen, aUps, aTried, aRoutes]) (some (.long o_r)) ([iPageLength, iRoads, iRead, iAltered, iRanked, iStage, iFigures, iNewRoads, o_iTold, o_iRouted, o_iRouteSum], [o_jH], [aPage, aBeginOf, aEndOf, aLengthOf, aCosts, aRankOf, aRoadAt, aWorths, aMiddles, aLeasts, aBusy, aNewBegin, aNewEnd, aNewLength, aIsLeft, aAround, aWhole, aIsNeeded, aWereRanks, o_aWaitFrom, o_aWaitTo, o_aToldAt, o_aRisen, o_aUps, o_aTried, o_aRoutes]) := by
  refine GM.go RX8 (by decide) rfl (Nat.le_of_ble_eq_true rfl) ?_
  intro p e s m args below meth c ls R Q H locs X hr hlk hT hG hl hR hQ
  have hx := X.1
  have hb := X.2.1
  have hl : lv_has ls 3 [(0, .ref (q 0))] := hl
  unfold f8_digest at h
  refine lv_aload_n hx hb dX8_digest_0 rfl (lv_at hl 0 rfl) ?_
  refine lv_ldc2 (v := 1627) hx hb X.2.2.2.1 (X.2.2.2.2 _ cn_X8_266) dX8_digest_1 ?_
  refine g_putJ (w' := ([iPageLength, iRoads, iRead, iAltered, iRanked, iStage, iFigures, iNewRoads, iTold, iRouted, iRouteSum], [1627], [aPage, aBeginOf, aEndOf, aLengthOf, aCosts, aRankOf, aRoadAt, aWorths, aMiddles, aLeasts, aBusy, aNewBegin, aNewEnd, aNewLength, aIsLeft, aAround, aWhole, aIsNeeded, aWereRanks, aWaitFrom, aWaitTo, aToldAt, aRisen, aUps, aTried, aRoutes])) X hT hq hG fp_X8_258 0 rfl rfl gu_M_jH gk_M (Nat.le_of_ble_eq_true rfl) rfl dX8_digest_4 (fun H locs hG => ?_)
  refine lv_iconst (v := 0) hx hb dX8_digest_7 (by decide) ?_
  refine lv_istore_n (lv' := [(1, .int 0), (0, .ref (q 0))]) hx hb dX8_digest_8 rfl hl (by decide) rfl (fun ls hl => ?_)
  obtain ⟨jH_3, eL4, h⟩ := bnd1_some h
  have JX4 : ∀ (H : Heap) (locs : List Loc) (ls : Array Slot), GH D cI cZ layM q s ([iPageLength, iRoads, iRead, iAltered, iRanked, iStage, iFigures, iNewRoads, iTold, iRouted, iRouteSum], [jH_3], [aPage, aBeginOf, aEndOf, aLengthOf, aCosts, aRankOf, aRoadAt, aWorths, aMiddles, aLeasts, aBusy, aNewBegin, aNewEnd, aNewLength, aIsLeft, aAround, aWhole, aIsNeeded, aWereRanks, aWaitFrom, aWaitTo, aToldAt, aRisen, aUps, aTried, aRoutes]) H locs → lv_has ls 3 [(0, .ref (q 0))] → W p l e R s m args below meth c H locs 0 0 Q (F0 m 43 ls []) := by
    intro H locs ls hG hl
    refine lv_iconst (v := 0) hx hb dX8_digest_43 (by decide) ?_
    refine lv_istore_n (lv' := [(1, .int 0), (0, .ref (q 0))]) hx hb dX8_digest_44 rfl hl (by decide) rfl (fun ls hl => ?_)
    obtain ⟨iTold_19, jH_20, aWaitFrom_21, aWaitTo_22, aToldAt_23, aRisen_24, aUps_25, eL26, h⟩ := bnd7_some h
    have JX26 : ∀ (H : Heap) (locs : List Loc) (ls : Array Slot), GH D cI cZ layM q s ([iPageLength, iRoads, iRead, iAltered, iRanked, iStage, iFigures, iNewRoads, iTold_19, iRouted, iRouteSum], [jH_20], [aPage, aBeginOf, aEndOf, aLengthOf, aCosts, aRankOf, aRoadAt, aWorths, aMiddles, aLeasts, aBusy, aNewBegin, aNewEnd, aNewLength, aIsLeft, aAround, aWhole, aIsNeeded, aWereRanks, aWaitFrom_21, aWaitTo_22, aToldAt_23, aRisen_24, aUps_25, aTried, aRoutes]) H locs → lv_has ls 3 [(0, .ref (q 0))] → W p l e R s m args below meth c H locs 0 0 Q (F0 m 81 ls []) := by
      intro H locs ls hG hl
      refine lv_aload_n hx hb dX8_digest_81 rfl (lv_at hl 0 rfl) ?_
      obtain ⟨iRouted_55, iRouteSum_56, aTried_57, aRoutes_58, ec59, h⟩ := bnd4_some h
      refine g_callVv [] [] 0 X hT hG ml_X8_234 (c_X8_layRoutes hq ec59) rfl rfl rfl rfl rfl hl.1 (Nat.le_of_ble_eq_true rfl) (by rw [hR]; exact ⟨Nat.le_of_ble_eq_true rfl, Nat.le_of_ble_eq_true rfl⟩) dX8_digest_82 (fun H locs hG => ?_)
      have hG : GH D cI cZ layM q s ([iPageLength, iRoads, iRead, iAltered, iRanked, iStage, iFigures, iNewRoads, iTold_19, iRouted_55, iRouteSum_56], [jH_20], [aPage, aBeginOf, aEndOf, aLengthOf, aCosts, aRankOf, aRoadAt, aWorths, aMiddles, aLeasts, aBusy, aNewBegin, aNewEnd, aNewLength, aIsLeft, aAround, aWhole, aIsNeeded, aWereRanks, aWaitFrom_21, aWaitTo_22, aToldAt_23, aRisen_24, aUps_25, aTried_57, aRoutes_58]) H locs := hG
      refine lv_iconst (v := 0) hx hb dX8_digest_85 (by decide) ?_
      refine lv_istore_n (lv' := [(1, .int 0), (0, .ref (q 0))]) hx hb dX8_digest_86 rfl hl (by decide) rfl (fun ls hl => ?_)
      obtain ⟨jH_62, eL63, h⟩ := bnd1_some h
      have JX63 : ∀ (H : Heap) (locs : List Loc) (ls : Array Slot), GH D cI cZ layM q s ([iPageLength, iRoads, iRead, iAltered, iRanked, iStage, iFigures, iNewRoads, iTold_19, iRouted_55, iRouteSum_56], [jH_62], [aPage, aBeginOf, aEndOf, aLengthOf, aCosts, aRankOf, aRoadAt, aWorths, aMiddles, aLeasts, aBusy, aNewBegin, aNewEnd, aNewLength, aIsLeft, aAround, aWhole, aIsNeeded, aWereRanks, aWaitFrom_21, aWaitTo_22, aToldAt_23, aRisen_24, aUps_25, aTried_57, aRoutes_58]) H locs → lv_has ls 3 [(0, .ref (q 0))] → W p l e R s m args below meth c H locs 0 0 Q (F0 m 138 ls []) := by
        intro H locs ls hG hl
        refine lv_iconst (v := 0) hx hb dX8_digest_138 (by decide) ?_
        refine lv_istore_n (lv' := [(1, .int 0), (0, .ref (q 0))]) hx hb dX8_digest_139 rfl hl (by decide) rfl (fun ls hl => ?_)
        obtain ⟨iRouted_82, iRouteSum_83, jH_84, aTried_85, aRoutes_86, eL87, h⟩ := bnd5_some h
        have JX87 : ∀ (H : Heap) (locs : List Loc) (ls : Array Slot), GH D cI cZ layM q s ([iPageLength, iRoads, iRead, iAltered, iRanked, iStage, iFigures, iNewRoads, iTold_19, iRouted_82, iRouteSum_83], [jH_84], [aPage, aBeginOf, aEndOf, aLengthOf, aCosts, aRankOf, aRoadAt, aWorths, aMiddles, aLeasts, aBusy, aNewBegin, aNewEnd, aNewLength, aIsLeft, aAround, aWhole, aIsNeeded, aWereRanks, aWaitFrom_21, aWaitTo_22, aToldAt_23, aRisen_24, aUps_25, aTried_85, aRoutes_86]) H locs → lv_has ls 3 [(0, .ref (q 0))] → W p l e R s m args below meth c H locs 0 0 Q (F0 m 166 ls []) := by
          intro H locs ls hG hl
          refine lv_iconst (v := 0) hx hb dX8_digest_166 (by decide) ?_
          refine lv_istore_n (lv' := [(1, .int 0), (0, .ref (q 0))]) hx hb dX8_digest_167 rfl hl (by decide) rfl (fun ls hl => ?_)
          obtain ⟨iRouted_104, iRouteSum_105, jH_106, aTried_107, aRoutes_108, eL109, h⟩ := bnd5_some h
          have JX109 : ∀ (H : Heap) (locs : List Loc) (ls : Array Slot), GH D cI cZ layM q s ([iPageLength, iRoads, iRead, iAltered, iRanked, iStage, iFigures, iNewRoads, iTold_19, iRouted_104, iRouteSum_105], [jH_106], [aPage, aBeginOf, aEndOf, aLengthOf, aCosts, aRankOf, aRoadAt, aWorths, aMiddles, aLeasts, aBusy, aNewBegin, aNewEnd, aNewLength, aIsLeft, aAround, aWhole, aIsNeeded, aWereRanks, aWaitFrom_21, aWaitTo_22, aToldAt_23, aRisen_24, aUps_25, aTried_107, aRoutes_108]) H locs → lv_has ls 3 [(0, .ref (q 0))] → W p l e R s m args below meth c H locs 0 0 Q (F0 m 190 ls []) := by
            intro H locs ls hG hl
            refine lv_iconst (v := 0) hx hb dX8_digest_190 (by decide) ?_
            refine lv_istore_n (lv' := [(1, .int 0), (0, .ref (q 0))]) hx hb dX8_digest_191 rfl hl (by decide) rfl (fun ls hl => ?_)
            obtain ⟨jH_122, eL123, h⟩ := bnd1_some h
            have JX123 : ∀ (H : Heap) (locs : List Loc) (ls : Array Slot), GH D cI cZ layM q s ([iPageLength, iRoads, iRead, iAltered, iRanked, iStage, iFigures, iNewRoads, iTold_19, iRouted_104, iRouteSum_105], [jH_122], [aPage, aBeginOf, aEndOf, aLengthOf, aCosts, aRankOf, aRoadAt, aWorths, aMiddles, aLeasts, aBusy, aNewBegin, aNewEnd, aNewLength, aIsLeft, aAround, aWhole, aIsNeeded, aWereRanks, aWaitFrom_21, aWaitTo_22, aToldAt_23, aRisen_24, aUps_25, aTried_107, aRoutes_108]) H locs → lv_has ls 3 [(0, .ref (q 0))] → W p l e R s m args below meth c H locs 0 0 Q (F0 m 217 ls []) := by
              intro H locs ls hG hl
              refine lv_iconst (v := 0) hx hb dX8_digest_217 (by decide) ?_
              refine lv_istore_n (lv' := [(1, .int 0), (0, .ref (q 0))]) hx hb dX8_digest_218 rfl hl (by decide) rfl (fun ls hl => ?_)
              obtain ⟨jH_131, eL132, h⟩ := bnd1_some h
              have JX132 : ∀ (H : Heap) (locs : List Loc) (ls : Array Slot), GH D cI cZ layM q s ([iPageLength, iRoads, iRead, iAltered, iRanked, iStage, iFigures, iNewRoads, iTold_19, iRouted_104, iRouteSum_105], [jH_131], [aPage, aBeginOf, aEndOf, aLengthOf, aCosts, aRankOf, aRoadAt, aWorths, aMiddles, aLeasts, aBusy, aNewBegin, aNewEnd, aNewLength, aIsLeft, aAround, aWhole, aIsNeeded, aWereRanks, aWaitFrom_21, aWaitTo_22, aToldAt_23, aRisen_24, aUps_25, aTried_107, aRoutes_108]) H locs → lv_has ls 3 [(0, .ref (q 0))] → W p l e R s m args below meth c H locs 0 0 Q (F0 m 241 ls []) := by
                intro H locs ls hG hl
                refine lv_aload_n hx hb dX8_digest_241 rfl (lv_at hl 0 rfl) ?_
                refine g_get (v := .long jH_131) X hT hG fl_X8_258 0 rfl rfl rfl dX8_digest_242 ?_
                cases h
                rw [hQ]
                exact g_lret X hT hG hr hlk dX8_digest_245
              refine lpG_W (Wh := fun z => ∀ (H : Heap) (locs : List Loc) (ls : Array Slot), GH D cI cZ layM q s ([iPageLength, iRoads, iRead, iAltered, iRanked, iStage, iFigures, iNewRoads, iTold_19, iRouted_104, iRouteSum_105], [z.2], [aPage, aBeginOf, aEndOf, aLengthOf, aCosts, aRankOf, aRoadAt, aWorths, aMiddles, aLeasts, aBusy, aNewBegin, aNewEnd, aNewLength, aIsLeft, aAround, aWhole, aIsNeeded, aWereRanks, aWaitFrom_21, aWaitTo_22, aToldAt_23, aRisen_24, aUps_25, aTried_107, aRoutes_108]) H locs → lv_has ls 3 [(0, .ref (q 0)), (1, .int (z.1))] → W p l e R s m args below meth c H locs 0 0 Q (F0 m 219 ls [])) ?_ fu _ eL132 H locs ls hG (lv_sub hl [1, 0] rfl)
              intro z rr132 hb132 hin132 hout132
              obtain ⟨x1_129, jH_130⟩ := z
              intro H locs ls hG hl
              have hb132 : f8_digest_b8 fu iRoads iPageLength aEndOf aBeginOf aCosts iRead iAltered iRanked x1_129 jH_130 = some rr132 := hb132
              have hG : GH D cI cZ layM q s ([iPageLength, iRoads, iRead, iAltered, iRanked, iStage, iFigures, iNewRoads, iTold_19, iRouted_104, iRouteSum_105], [jH_130], [aPage, aBeginOf, aEndOf, aLengthOf, aCosts, aRankOf, aRoadAt, aWorths, aMiddles, aLeasts, aBusy, aNewBegin, aNewEnd, aNewLength, aIsLeft, aAround, aWhole, aIsNeeded, aWereRanks, aWaitFrom_21, aWaitTo_22, aToldAt_23, aRisen_24, aUps_25, aTried_107, aRoutes_108]) H locs := hG
              have hl : lv_has ls 3 [(0, .ref (q 0)), (1, .int x1_129)] := hl
              unfold f8_digest_b8 at hb132
              refine lv_iload_n hx hb dX8_digest_219 rfl (lv_at hl 1 rfl) ?_
              refine lv_bipush (v := 7) hx hb dX8_digest_220 (by decide) ?_
              refine lv_icmp_ge (tgt := 241) hx hb dX8_digest_222 (by decide) (fun cb133 => ?_) (fun cb133 => ?_)
              · have hb132 := ite_t cb133 hb132
                have eo := hout132 _ (Option.some.inj hb132).symm
                cases eo
                exact JX132 H locs ls hG (lv_sub hl [0] rfl)
              · have hb132 := ite_f cb133 hb132
                refine lv_aload_n hx hb dX8_digest_225 rfl (lv_at hl 0 rfl) ?_
                refine lv_aload_n hx hb dX8_digest_226 rfl (lv_at hl 0 rfl) ?_
                refine lv_iload_n hx hb dX8_digest_227 rfl (lv_at hl 1 rfl) ?_
                obtain ⟨r_134, ec135, hb132⟩ := bnd1_some hb132
                refine g_callVr [.int x1_129] [.ref (q 0)] 0 X hT hG ml_X8_253 (c_X8_howMany hq ec135) rfl rfl rfl rfl rfl hl.1 (Nat.le_of_ble_eq_true rfl) (by rw [hR]; exact ⟨Nat.le_of_ble_eq_true rfl, Nat.le_of_ble_eq_true rfl⟩) dX8_digest_228 (fun H locs hG => ?_)
                refine lv_i2l (v := r_134.toInt64) hx hb dX8_digest_231 rfl ?_
                obtain ⟨jH_136, ec137, hb132⟩ := bnd1_some hb132
                refine g_callVv [.long (r_134.toInt64)] [] 0 X hT hG ml_X8_262 (c_X8_mix hq ec137) rfl rfl rfl rfl rfl hl.1 (Nat.le_of_ble_eq_true rfl) (by rw [hR]; exact ⟨Nat.le_of_ble_eq_true rfl, Nat.le_of_ble_eq_true rfl⟩) dX8_digest_232 (fun H locs hG => ?_)
                have hG : GH D cI cZ layM q s ([iPageLength, iRoads, iRead, iAltered, iRanked, iStage, iFigures, iNewRoads, iTold_19, iRouted_104, iRouteSum_105], [jH_136], [aPage, aBeginOf, aEndOf, aLengthOf, aCosts, aRankOf, aRoadAt, aWorths, aMiddles, aLeasts, aBusy, aNewBegin, aNewEnd, aNewLength, aIsLeft, aAround, aWhole, aIsNeeded, aWereRanks, aWaitFrom_21, aWaitTo_22, aToldAt_23, aRisen_24, aUps_25, aTried_107, aRoutes_108]) H locs := hG
                obtain ⟨x1_138, ex1_138⟩ : ∃ z : Int32, z = x1_129 + 1 := ⟨_, rfl⟩
                have hb132 := bd_e ex1_138 hb132
                refine lv_iinc (v := x1_138) (lv' := [(1, .int x1_138), (0, .ref (q 0))]) hx hb dX8_digest_235 hl (k := 1) rfl (by rw [ex1_138]; rfl) (by decide) rfl (fun ls hl => ?_)
                refine lv_goto (tgt := 219) hx hb dX8_digest_238 (by decide) ?_
                exact hin132 _ (Option.some.inj hb132).symm H locs ls hG (lv_sub hl [1, 0] rfl)
            refine lpG_W (Wh := fun z => ∀ (H : Heap) (locs : List Loc) (ls : Array Slot), GH D cI cZ layM q s ([iPageLength, iRoads, iRead, iAltered, iRanked, iStage, iFigures, iNewRoads, iTold_19, iRouted_104, iRouteSum_105], [z.2], [aPage, aBeginOf, aEndOf, aLengthOf, aCosts, aRankOf, aRoadAt, aWorths, aMiddles, aLeasts, aBusy, aNewBegin, aNewEnd, aNewLength, aIsLeft, aAround, aWhole, aIsNeeded, aWereRanks, aWaitFrom_21, aWaitTo_22, aToldAt_23, aRisen_24, aUps_25, aTried_107, aRoutes_108]) H locs → lv_has ls 3 [(0, .ref (q 0)), (1, .int (z.1))] → W p l e R s m args below meth c H locs 0 0 Q (F0 m 192 ls [])) ?_ fu _ eL123 H locs ls hG (lv_sub hl [1, 0] rfl)
            intro z rr123 hb123 hin123 hout123
            obtain ⟨x1_120, jH_121⟩ := z
            intro H locs ls hG hl
            have hb123 : f8_digest_b7 iPageLength aPage x1_120 jH_121 = some rr123 := hb123
            have hG : GH D cI cZ layM q s ([iPageLength, iRoads, iRead, iAltered, iRanked, iStage, iFigures, iNewRoads, iTold_19, iRouted_104, iRouteSum_105], [jH_121], [aPage, aBeginOf, aEndOf, aLengthOf, aCosts, aRankOf, aRoadAt, aWorths, aMiddles, aLeasts, aBusy, aNewBegin, aNewEnd, aNewLength, aIsLeft, aAround, aWhole, aIsNeeded, aWereRanks, aWaitFrom_21, aWaitTo_22, aToldAt_23, aRisen_24, aUps_25, aTried_107, aRoutes_108]) H locs := hG
            have hl : lv_has ls 3 [(0, .ref (q 0)), (1, .int x1_120)] := hl
            unfold f8_digest_b7 at hb123
            refine lv_iload_n hx hb dX8_digest_192 rfl (lv_at hl 1 rfl) ?_
            refine lv_aload_n hx hb dX8_digest_193 rfl (lv_at hl 0 rfl) ?_
            refine g_get (v := .int iPageLength) X hT hG fl_X8_93 0 rfl rfl rfl dX8_digest_194 ?_
            refine lv_icmp_ge (tgt := 217) hx hb dX8_digest_197 (by decide) (fun cb124 => ?_) (fun cb124 => ?_)
            · have hb123 := ite_t cb124 hb123
              have eo := hout123 _ (Option.some.inj hb123).symm
              cases eo
              exact JX123 H locs ls hG (lv_sub hl [0] rfl)
            · have hb123 := ite_f cb124 hb123
              refine lv_aload_n hx hb dX8_digest_200 rfl (lv_at hl 0 rfl) ?_
              refine lv_aload_n hx hb dX8_digest_201 rfl (lv_at hl 0 rfl) ?_
              refine g_get (v := .ref (q 1)) X hT hG fl_X8_7 0 rfl rfl rfl dX8_digest_202 ?_
              refine lv_iload_n hx hb dX8_digest_205 rfl (lv_at hl 1 rfl) ?_
              obtain ⟨hi125, hb123⟩ := ckin_some hb123
              refine g_ald (f := aPage) X hT hG 1 rfl rfl hi125 dX8_digest_206 ?_
              refine lv_i2l (v := (aPage x1_120.toNatClampNeg).toInt64) hx hb dX8_digest_207 rfl ?_
              obtain ⟨jH_126, ec127, hb123⟩ := bnd1_some hb123
              refine g_callVv [.long ((aPage x1_120.toNatClampNeg).toInt64)] [] 0 X hT hG ml_X8_262 (c_X8_mix hq ec127) rfl rfl rfl rfl rfl hl.1 (Nat.le_of_ble_eq_true rfl) (by rw [hR]; exact ⟨Nat.le_of_ble_eq_true rfl, Nat.le_of_ble_eq_true rfl⟩) dX8_digest_208 (fun H locs hG => ?_)
              have hG : GH D cI cZ layM q s ([iPageLength, iRoads, iRead, iAltered, iRanked, iStage, iFigures, iNewRoads, iTold_19, iRouted_104, iRouteSum_105], [jH_126], [aPage, aBeginOf, aEndOf, aLengthOf, aCosts, aRankOf, aRoadAt, aWorths, aMiddles, aLeasts, aBusy, aNewBegin, aNewEnd, aNewLength, aIsLeft, aAround, aWhole, aIsNeeded, aWereRanks, aWaitFrom_21, aWaitTo_22, aToldAt_23, aRisen_24, aUps_25, aTried_107, aRoutes_108]) H locs := hG
              obtain ⟨x1_128, ex1_128⟩ : ∃ z : Int32, z = x1_120 + 1 := ⟨_, rfl⟩
              have hb123 := bd_e ex1_128 hb123
              refine lv_iinc (v := x1_128) (lv' := [(1, .int x1_128), (0, .ref (q 0))]) hx hb dX8_digest_211 hl (k := 1) rfl (by rw [ex1_128]; rfl) (by decide) rfl (fun ls hl => ?_)
              refine lv_goto (tgt := 192) hx hb dX8_digest_214 (by decide) ?_
              exact hin123 _ (Option.some.inj hb123).symm H locs ls hG (lv_sub hl [1, 0] rfl)
          refine lpG_W (Wh := fun z => ∀ (H : Heap) (locs : List Loc) (ls : Array Slot), GH D cI cZ layM q s ([iPageLength, iRoads, iRead, iAltered, iRanked, iStage, iFigures, iNewRoads, iTold_19, z.2.1, z.2.2.1], [z.2.2.2.1], [aPage, aBeginOf, aEndOf, aLengthOf, aCosts, aRankOf, aRoadAt, aWorths, aMiddles, aLeasts, aBusy, aNewBegin, aNewEnd, aNewLength, aIsLeft, aAround, aWhole, aIsNeeded, aWereRanks, aWaitFrom_21, aWaitTo_22, aToldAt_23, aRisen_24, aUps_25, z.2.2.2.2.1, z.2.2.2.2.2]) H locs → lv_has ls 3 [(0, .ref (q 0)), (1, .int (z.1))] → W p l e R s m args below meth c H locs 0 0 Q (F0 m 168 ls [])) ?_ fu _ eL109 H locs ls hG (lv_sub hl [1, 0] rfl)
          intro z rr109 hb109 hin109 hout109
          obtain ⟨x1_98, iRouted_99, iRouteSum_100, jH_101, aTried_102, aRoutes_103⟩ := z
          intro H locs ls hG hl
          have hb109 : f8_digest_b6 fu iRoads aCosts aLengthOf aBeginOf aEndOf aBusy aWorths aMiddles x1_98 iRouted_99 iRouteSum_100 jH_101 aTried_102 aRoutes_103 = some rr109 := hb109
          have hG : GH D cI cZ layM q s ([iPageLength, iRoads, iRead, iAltered, iRanked, iStage, iFigures, iNewRoads, iTold_19, iRouted_99, iRouteSum_100], [jH_101], [aPage, aBeginOf, aEndOf, aLengthOf, aCosts, aRankOf, aRoadAt, aWorths, aMiddles, aLeasts, aBusy, aNewBegin, aNewEnd, aNewLength, aIsLeft, aAround, aWhole, aIsNeeded, aWereRanks, aWaitFrom_21, aWaitTo_22, aToldAt_23, aRisen_24, aUps_25, aTried_102, aRoutes_103]) H locs := hG
          have hl : lv_has ls 3 [(0, .ref (q 0)), (1, .int x1_98)] := hl
          unfold f8_digest_b6 at hb109
          refine lv_iload_n hx hb dX8_digest_168 rfl (lv_at hl 1 rfl) ?_
          refine lv_bipush (v := 6) hx hb dX8_digest_169 (by decide) ?_
          refine lv_icmp_ge (tgt := 190) hx hb dX8_digest_171 (by decide) (fun cb110 => ?_) (fun cb110 => ?_)
          · have hb109 := ite_t cb110 hb109
            have eo := hout109 _ (Option.some.inj hb109).symm
            cases eo
            exact JX109 H locs ls hG (lv_sub hl [0] rfl)
          · have hb109 := ite_f cb110 hb109
            refine lv_aload_n hx hb dX8_digest_174 rfl (lv_at hl 0 rfl) ?_
            refine lv_aload_n hx hb dX8_digest_175 rfl (lv_at hl 0 rfl) ?_
            refine lv_iload_n hx hb dX8_digest_176 rfl (lv_at hl 1 rfl) ?_
            obtain ⟨r_111, iRouted_112, iRouteSum_113, aTried_114, aRoutes_115, ec116, hb109⟩ := bnd5_some hb109
            refine g_callVr [.int x1_98] [.ref (q 0)] 0 X hT hG ml_X8_247 (c_X8_allNow hq ec116) rfl rfl rfl rfl rfl hl.1 (Nat.le_of_ble_eq_true rfl) (by rw [hR]; exact ⟨Nat.le_of_ble_eq_true rfl, Nat.le_of_ble_eq_true rfl⟩) dX8_digest_177 (fun H locs hG => ?_)
            have hG : GH D cI cZ layM q s ([iPageLength, iRoads, iRead, iAltered, iRanked, iStage, iFigures, iNewRoads, iTold_19, iRouted_112, iRouteSum_113], [jH_101], [aPage, aBeginOf, aEndOf, aLengthOf, aCosts, aRankOf, aRoadAt, aWorths, aMiddles, aLeasts, aBusy, aNewBegin, aNewEnd, aNewLength, aIsLeft, aAround, aWhole, aIsNeeded, aWereRanks, aWaitFrom_21, aWaitTo_22, aToldAt_23, aRisen_24, aUps_25, aTried_114, aRoutes_115]) H locs := hG
            refine lv_i2l (v := r_111.toInt64) hx hb dX8_digest_180 rfl ?_
            obtain ⟨jH_117, ec118, hb109⟩ := bnd1_some hb109
            refine g_callVv [.long (r_111.toInt64)] [] 0 X hT hG ml_X8_262 (c_X8_mix hq ec118) rfl rfl rfl rfl rfl hl.1 (Nat.le_of_ble_eq_true rfl) (by rw [hR]; exact ⟨Nat.le_of_ble_eq_true rfl, Nat.le_of_ble_eq_true rfl⟩) dX8_digest_181 (fun H locs hG => ?_)
            have hG : GH D cI cZ layM q s ([iPageLength, iRoads, iRead, iAltered, iRanked, iStage, iFigures, iNewRoads, iTold_19, iRouted_112, iRouteSum_113], [jH_117], [aPage, aBeginOf, aEndOf, aLengthOf, aCosts, aRankOf, aRoadAt, aWorths, aMiddles, aLeasts, aBusy, aNewBegin, aNewEnd, aNewLength, aIsLeft, aAround, aWhole, aIsNeeded, aWereRanks, aWaitFrom_21, aWaitTo_22, aToldAt_23, aRisen_24, aUps_25, aTried_114, aRoutes_115]) H locs := hG
            obtain ⟨x1_119, ex1_119⟩ : ∃ z : Int32, z = x1_98 + 1 := ⟨_, rfl⟩
            have hb109 := bd_e ex1_119 hb109
            refine lv_iinc (v := x1_119) (lv' := [(1, .int x1_119), (0, .ref (q 0))]) hx hb dX8_digest_184 hl (k := 1) rfl (by rw [ex1_119]; rfl) (by decide) rfl (fun ls hl => ?_)
            refine lv_goto (tgt := 168) hx hb dX8_digest_187 (by decide) ?_
            exact hin109 _ (Option.some.inj hb109).symm H locs ls hG (lv_sub hl [1, 0] rfl)
        refine lpG_W (Wh := fun z => ∀ (H : Heap) (locs : List Loc) (ls : Array Slot), GH D cI cZ layM q s ([iPageLength, iRoads, iRead, iAltered, iRanked, iStage, iFigures, iNewRoads, iTold_19, z.2.1, z.2.2.1], [z.2.2.2.1], [aPage, aBeginOf, aEndOf, aLengthOf, aCosts, aRankOf, aRoadAt, aWorths, aMiddles, aLeasts, aBusy, aNewBegin, aNewEnd, aNewLength, aIsLeft, aAround, aWhole, aIsNeeded, aWereRanks, aWaitFrom_21, aWaitTo_22, aToldAt_23, aRisen_24, aUps_25, z.2.2.2.2.1, z.2.2.2.2.2]) H locs → lv_has ls 3 [(0, .ref (q 0)), (1, .int (z.1))] → W p l e R s m args below meth c H locs 0 0 Q (F0 m 140 ls [])) ?_ fu _ eL87 H locs ls hG (lv_sub hl [1, 0] rfl)
        intro z rr87 hb87 hin87 hout87
        obtain ⟨x1_76, iRouted_77, iRouteSum_78, jH_79, aTried_80, aRoutes_81⟩ := z
        intro H locs ls hG hl
        have hb87 : f8_digest_b5 fu iRoads aCosts aLengthOf aBeginOf aEndOf x1_76 iRouted_77 iRouteSum_78 jH_79 aTried_80 aRoutes_81 = some rr87 := hb87
        have hG : GH D cI cZ layM q s ([iPageLength, iRoads, iRead, iAltered, iRanked, iStage, iFigures, iNewRoads, iTold_19, iRouted_77, iRouteSum_78], [jH_79], [aPage, aBeginOf, aEndOf, aLengthOf, aCosts, aRankOf, aRoadAt, aWorths, aMiddles, aLeasts, aBusy, aNewBegin, aNewEnd, aNewLength, aIsLeft, aAround, aWhole, aIsNeeded, aWereRanks, aWaitFrom_21, aWaitTo_22, aToldAt_23, aRisen_24, aUps_25, aTried_80, aRoutes_81]) H locs := hG
        have hl : lv_has ls 3 [(0, .ref (q 0)), (1, .int x1_76)] := hl
        unfold f8_digest_b5 at hb87
        refine lv_iload_n hx hb dX8_digest_140 rfl (lv_at hl 1 rfl) ?_
        refine lv_aload_n hx hb dX8_digest_141 rfl (lv_at hl 0 rfl) ?_
        refine g_get (v := .int iRoads) X hT hG fl_X8_120 0 rfl rfl rfl dX8_digest_142 ?_
        refine lv_icmp_ge (tgt := 166) hx hb dX8_digest_145 (by decide) (fun cb88 => ?_) (fun cb88 => ?_)
        · have hb87 := ite_t cb88 hb87
          have eo := hout87 _ (Option.some.inj hb87).symm
          cases eo
          exact JX87 H locs ls hG (lv_sub hl [0] rfl)
        · have hb87 := ite_f cb88 hb87
          refine lv_aload_n hx hb dX8_digest_148 rfl (lv_at hl 0 rfl) ?_
          refine lv_aload_n hx hb dX8_digest_149 rfl (lv_at hl 0 rfl) ?_
          refine lv_iload_n hx hb dX8_digest_150 rfl (lv_at hl 1 rfl) ?_
          refine lv_bipush (v := 100) hx hb dX8_digest_151 (by decide) ?_
          obtain ⟨r_89, iRouted_90, iRouteSum_91, aTried_92, aRoutes_93, ec94, hb87⟩ := bnd5_some hb87
          refine g_callVr [.int x1_76, .int 100] [.ref (q 0)] 0 X hT hG ml_X8_237 (c_X8_lossNow hq ec94) rfl rfl rfl rfl rfl hl.1 (Nat.le_of_ble_eq_true rfl) (by rw [hR]; exact ⟨Nat.le_of_ble_eq_true rfl, Nat.le_of_ble_eq_true rfl⟩) dX8_digest_153 (fun H locs hG => ?_)
          have hG : GH D cI cZ layM q s ([iPageLength, iRoads, iRead, iAltered, iRanked, iStage, iFigures, iNewRoads, iTold_19, iRouted_90, iRouteSum_91], [jH_79], [aPage, aBeginOf, aEndOf, aLengthOf, aCosts, aRankOf, aRoadAt, aWorths, aMiddles, aLeasts, aBusy, aNewBegin, aNewEnd, aNewLength, aIsLeft, aAround, aWhole, aIsNeeded, aWereRanks, aWaitFrom_21, aWaitTo_22, aToldAt_23, aRisen_24, aUps_25, aTried_92, aRoutes_93]) H locs := hG
          refine lv_i2l (v := r_89.toInt64) hx hb dX8_digest_156 rfl ?_
          obtain ⟨jH_95, ec96, hb87⟩ := bnd1_some hb87
          refine g_callVv [.long (r_89.toInt64)] [] 0 X hT hG ml_X8_262 (c_X8_mix hq ec96) rfl rfl rfl rfl rfl hl.1 (Nat.le_of_ble_eq_true rfl) (by rw [hR]; exact ⟨Nat.le_of_ble_eq_true rfl, Nat.le_of_ble_eq_true rfl⟩) dX8_digest_157 (fun H locs hG => ?_)
          have hG : GH D cI cZ layM q s ([iPageLength, iRoads, iRead, iAltered, iRanked, iStage, iFigures, iNewRoads, iTold_19, iRouted_90, iRouteSum_91], [jH_95], [aPage, aBeginOf, aEndOf, aLengthOf, aCosts, aRankOf, aRoadAt, aWorths, aMiddles, aLeasts, aBusy, aNewBegin, aNewEnd, aNewLength, aIsLeft, aAround, aWhole, aIsNeeded, aWereRanks, aWaitFrom_21, aWaitTo_22, aToldAt_23, aRisen_24, aUps_25, aTried_92, aRoutes_93]) H locs := hG
          obtain ⟨x1_97, ex1_97⟩ : ∃ z : Int32, z = x1_76 + 1 := ⟨_, rfl⟩
          have hb87 := bd_e ex1_97 hb87
          refine lv_iinc (v := x1_97) (lv' := [(1, .int x1_97), (0, .ref (q 0))]) hx hb dX8_digest_160 hl (k := 1) rfl (by rw [ex1_97]; rfl) (by decide) rfl (fun ls hl => ?_)
          refine lv_goto (tgt := 140) hx hb dX8_digest_163 (by decide) ?_
          exact hin87 _ (Option.some.inj hb87).symm H locs ls hG (lv_sub hl [1, 0] rfl)
      refine lpG_W (Wh := fun z => ∀ (H : Heap) (locs : List Loc) (ls : Array Slot), GH D cI cZ layM q s ([iPageLength, iRoads, iRead, iAltered, iRanked, iStage, iFigures, iNewRoads, iTold_19, iRouted_55, iRouteSum_56], [z.2], [aPage, aBeginOf, aEndOf, aLengthOf, aCosts, aRankOf, aRoadAt, aWorths, aMiddles, aLeasts, aBusy, aNewBegin, aNewEnd, aNewLength, aIsLeft, aAround, aWhole, aIsNeeded, aWereRanks, aWaitFrom_21, aWaitTo_22, aToldAt_23, aRisen_24, aUps_25, aTried_57, aRoutes_58]) H locs → lv_has ls 3 [(0, .ref (q 0)), (1, .int (z.1))] → W p l e R s m args below meth c H locs 0 0 Q (F0 m 87 ls [])) ?_ fu _ eL63 H locs ls hG (lv_sub hl [1, 0] rfl)
      intro z rr63 hb63 hin63 hout63
      obtain ⟨x1_60, jH_61⟩ := z
      intro H locs ls hG hl
      have hb63 : f8_digest_b4 aRoutes_58 x1_60 jH_61 = some rr63 := hb63
      have hG : GH D cI cZ layM q s ([iPageLength, iRoads, iRead, iAltered, iRanked, iStage, iFigures, iNewRoads, iTold_19, iRouted_55, iRouteSum_56], [jH_61], [aPage, aBeginOf, aEndOf, aLengthOf, aCosts, aRankOf, aRoadAt, aWorths, aMiddles, aLeasts, aBusy, aNewBegin, aNewEnd, aNewLength, aIsLeft, aAround, aWhole, aIsNeeded, aWereRanks, aWaitFrom_21, aWaitTo_22, aToldAt_23, aRisen_24, aUps_25, aTried_57, aRoutes_58]) H locs := hG
      have hl : lv_has ls 3 [(0, .ref (q 0)), (1, .int x1_60)] := hl
      unfold f8_digest_b4 at hb63
      refine lv_iload_n hx hb dX8_digest_87 rfl (lv_at hl 1 rfl) ?_
      refine lv_bipush (v := 64) hx hb dX8_digest_88 (by decide) ?_
      refine lv_icmp_ge (tgt := 138) hx hb dX8_digest_90 (by decide) (fun cb64 => ?_) (fun cb64 => ?_)
      · have hb63 := ite_t cb64 hb63
        have eo := hout63 _ (Option.some.inj hb63).symm
        cases eo
        exact JX63 H locs ls hG (lv_sub hl [0] rfl)
      · have hb63 := ite_f cb64 hb63
        refine lv_iload_n hx hb dX8_digest_93 rfl (lv_at hl 1 rfl) ?_
        refine lv_bipush (v := 8) hx hb dX8_digest_94 (by decide) ?_
        refine lv_idiv hx hb dX8_digest_96 (by decide) ?_
        refine lv_iload_n hx hb dX8_digest_97 rfl (lv_at hl 1 rfl) ?_
        refine lv_bipush (v := 8) hx hb dX8_digest_98 (by decide) ?_
        refine lv_irem hx hb dX8_digest_100 (by decide) ?_
        obtain ⟨jH_65, er66, hb63⟩ := bnd1_some hb63
        have J66 : ∀ (H : Heap) (locs : List Loc) (ls : Array Slot), GH D cI cZ layM q s ([iPageLength, iRoads, iRead, iAltered, iRanked, iStage, iFigures, iNewRoads, iTold_19, iRouted_55, iRouteSum_56], [jH_65], [aPage, aBeginOf, aEndOf, aLengthOf, aCosts, aRankOf, aRoadAt, aWorths, aMiddles, aLeasts, aBusy, aNewBegin, aNewEnd, aNewLength, aIsLeft, aAround, aWhole, aIsNeeded, aWereRanks, aWaitFrom_21, aWaitTo_22, aToldAt_23, aRisen_24, aUps_25, aTried_57, aRoutes_58]) H locs → lv_has ls 3 [(0, .ref (q 0)), (1, .int x1_60)] → W p l e R s m args below meth c H locs 0 0 Q (F0 m 132 ls []) := by
          intro H locs ls hG hl
          obtain ⟨x1_75, ex1_75⟩ : ∃ z : Int32, z = x1_60 + 1 := ⟨_, rfl⟩
          have hb63 := bd_e ex1_75 hb63
          refine lv_iinc (v := x1_75) (lv' := [(1, .int x1_75), (0, .ref (q 0))]) hx hb dX8_digest_132 hl (k := 1) rfl (by rw [ex1_75]; rfl) (by decide) rfl (fun ls hl => ?_)
          refine lv_goto (tgt := 87) hx hb dX8_digest_135 (by decide) ?_
          exact hin63 _ (Option.some.inj hb63).symm H locs ls hG (lv_sub hl [1, 0] rfl)
        refine lv_icmp_eq (tgt := 132) hx hb dX8_digest_101 (by decide) (fun cb67 => ?_) (fun cb67 => ?_)
        · have er66 := ite_t cb67 er66
          cases er66
          exact J66 H locs ls hG (lv_sub hl [0, 1] rfl)
        · have er66 := ite_f cb67 er66
          refine lv_aload_n hx hb dX8_digest_104 rfl (lv_at hl 0 rfl) ?_
          refine lv_aload_n hx hb dX8_digest_105 rfl (lv_at hl 0 rfl) ?_
          refine g_get (v := .ref (q 26)) X hT hG fl_X8_86 0 rfl rfl rfl dX8_digest_106 ?_
          refine lv_iload_n hx hb dX8_digest_109 rfl (lv_at hl 1 rfl) ?_
          obtain ⟨hi68, er66⟩ := ckin_some er66
          refine g_ald (f := aRoutes_58) X hT hG 26 rfl rfl hi68 dX8_digest_110 ?_
          refine lv_ldc (v := 268435456) hx hb X.2.2.2.1 (X.2.2.2.2 _ cn_X8_136) dX8_digest_111 ?_
          obtain ⟨y_69, er70, er66⟩ := bnd1_some er66
          have J70 : ∀ (H : Heap) (locs : List Loc) (ls : Array Slot), GH D cI cZ layM q s ([iPageLength, iRoads, iRead, iAltered, iRanked, iStage, iFigures, iNewRoads, iTold_19, iRouted_55, iRouteSum_56], [jH_61], [aPage, aBeginOf, aEndOf, aLengthOf, aCosts, aRankOf, aRoadAt, aWorths, aMiddles, aLeasts, aBusy, aNewBegin, aNewEnd, aNewLength, aIsLeft, aAround, aWhole, aIsNeeded, aWereRanks, aWaitFrom_21, aWaitTo_22, aToldAt_23, aRisen_24, aUps_25, aTried_57, aRoutes_58]) H locs → lv_has ls 3 [(0, .ref (q 0)), (1, .int x1_60)] → W p l e R s m args below meth c H locs 0 0 Q (F0 m 129 ls [.long y_69, .ref (q 0)]) := by
            intro H locs ls hG hl
            obtain ⟨jH_73, ec74, er66⟩ := bnd1_some er66
            refine g_callVv [.long y_69] [] 0 X hT hG ml_X8_262 (c_X8_mix hq ec74) rfl rfl rfl rfl rfl hl.1 (Nat.le_of_ble_eq_true rfl) (by rw [hR]; exact ⟨Nat.le_of_ble_eq_true rfl, Nat.le_of_ble_eq_true rfl⟩) dX8_digest_129 (fun H locs hG => ?_)
            have hG : GH D cI cZ layM q s ([iPageLength, iRoads, iRead, iAltered, iRanked, iStage, iFigures, iNewRoads, iTold_19, iRouted_55, iRouteSum_56], [jH_73], [aPage, aBeginOf, aEndOf, aLengthOf, aCosts, aRankOf, aRoadAt, aWorths, aMiddles, aLeasts, aBusy, aNewBegin, aNewEnd, aNewLength, aIsLeft, aAround, aWhole, aIsNeeded, aWereRanks, aWaitFrom_21, aWaitTo_22, aToldAt_23, aRisen_24, aUps_25, aTried_57, aRoutes_58]) H locs := hG
            cases er66
            exact J66 H locs ls hG (lv_sub hl [0, 1] rfl)
          refine lv_icmp_lt (tgt := 122) hx hb dX8_digest_113 (by decide) (fun cb71 => ?_) (fun cb71 => ?_)
          · have er70 := ite_t cb71 er70
            refine lv_aload_n hx hb dX8_digest_122 rfl (lv_at hl 0 rfl) ?_
            refine g_get (v := .ref (q 26)) X hT hG fl_X8_86 0 rfl rfl rfl dX8_digest_123 ?_
            refine lv_iload_n hx hb dX8_digest_126 rfl (lv_at hl 1 rfl) ?_
            obtain ⟨hi72, er70⟩ := ckin_some er70
            refine g_ald (f := aRoutes_58) X hT hG 26 rfl rfl hi72 dX8_digest_127 ?_
            refine lv_i2l (v := (aRoutes_58 x1_60.toNatClampNeg).toInt64) hx hb dX8_digest_128 rfl ?_
            cases er70
            exact J70 H locs ls hG (lv_sub hl [0, 1] rfl)
          · have er70 := ite_f cb71 er70
            refine lv_ldc2 (v := (-1)) hx hb X.2.2.2.1 (X.2.2.2.2 _ cn_X8_271) dX8_digest_116 ?_
            refine lv_goto (tgt := 129) hx hb dX8_digest_119 (by decide) ?_
            cases er70
            exact J70 H locs ls hG (lv_sub hl [0, 1] rfl)
    refine lpG_W (Wh := fun z => ∀ (H : Heap) (locs : List Loc) (ls : Array Slot), GH D cI cZ layM q s ([iPageLength, iRoads, iRead, iAltered, iRanked, iStage, iFigures, iNewRoads, z.2.1, iRouted, iRouteSum], [z.2.2.1], [aPage, aBeginOf, aEndOf, aLengthOf, aCosts, aRankOf, aRoadAt, aWorths, aMiddles, aLeasts, aBusy, aNewBegin, aNewEnd, aNewLength, aIsLeft, aAround, aWhole, aIsNeeded, aWereRanks, z.2.2.2.1, z.2.2.2.2.1, z.2.2.2.2.2.1, z.2.2.2.2.2.2.1, z.2.2.2.2.2.2.2, aTried, aRoutes]) H locs → lv_has ls 3 [(0, .ref (q 0)), (1, .int (z.1))] → W p l e R s m args below meth c H locs 0 0 Q (F0 m 45 ls [])) ?_ fu _ eL26 H locs ls hG (lv_sub hl [1, 0] rfl)
    intro z rr26 hb26 hin26 hout26
    obtain ⟨x1_11, iTold_12, jH_13, aWaitFrom_14, aWaitTo_15, aToldAt_16, aRisen_17, aUps_18⟩ := z
    intro H locs ls hG hl
    have hb26 : f8_digest_b2 fu iRoads aLeasts aRoadAt aWorths aMiddles aRankOf x1_11 iTold_12 jH_13 aWaitFrom_14 aWaitTo_15 aToldAt_16 aRisen_17 aUps_18 = some rr26 := hb26
    have hG : GH D cI cZ layM q s ([iPageLength, iRoads, iRead, iAltered, iRanked, iStage, iFigures, iNewRoads, iTold_12, iRouted, iRouteSum], [jH_13], [aPage, aBeginOf, aEndOf, aLengthOf, aCosts, aRankOf, aRoadAt, aWorths, aMiddles, aLeasts, aBusy, aNewBegin, aNewEnd, aNewLength, aIsLeft, aAround, aWhole, aIsNeeded, aWereRanks, aWaitFrom_14, aWaitTo_15, aToldAt_16, aRisen_17, aUps_18, aTried, aRoutes]) H locs := hG
    have hl : lv_has ls 3 [(0, .ref (q 0)), (1, .int x1_11)] := hl
    unfold f8_digest_b2 at hb26
    refine lv_iload_n hx hb dX8_digest_45 rfl (lv_at hl 1 rfl) ?_
    refine lv_aload_n hx hb dX8_digest_46 rfl (lv_at hl 0 rfl) ?_
    refine g_get (v := .int iRoads) X hT hG fl_X8_120 0 rfl rfl rfl dX8_digest_47 ?_
    refine lv_icmp_ge (tgt := 81) hx hb dX8_digest_50 (by decide) (fun cb27 => ?_) (fun cb27 => ?_)
    · have hb26 := ite_t cb27 hb26
      have eo := hout26 _ (Option.some.inj hb26).symm
      cases eo
      exact JX26 H locs ls hG (lv_sub hl [0] rfl)
    · have hb26 := ite_f cb27 hb26
      refine lv_iconst (v := 0) hx hb dX8_digest_53 (by decide) ?_
      refine lv_istore_n (lv' := [(2, .int 0), (0, .ref (q 0)), (1, .int x1_11)]) hx hb dX8_digest_54 rfl hl (by decide) rfl (fun ls hl => ?_)
      obtain ⟨iTold_36, jH_37, aWaitFrom_38, aWaitTo_39, aToldAt_40, aRisen_41, aUps_42, eL43, hb26⟩ := bnd7_some hb26
      have JX43 : ∀ (H : Heap) (locs : List Loc) (ls : Array Slot), GH D cI cZ layM q s ([iPageLength, iRoads, iRead, iAltered, iRanked, iStage, iFigures, iNewRoads, iTold_36, iRouted, iRouteSum], [jH_37], [aPage, aBeginOf, aEndOf, aLengthOf, aCosts, aRankOf, aRoadAt, aWorths, aMiddles, aLeasts, aBusy, aNewBegin, aNewEnd, aNewLength, aIsLeft, aAround, aWhole, aIsNeeded, aWereRanks, aWaitFrom_38, aWaitTo_39, aToldAt_40, aRisen_41, aUps_42, aTried, aRoutes]) H locs → lv_has ls 3 [(0, .ref (q 0)), (1, .int x1_11)] → W p l e R s m args below meth c H locs 0 0 Q (F0 m 75 ls []) := by
        intro H locs ls hG hl
        obtain ⟨x1_54, ex1_54⟩ : ∃ z : Int32, z = x1_11 + 1 := ⟨_, rfl⟩
        have hb26 := bd_e ex1_54 hb26
        refine lv_iinc (v := x1_54) (lv' := [(1, .int x1_54), (0, .ref (q 0))]) hx hb dX8_digest_75 hl (k := 1) rfl (by rw [ex1_54]; rfl) (by decide) rfl (fun ls hl => ?_)
        refine lv_goto (tgt := 45) hx hb dX8_digest_78 (by decide) ?_
        exact hin26 _ (Option.some.inj hb26).symm H locs ls hG (lv_sub hl [1, 0] rfl)
      refine lpG_W (Wh := fun z => ∀ (H : Heap) (locs : List Loc) (ls : Array Slot), GH D cI cZ layM q s ([iPageLength, iRoads, iRead, iAltered, iRanked, iStage, iFigures, iNewRoads, z.2.1, iRouted, iRouteSum], [z.2.2.1], [aPage, aBeginOf, aEndOf, aLengthOf, aCosts, aRankOf, aRoadAt, aWorths, aMiddles, aLeasts, aBusy, aNewBegin, aNewEnd, aNewLength, aIsLeft, aAround, aWhole, aIsNeeded, aWereRanks, z.2.2.2.1, z.2.2.2.2.1, z.2.2.2.2.2.1, z.2.2.2.2.2.2.1, z.2.2.2.2.2.2.2, aTried, aRoutes]) H locs → lv_has ls 3 [(0, .ref (q 0)), (1, .int x1_11), (2, .int (z.1))] → W p l e R s m args below meth c H locs 0 0 Q (F0 m 55 ls [])) ?_ fu _ eL43 H locs ls hG (lv_sub hl [1, 2, 0] rfl)
      intro z rr43 hb43 hin43 hout43
      obtain ⟨x2_28, iTold_29, jH_30, aWaitFrom_31, aWaitTo_32, aToldAt_33, aRisen_34, aUps_35⟩ := z
      intro H locs ls hG hl
      have hb43 : f8_digest_b3 fu iRoads x1_11 aLeasts aRoadAt aWorths aMiddles aRankOf x2_28 iTold_29 jH_30 aWaitFrom_31 aWaitTo_32 aToldAt_33 aRisen_34 aUps_35 = some rr43 := hb43
      have hG : GH D cI cZ layM q s ([iPageLength, iRoads, iRead, iAltered, iRanked, iStage, iFigures, iNewRoads, iTold_29, iRouted, iRouteSum], [jH_30], [aPage, aBeginOf, aEndOf, aLengthOf, aCosts, aRankOf, aRoadAt, aWorths, aMiddles, aLeasts, aBusy, aNewBegin, aNewEnd, aNewLength, aIsLeft, aAround, aWhole, aIsNeeded, aWereRanks, aWaitFrom_31, aWaitTo_32, aToldAt_33, aRisen_34, aUps_35, aTried, aRoutes]) H locs := hG
      have hl : lv_has ls 3 [(0, .ref (q 0)), (1, .int x1_11), (2, .int x2_28)] := hl
      unfold f8_digest_b3 at hb43
      refine lv_iload_n hx hb dX8_digest_55 rfl (lv_at hl 2 rfl) ?_
      refine lv_aload_n hx hb dX8_digest_56 rfl (lv_at hl 0 rfl) ?_
      refine g_get (v := .int iRoads) X hT hG fl_X8_120 0 rfl rfl rfl dX8_digest_57 ?_
      refine lv_icmp_ge (tgt := 75) hx hb dX8_digest_60 (by decide) (fun cb44 => ?_) (fun cb44 => ?_)
      · have hb43 := ite_t cb44 hb43
        have eo := hout43 _ (Option.some.inj hb43).symm
        cases eo
        exact JX43 H locs ls hG (lv_sub hl [0, 1] rfl)
      · have hb43 := ite_f cb44 hb43
        refine lv_aload_n hx hb dX8_digest_63 rfl (lv_at hl 0 rfl) ?_
        refine lv_iload_n hx hb dX8_digest_64 rfl (lv_at hl 1 rfl) ?_
        refine lv_iload_n hx hb dX8_digest_65 rfl (lv_at hl 2 rfl) ?_
        obtain ⟨iTold_45, jH_46, aWaitFrom_47, aWaitTo_48, aToldAt_49, aRisen_50, aUps_51, ec52, hb43⟩ := bnd7_some hb43
        refine g_callVv [.int x1_11, .int x2_28] [] 0 X hT hG ml_X8_268 (c_X8_mixPair hq ec52) rfl rfl rfl rfl rfl hl.1 (Nat.le_of_ble_eq_true rfl) (by rw [hR]; exact ⟨Nat.le_of_ble_eq_true rfl, Nat.le_of_ble_eq_true rfl⟩) dX8_digest_66 (fun H locs hG => ?_)
        have hG : GH D cI cZ layM q s ([iPageLength, iRoads, iRead, iAltered, iRanked, iStage, iFigures, iNewRoads, iTold_45, iRouted, iRouteSum], [jH_46], [aPage, aBeginOf, aEndOf, aLengthOf, aCosts, aRankOf, aRoadAt, aWorths, aMiddles, aLeasts, aBusy, aNewBegin, aNewEnd, aNewLength, aIsLeft, aAround, aWhole, aIsNeeded, aWereRanks, aWaitFrom_47, aWaitTo_48, aToldAt_49, aRisen_50, aUps_51, aTried, aRoutes]) H locs := hG
        obtain ⟨x2_53, ex2_53⟩ : ∃ z : Int32, z = x2_28 + 1 := ⟨_, rfl⟩
        have hb43 := bd_e ex2_53 hb43
        refine lv_iinc (v := x2_53) (lv' := [(2, .int x2_53), (0, .ref (q 0)), (1, .int x1_11)]) hx hb dX8_digest_69 hl (k := 2) rfl (by rw [ex2_53]; rfl) (by decide) rfl (fun ls hl => ?_)
        refine lv_goto (tgt := 55) hx hb dX8_digest_72 (by decide) ?_
        exact hin43 _ (Option.some.inj hb43).symm H locs ls hG (lv_sub hl [1, 2, 0] rfl)
  refine lpG_W (Wh := fun z => ∀ (H : Heap) (locs : List Loc) (ls : Array Slot), GH D cI cZ layM q s ([iPageLength, iRoads, iRead, iAltered, iRanked, iStage, iFigures, iNewRoads, iTold, iRouted, iRouteSum], [z.2], [aPage, aBeginOf, aEndOf, aLengthOf, aCosts, aRankOf, aRoadAt, aWorths, aMiddles, aLeasts, aBusy, aNewBegin, aNewEnd, aNewLength, aIsLeft, aAround, aWhole, aIsNeeded, aWereRanks, aWaitFrom, aWaitTo, aToldAt, aRisen, aUps, aTried, aRoutes]) H locs → lv_has ls 3 [(0, .ref (q 0)), (1, .int (z.1))] → W p l e R s m args below meth c H locs 0 0 Q (F0 m 9 ls [])) ?_ fu _ eL4 H locs ls hG (lv_sub hl [1, 0] rfl)
  intro z rr4 hb4 hin4 hout4
  obtain ⟨x1_1, jH_2⟩ := z
  intro H locs ls hG hl
  have hb4 : f8_digest_b1 fu iRoads aBeginOf aEndOf aLengthOf aRankOf aWorths aMiddles aBusy x1_1 jH_2 = some rr4 := hb4
  have hG : GH D cI cZ layM q s ([iPageLength, iRoads, iRead, iAltered, iRanked, iStage, iFigures, iNewRoads, iTold, iRouted, iRouteSum], [jH_2], [aPage, aBeginOf, aEndOf, aLengthOf, aCosts, aRankOf, aRoadAt, aWorths, aMiddles, aLeasts, aBusy, aNewBegin, aNewEnd, aNewLength, aIsLeft, aAround, aWhole, aIsNeeded, aWereRanks, aWaitFrom, aWaitTo, aToldAt, aRisen, aUps, aTried, aRoutes]) H locs := hG
  have hl : lv_has ls 3 [(0, .ref (q 0)), (1, .int x1_1)] := hl
  unfold f8_digest_b1 at hb4
  refine lv_iload_n hx hb dX8_digest_9 rfl (lv_at hl 1 rfl) ?_
  refine lv_bipush (v := 6) hx hb dX8_digest_10 (by decide) ?_
  refine lv_aload_n hx hb dX8_digest_12 rfl (lv_at hl 0 rfl) ?_
  refine g_get (v := .int iRoads) X hT hG fl_X8_120 0 rfl rfl rfl dX8_digest_13 ?_
  refine lv_imul hx hb dX8_digest_16 ?_
  refine lv_icmp_ge (tgt := 43) hx hb dX8_digest_17 (by decide) (fun cb5 => ?_) (fun cb5 => ?_)
  · have hb4 := ite_t cb5 hb4
    have eo := hout4 _ (Option.some.inj hb4).symm
    cases eo
    exact JX4 H locs ls hG (lv_sub hl [0] rfl)
  · have hb4 := ite_f cb5 hb4
    refine lv_aload_n hx hb dX8_digest_20 rfl (lv_at hl 0 rfl) ?_
    refine lv_aload_n hx hb dX8_digest_21 rfl (lv_at hl 0 rfl) ?_
    refine lv_iload_n hx hb dX8_digest_22 rfl (lv_at hl 1 rfl) ?_
    refine lv_bipush (v := 6) hx hb dX8_digest_23 (by decide) ?_
    refine lv_idiv hx hb dX8_digest_25 (by decide) ?_
    refine lv_iload_n hx hb dX8_digest_26 rfl (lv_at hl 1 rfl) ?_
    refine lv_bipush (v := 6) hx hb dX8_digest_27 (by decide) ?_
    refine lv_irem hx hb dX8_digest_29 (by decide) ?_
    obtain ⟨r_6, ec7, hb4⟩ := bnd1_some hb4
    refine g_callVr [.int (x1_1 / 6), .int (x1_1 - x1_1 / 6 * 6)] [.ref (q 0)] 0 X hT hG ml_X8_192 (c_X8_roadNow hq ec7) rfl rfl rfl rfl rfl hl.1 (Nat.le_of_ble_eq_true rfl) (by rw [hR]; exact ⟨Nat.le_of_ble_eq_true rfl, Nat.le_of_ble_eq_true rfl⟩) dX8_digest_30 (fun H locs hG => ?_)
    refine lv_i2l (v := r_6.toInt64) hx hb dX8_digest_33 rfl ?_
    obtain ⟨jH_8, ec9, hb4⟩ := bnd1_some hb4
    refine g_callVv [.long (r_6.toInt64)] [] 0 X hT hG ml_X8_262 (c_X8_mix hq ec9) rfl rfl rfl rfl rfl hl.1 (Nat.le_of_ble_eq_true rfl) (by rw [hR]; exact ⟨Nat.le_of_ble_eq_true rfl, Nat.le_of_ble_eq_true rfl⟩) dX8_digest_34 (fun H locs hG => ?_)
    have hG : GH D cI cZ layM q s ([iPageLength, iRoads, iRead, iAltered, iRanked, iStage, iFigures, iNewRoads, iTold, iRouted, iRouteSum], [jH_8], [aPage, aBeginOf, aEndOf, aLengthOf, aCosts, aRankOf, aRoadAt, aWorths, aMiddles, aLeasts, aBusy, aNewBegin, aNewEnd, aNewLength, aIsLeft, aAround, aWhole, aIsNeeded, aWereRanks, aWaitFrom, aWaitTo, aToldAt, aRisen, aUps, aTried, aRoutes]) H locs := hG
    obtain ⟨x1_10, ex1_10⟩ : ∃ z : Int32, z = x1_1 + 1 := ⟨_, rfl⟩
    have hb4 := bd_e ex1_10 hb4
    refine lv_iinc (v := x1_10) (lv' := [(1, .int x1_10), (0, .ref (q 0))]) hx hb dX8_digest_37 hl (k := 1) rfl (by rw [ex1_10]; rfl) (by decide) rfl (fun ls hl => ?_)
    refine lv_goto (tgt := 9) hx hb dX8_digest_40 (by decide) ?_
    exact hin4 _ (Option.some.inj hb4).symm H locs ls hG (lv_sub hl [1, 0] rfl)
end
