section
variable {l : Launch} {D : va_G} {cI cZ : ClassId} {q : Nat → Nat} {iPageLength iRoads iRead iAltered iRanked iStage iFigures iNewRoads iTold iRouted iRouteSum : Int32} {jH : Int64} {aPage aBeginOf aEndOf aLengthOf aCosts aRankOf aRoadAt aWorths aMiddles aLeasts aBusy aNewBegin aNewEnd aNewLength aIsLeft aAround aWhole aIsNeeded aWereRanks aWaitFrom aWaitTo aToldAt aRisen aUps aTried aRoutes : Nat → Int32}
def f8_findOrder_b1 (fu : Nat) (iRoads : Int32) (x1_5 : Int32) (aRankOf_6 : (Nat → Int32)) (aRoadAt_7 : (Nat → Int32)) (aWorths_8 : (Nat → Int32)) (aMiddles_9 : (Nat → Int32)) (aIsLeft_10 : (Nat → Int32)) (aAround_11 : (Nat → Int32)) (aWhole_12 : (Nat → Int32)) (aIsNeeded_13 : (Nat → Int32)) : Option ((Int32 × (Nat → Int32) × (Nat → Int32) × (Nat → Int32) × (Nat → Int32) × (Nat → Int32) × (Nat → Int32) × (Nat → Int32) × (Nat → Int32)) ⊕ ((Nat → Int32) × (Nat → Int32) × (Nat → Int32) × (Nat → Int32) × (Nat → Int32) × (Nat → Int32) × (Nat → Int32) × (Nat → Int32))) :=
  if iRoads ≤ x1_5 then (some (.inr (aRankOf_6, aRoadAt_7, aWorths_8, aMiddles_9, aIsLeft_10, aAround_11, aWhole_12, aIsNeeded_13))) else bnd4 (f8_nextRoad fu iRoads aIsLeft_10 aWorths_8 aAround_11 aWhole_12 aIsNeeded_13) fun (r_24 : Int32) (aAround_25 : (Nat → Int32)) (aWhole_26 : (Nat → Int32)) (aIsNeeded_27 : (Nat → Int32)) => bnd8 (f8_rankNow fu aAround_25 iRoads aIsLeft_10 aWorths_8 aWhole_26 r_24 aIsNeeded_27 aMiddles_9 aRankOf_6 x1_5 aRoadAt_7) fun (aRankOf_29 : (Nat → Int32)) (aRoadAt_30 : (Nat → Int32)) (aWorths_31 : (Nat → Int32)) (aMiddles_32 : (Nat → Int32)) (aIsLeft_33 : (Nat → Int32)) (aAround_34 : (Nat → Int32)) (aWhole_35 : (Nat → Int32)) (aIsNeeded_36 : (Nat → Int32)) => bd (x1_5 + 1) fun x1_38 => some (.inl (x1_38, aRankOf_29, aRoadAt_30, aWorths_31, aMiddles_32, aIsLeft_33, aAround_34, aWhole_35, aIsNeeded_36))
def f8_findOrder (fu : Nat) (iRoads : Int32) (aIsLeft : (Nat → Int32)) (aCosts : (Nat → Int32)) (aLengthOf : (Nat → Int32)) (aWorths : (Nat → Int32)) (aMiddles : (Nat → Int32)) (aRankOf : (Nat → Int32)) (aRoadAt : (Nat → Int32)) (aAround : (Nat → Int32)) (aWhole : (Nat → Int32)) (aIsNeeded : (Nat → Int32)) : Option ((Nat → Int32) × (Nat → Int32) × (Nat → Int32) × (Nat → Int32) × (Nat → Int32) × (Nat → Int32) × (Nat → Int32) × (Nat → Int32)) :=
  bnd3 (f8_allLeft fu iRoads aIsLeft aCosts aLengthOf aWorths aMiddles) fun (aWorths_1 : (Nat → Int32)) (aMiddles_2 : (Nat → Int32)) (aIsLeft_3 : (Nat → Int32)) => bnd8 (lpG (fun z => f8_findOrder_b1 fu iRoads z.1 z.2.1 z.2.2.1 z.2.2.2.1 z.2.2.2.2.1 z.2.2.2.2.2.1 z.2.2.2.2.2.2.1 z.2.2.2.2.2.2.2.1 z.2.2.2.2.2.2.2.2) fu ((0 : Int32), aRankOf, aRoadAt, aWorths_1, aMiddles_2, aIsLeft_3, aAround, aWhole, aIsNeeded)) fun (aRankOf_14 : (Nat → Int32)) (aRoadAt_15 : (Nat → Int32)) (aWorths_16 : (Nat → Int32)) (aMiddles_17 : (Nat → Int32)) (aIsLeft_18 : (Nat → Int32)) (aAround_19 : (Nat → Int32)) (aWhole_20 : (Nat → Int32)) (aIsNeeded_21 : (Nat → Int32)) => some (aRankOf_14, aRoadAt_15, aWorths_16, aMiddles_17, aIsLeft_18, aAround_19, aWhole_20, aIsNeeded_21)
set_option maxHeartbeats 4000000 in
set_option maxRecDepth 100000 in
theorem c_X8_findOrder (hq : gJ layM q) {fu : Nat} {o_aRankOf : (Nat → Int32)} {o_aRoadAt : (Nat → Int32)} {o_aWorths : (Nat → Int32)} {o_aMiddles : (Nat → Int32)} {o_aIsLeft : (Nat → Int32)} {o_aAround : (Nat → Int32)} {o_aWhole : (Nat → Int32)} {o_aIsNeeded : (Nat → Int32)} (h : f8_findOrder fu iRoads aIsLeft aCosts aLengthOf aWorths aMiddles aRankOf aRoadAt aAround aWhole aIsNeeded = some (o_aRankOf, o_aRoadAt, o_aWorths, o_aMiddles, o_aIsLeft, o_aAround, o_aWhole, o_aIsNeeded)) :
    GM l yX8_findOrder cX8_findOrder 2 none 3 76 D cI cZ layM q [.ref (q 0)] ([iPageLength, iRoads, iRead, iAltered, iRanked, iStage, iFigures, iNewRoads, iTold, iRouted, iRouteSum], [jH], [aPage, aBeginOf, aEndOf, aLengthOf, aCosts, aRankOf, aRoadAt, aWorths, aMiddles, aLeasts, aBusy, aNewBegin, aNewEnd, aNewLength, aIsLeft, aAround, aWhole, aIsNeeded, aWereRanks, aWaitFrom, aWaitTo, aToldAt, aRisen, aUps, aTried, aRoutes]) none ([iPageLength, iRoads, iRead, iAltered, iRanked, iStage, iFigures, iNewRoads, iTold, iRouted, iRouteSum], [jH], [aPage, aBeginOf, aEndOf, aLengthOf, aCosts, o_aRankOf, o_aRoadAt, o_aWorths, o_aMiddles, aLeasts, aBusy, aNewBegin, aNewEnd, aNewLength, o_aIsLeft, o_aAround, o_aWhole, o_aIsNeeded, aWereRanks, aWaitFrom, aWaitTo, aToldAt, aRisen, aUps, aTried, aRoutes]) := by
  refine GM.go RX8 (by decide) rfl (Nat.le_of_ble_eq_true rfl) ?_
  intro p e s m args below meth c ls R Q H locs X hr hlk hT hG hl hR hQ
  have hx := X.1
  have hb := X.2.1
  have hl : lv_has ls 2 [(0, .ref (q 0))] := hl
  unfold f8_findOrder at h
  refine lv_aload_n hx hb dX8_findOrder_0 rfl (lv_at hl 0 rfl) ?_
  obtain ⟨aWorths_1, aMiddles_2, aIsLeft_3, ec4, h⟩ := bnd3_some h
  refine g_callVv [] [] 0 X hT hG ml_X8_151 (c_X8_allLeft hq ec4) rfl rfl rfl rfl rfl hl.1 (Nat.le_of_ble_eq_true rfl) (by rw [hR]; exact ⟨Nat.le_of_ble_eq_true rfl, Nat.le_of_ble_eq_true rfl⟩) dX8_findOrder_1 (fun H locs hG => ?_)
  have hG : GH D cI cZ layM q s ([iPageLength, iRoads, iRead, iAltered, iRanked, iStage, iFigures, iNewRoads, iTold, iRouted, iRouteSum], [jH], [aPage, aBeginOf, aEndOf, aLengthOf, aCosts, aRankOf, aRoadAt, aWorths_1, aMiddles_2, aLeasts, aBusy, aNewBegin, aNewEnd, aNewLength, aIsLeft_3, aAround, aWhole, aIsNeeded, aWereRanks, aWaitFrom, aWaitTo, aToldAt, aRisen, aUps, aTried, aRoutes]) H locs := hG
  refine lv_iconst (v := 0) hx hb dX8_findOrder_4 (by decide) ?_
  refine lv_istore_n (lv' := [(1, .int 0), (0, .ref (q 0))]) hx hb dX8_findOrder_5 rfl hl (by decide) rfl (fun ls hl => ?_)
  obtain ⟨aRankOf_14, aRoadAt_15, aWorths_16, aMiddles_17, aIsLeft_18, aAround_19, aWhole_20, aIsNeeded_21, eL22, h⟩ := bnd8_some h
  have JX22 : ∀ (H : Heap) (locs : List Loc) (ls : Array Slot), GH D cI cZ layM q s ([iPageLength, iRoads, iRead, iAltered, iRanked, iStage, iFigures, iNewRoads, iTold, iRouted, iRouteSum], [jH], [aPage, aBeginOf, aEndOf, aLengthOf, aCosts, aRankOf_14, aRoadAt_15, aWorths_16, aMiddles_17, aLeasts, aBusy, aNewBegin, aNewEnd, aNewLength, aIsLeft_18, aAround_19, aWhole_20, aIsNeeded_21, aWereRanks, aWaitFrom, aWaitTo, aToldAt, aRisen, aUps, aTried, aRoutes]) H locs → lv_has ls 2 [] → W p l e R s m args below meth c H locs 0 0 Q (F0 m 29 ls []) := by
    intro H locs ls hG hl
    cases h
    rw [hQ]
    exact g_vret X hT hG hr hlk dX8_findOrder_29
  refine lpG_W (Wh := fun z => ∀ (H : Heap) (locs : List Loc) (ls : Array Slot), GH D cI cZ layM q s ([iPageLength, iRoads, iRead, iAltered, iRanked, iStage, iFigures, iNewRoads, iTold, iRouted, iRouteSum], [jH], [aPage, aBeginOf, aEndOf, aLengthOf, aCosts, z.2.1, z.2.2.1, z.2.2.2.1, z.2.2.2.2.1, aLeasts, aBusy, aNewBegin, aNewEnd, aNewLength, z.2.2.2.2.2.1, z.2.2.2.2.2.2.1, z.2.2.2.2.2.2.2.1, z.2.2.2.2.2.2.2.2, aWereRanks, aWaitFrom, aWaitTo, aToldAt, aRisen, aUps, aTried, aRoutes]) H locs → lv_has ls 2 [(0, .ref (q 0)), (1, .int (z.1))] → W p l e R s m args below meth c H locs 0 0 Q (F0 m 6 ls [])) ?_ fu _ eL22 H locs ls hG (lv_sub hl [1, 0] rfl)
  intro z rr22 hb22 hin22 hout22
  obtain ⟨x1_5, aRankOf_6, aRoadAt_7, aWorths_8, aMiddles_9, aIsLeft_10, aAround_11, aWhole_12, aIsNeeded_13⟩ := z
  intro H locs ls hG hl
  have hb22 : f8_findOrder_b1 fu iRoads x1_5 aRankOf_6 aRoadAt_7 aWorths_8 aMiddles_9 aIsLeft_10 aAround_11 aWhole_12 aIsNeeded_13 = some rr22 := hb22
  have hG : GH D cI cZ layM q s ([iPageLength, iRoads, iRead, iAltered, iRanked, iStage, iFigures, iNewRoads, iTold, iRouted, iRouteSum], [jH], [aPage, aBeginOf, aEndOf, aLengthOf, aCosts, aRankOf_6, aRoadAt_7, aWorths_8, aMiddles_9, aLeasts, aBusy, aNewBegin, aNewEnd, aNewLength, aIsLeft_10, aAround_11, aWhole_12, aIsNeeded_13, aWereRanks, aWaitFrom, aWaitTo, aToldAt, aRisen, aUps, aTried, aRoutes]) H locs := hG
  have hl : lv_has ls 2 [(0, .ref (q 0)), (1, .int x1_5)] := hl
  unfold f8_findOrder_b1 at hb22
  refine lv_iload_n hx hb dX8_findOrder_6 rfl (lv_at hl 1 rfl) ?_
  refine lv_aload_n hx hb dX8_findOrder_7 rfl (lv_at hl 0 rfl) ?_
  refine g_get (v := .int iRoads) X hT hG fl_X8_120 0 rfl rfl rfl dX8_findOrder_8 ?_
  refine lv_icmp_ge (tgt := 29) hx hb dX8_findOrder_11 (by decide) (fun cb23 => ?_) (fun cb23 => ?_)
  · have hb22 := ite_t cb23 hb22
    have eo := hout22 _ (Option.some.inj hb22).symm
    cases eo
    exact JX22 H locs ls hG (lv_sub hl [] rfl)
  · have hb22 := ite_f cb23 hb22
    refine lv_aload_n hx hb dX8_findOrder_14 rfl (lv_at hl 0 rfl) ?_
    refine lv_aload_n hx hb dX8_findOrder_15 rfl (lv_at hl 0 rfl) ?_
    obtain ⟨r_24, aAround_25, aWhole_26, aIsNeeded_27, ec28, hb22⟩ := bnd4_some hb22
    refine g_callVr [] [.ref (q 0)] 0 X hT hG ml_X8_154 (c_X8_nextRoad hq ec28) rfl rfl rfl rfl rfl hl.1 (Nat.le_of_ble_eq_true rfl) (by rw [hR]; exact ⟨Nat.le_of_ble_eq_true rfl, Nat.le_of_ble_eq_true rfl⟩) dX8_findOrder_16 (fun H locs hG => ?_)
    have hG : GH D cI cZ layM q s ([iPageLength, iRoads, iRead, iAltered, iRanked, iStage, iFigures, iNewRoads, iTold, iRouted, iRouteSum], [jH], [aPage, aBeginOf, aEndOf, aLengthOf, aCosts, aRankOf_6, aRoadAt_7, aWorths_8, aMiddles_9, aLeasts, aBusy, aNewBegin, aNewEnd, aNewLength, aIsLeft_10, aAround_25, aWhole_26, aIsNeeded_27, aWereRanks, aWaitFrom, aWaitTo, aToldAt, aRisen, aUps, aTried, aRoutes]) H locs := hG
    refine lv_iload_n hx hb dX8_findOrder_19 rfl (lv_at hl 1 rfl) ?_
    obtain ⟨aRankOf_29, aRoadAt_30, aWorths_31, aMiddles_32, aIsLeft_33, aAround_34, aWhole_35, aIsNeeded_36, ec37, hb22⟩ := bnd8_some hb22
    refine g_callVv [.int r_24, .int x1_5] [] 0 X hT hG ml_X8_157 (c_X8_rankNow hq ec37) rfl rfl rfl rfl rfl hl.1 (Nat.le_of_ble_eq_true rfl) (by rw [hR]; exact ⟨Nat.le_of_ble_eq_true rfl, Nat.le_of_ble_eq_true rfl⟩) dX8_findOrder_20 (fun H locs hG => ?_)
    have hG : GH D cI cZ layM q s ([iPageLength, iRoads, iRead, iAltered, iRanked, iStage, iFigures, iNewRoads, iTold, iRouted, iRouteSum], [jH], [aPage, aBeginOf, aEndOf, aLengthOf, aCosts, aRankOf_29, aRoadAt_30, aWorths_31, aMiddles_32, aLeasts, aBusy, aNewBegin, aNewEnd, aNewLength, aIsLeft_33, aAround_34, aWhole_35, aIsNeeded_36, aWereRanks, aWaitFrom, aWaitTo, aToldAt, aRisen, aUps, aTried, aRoutes]) H locs := hG
    obtain ⟨x1_38, ex1_38⟩ : ∃ z : Int32, z = x1_5 + 1 := ⟨_, rfl⟩
    have hb22 := bd_e ex1_38 hb22
    refine lv_iinc (v := x1_38) (lv' := [(1, .int x1_38), (0, .ref (q 0))]) hx hb dX8_findOrder_23 hl (k := 1) rfl (by rw [ex1_38]; rfl) (by decide) rfl (fun ls hl => ?_)
    refine lv_goto (tgt := 6) hx hb dX8_findOrder_26 (by decide) ?_
    exact hin22 _ (Option.some.inj hb22).symm H locs ls hG (lv_sub hl [1, 0] rfl)
def f8_layLeasts_b2 (iRoads : Int32) (x1_1 : Int32) (aCosts : (Nat → Int32)) (aLengthOf : (Nat → Int32)) (x2_6 : Int32) (aLeasts_7 : (Nat → Int32)) : Option ((Int32 × (Nat → Int32)) ⊕ ((Nat → Int32))) :=
  if iRoads ≤ x2_6 then (some (.inr aLeasts_7)) else bnd1 (f8_isStep x1_1 x2_6 aCosts) fun (r_11 : Int32) => bnd1 (if r_11 = 0 then (some 268435456) else ckin ((12 * x1_1) + x2_6) 144 (ckin x2_6 12 (some ((16 * ((aCosts ((12 * x1_1) + x2_6).toNatClampNeg) + (aLengthOf x2_6.toNatClampNeg))) + 1)))) fun (y_13 : Int32) => bnd1 (if x1_1 = x2_6 then (some 0) else some y_13) fun (y_18 : Int32) => ckin ((12 * x1_1) + x2_6) 144 (bd (upd aLeasts_7 ((12 * x1_1) + x2_6).toNatClampNeg y_18) fun aLeasts_22 => bd (x2_6 + 1) fun x2_23 => some (.inl (x2_23, aLeasts_22)))
def f8_layLeasts_b1 (fu : Nat) (iRoads : Int32) (aCosts : (Nat → Int32)) (aLengthOf : (Nat → Int32)) (x1_1 : Int32) (aLeasts_2 : (Nat → Int32)) : Option ((Int32 × (Nat → Int32)) ⊕ ((Nat → Int32))) :=
  if iRoads ≤ x1_1 then (some (.inr aLeasts_2)) else bnd1 (lpG (fun z => f8_layLeasts_b2 iRoads x1_1 aCosts aLengthOf z.1 z.2) fu ((0 : Int32), aLeasts_2)) fun (aLeasts_8 : (Nat → Int32)) => bd (x1_1 + 1) fun x1_24 => some (.inl (x1_24, aLeasts_8))
def f8_layLeasts_b5 (iRoads : Int32) (x2_30 : Int32) (x1_25 : Int32) (x3_35 : Int32) (aLeasts_36 : (Nat → Int32)) : Option ((Int32 × (Nat → Int32)) ⊕ ((Nat → Int32))) :=
  if iRoads ≤ x3_35 then (some (.inr aLeasts_36)) else ckin ((12 * x2_30) + x1_25) 144 (ckin ((12 * x1_25) + x3_35) 144 (bd (((aLeasts_36 ((12 * x2_30) + x1_25).toNatClampNeg) + (aLeasts_36 ((12 * x1_25) + x3_35).toNatClampNeg))) fun x4_42 => ckin ((12 * x2_30) + x3_35) 144 (bnd1 (if (aLeasts_36 ((12 * x2_30) + x3_35).toNatClampNeg) ≤ x4_42 then (ckin ((12 * x2_30) + x3_35) 144 (some (aLeasts_36 ((12 * x2_30) + x3_35).toNatClampNeg))) else some x4_42) fun (y_44 : Int32) => ckin ((12 * x2_30) + x3_35) 144 (bd (upd aLeasts_36 ((12 * x2_30) + x3_35).toNatClampNeg y_44) fun aLeasts_49 => bd (x3_35 + 1) fun x3_50 => some (.inl (x3_50, aLeasts_49))))))
def f8_layLeasts_b4 (fu : Nat) (iRoads : Int32) (x1_25 : Int32) (x2_30 : Int32) (aLeasts_31 : (Nat → Int32)) : Option ((Int32 × (Nat → Int32)) ⊕ ((Nat → Int32))) :=
  if iRoads ≤ x2_30 then (some (.inr aLeasts_31)) else bnd1 (lpG (fun z => f8_layLeasts_b5 iRoads x2_30 x1_25 z.1 z.2) fu ((0 : Int32), aLeasts_31)) fun (aLeasts_37 : (Nat → Int32)) => bd (x2_30 + 1) fun x2_51 => some (.inl (x2_51, aLeasts_37))
def f8_layLeasts_b3 (fu : Nat) (iRoads : Int32) (x1_25 : Int32) (aLeasts_26 : (Nat → Int32)) : Option ((Int32 × (Nat → Int32)) ⊕ ((Nat → Int32))) :=
  if iRoads ≤ x1_25 then (some (.inr aLeasts_26)) else bnd1 (lpG (fun z => f8_layLeasts_b4 fu iRoads x1_25 z.1 z.2) fu ((0 : Int32), aLeasts_26)) fun (aLeasts_32 : (Nat → Int32)) => bd (x1_25 + 1) fun x1_52 => some (.inl (x1_52, aLeasts_32))
def f8_layLeasts (fu : Nat) (iRoads : Int32) (aCosts : (Nat → Int32)) (aLengthOf : (Nat → Int32)) (aLeasts : (Nat → Int32)) : Option ((Nat → Int32)) :=
  bnd1 (lpG (fun z => f8_layLeasts_b1 fu iRoads aCosts aLengthOf z.1 z.2) fu ((0 : Int32), aLeasts)) fun (aLeasts_3 : (Nat → Int32)) => bnd1 (lpG (fun z => f8_layLeasts_b3 fu iRoads z.1 z.2) fu ((0 : Int32), aLeasts_3)) fun (aLeasts_27 : (Nat → Int32)) => some aLeasts_27
set_option maxHeartbeats 4000000 in
set_option maxRecDepth 100000 in
theorem c_X8_layLeasts (hq : gJ layM q) {fu : Nat} {o_aLeasts : (Nat → Int32)} (h : f8_layLeasts fu iRoads aCosts aLengthOf aLeasts = some o_aLeasts) :
    GM l yX8_layLeasts cX8_layLeasts 5 none 1 22 D cI cZ layM q [.ref (q 0)] ([iPageLength, iRoads, iRead, iAltered, iRanked, iStage, iFigures, iNewRoads, iTold, iRouted, iRouteSum], [jH], [aPage, aBeginOf, aEndOf, aLengthOf, aCosts, aRankOf, aRoadAt, aWorths, aMiddles, aLeasts, aBusy, aNewBegin, aNewEnd, aNewLength, aIsLeft, aAround, aWhole, aIsNeeded, aWereRanks, aWaitFrom, aWaitTo, aToldAt, aRisen, aUps, aTried, aRoutes]) none ([iPageLength, iRoads, iRead, iAltered, iRanked, iStage, iFigures, iNewRoads, iTold, iRouted, iRouteSum], [jH], [aPage, aBeginOf, aEndOf, aLengthOf, aCosts, aRankOf, aRoadAt, aWorths, aMiddles, o_aLeasts, aBusy, aNewBegin, aNewEnd, aNewLength, aIsLeft, aAround, aWhole, aIsNeeded, aWereRanks, aWaitFrom, aWaitTo, aToldAt, aRisen, aUps, aTried, aRoutes]) := by
  refine GM.go RX8 (by decide) rfl (Nat.le_of_ble_eq_true rfl) ?_
  intro p e s m args below meth c ls R Q H locs X hr hlk hT hG hl hR hQ
  have hx := X.1
  have hb := X.2.1
  have hl : lv_has ls 5 [(0, .ref (q 0))] := hl
  unfold f8_layLeasts at h
  refine lv_iconst (v := 0) hx hb dX8_layLeasts_0 (by decide) ?_
  refine lv_istore_n (lv' := [(1, .int 0), (0, .ref (q 0))]) hx hb dX8_layLeasts_1 rfl hl (by decide) rfl (fun ls hl => ?_)
  obtain ⟨aLeasts_3, eL4, h⟩ := bnd1_some h
  have JX4 : ∀ (H : Heap) (locs : List Loc) (ls : Array Slot), GH D cI cZ layM q s ([iPageLength, iRoads, iRead, iAltered, iRanked, iStage, iFigures, iNewRoads, iTold, iRouted, iRouteSum], [jH], [aPage, aBeginOf, aEndOf, aLengthOf, aCosts, aRankOf, aRoadAt, aWorths, aMiddles, aLeasts_3, aBusy, aNewBegin, aNewEnd, aNewLength, aIsLeft, aAround, aWhole, aIsNeeded, aWereRanks, aWaitFrom, aWaitTo, aToldAt, aRisen, aUps, aTried, aRoutes]) H locs → lv_has ls 5 [(0, .ref (q 0))] → W p l e R s m args below meth c H locs 0 0 Q (F0 m 91 ls []) := by
    intro H locs ls hG hl
    refine lv_iconst (v := 0) hx hb dX8_layLeasts_91 (by decide) ?_
    refine lv_istore_n (lv' := [(1, .int 0), (0, .ref (q 0))]) hx hb dX8_layLeasts_92 rfl hl (by decide) rfl (fun ls hl => ?_)
    obtain ⟨aLeasts_27, eL28, h⟩ := bnd1_some h
    have JX28 : ∀ (H : Heap) (locs : List Loc) (ls : Array Slot), GH D cI cZ layM q s ([iPageLength, iRoads, iRead, iAltered, iRanked, iStage, iFigures, iNewRoads, iTold, iRouted, iRouteSum], [jH], [aPage, aBeginOf, aEndOf, aLengthOf, aCosts, aRankOf, aRoadAt, aWorths, aMiddles, aLeasts_27, aBusy, aNewBegin, aNewEnd, aNewLength, aIsLeft, aAround, aWhole, aIsNeeded, aWereRanks, aWaitFrom, aWaitTo, aToldAt, aRisen, aUps, aTried, aRoutes]) H locs → lv_has ls 5 [] → W p l e R s m args below meth c H locs 0 0 Q (F0 m 207 ls []) := by
      intro H locs ls hG hl
      cases h
      rw [hQ]
      exact g_vret X hT hG hr hlk dX8_layLeasts_207
    refine lpG_W (Wh := fun z => ∀ (H : Heap) (locs : List Loc) (ls : Array Slot), GH D cI cZ layM q s ([iPageLength, iRoads, iRead, iAltered, iRanked, iStage, iFigures, iNewRoads, iTold, iRouted, iRouteSum], [jH], [aPage, aBeginOf, aEndOf, aLengthOf, aCosts, aRankOf, aRoadAt, aWorths, aMiddles, z.2, aBusy, aNewBegin, aNewEnd, aNewLength, aIsLeft, aAround, aWhole, aIsNeeded, aWereRanks, aWaitFrom, aWaitTo, aToldAt, aRisen, aUps, aTried, aRoutes]) H locs → lv_has ls 5 [(0, .ref (q 0)), (1, .int (z.1))] → W p l e R s m args below meth c H locs 0 0 Q (F0 m 93 ls [])) ?_ fu _ eL28 H locs ls hG (lv_sub hl [1, 0] rfl)
    intro z rr28 hb28 hin28 hout28
    obtain ⟨x1_25, aLeasts_26⟩ := z
    intro H locs ls hG hl
    have hb28 : f8_layLeasts_b3 fu iRoads x1_25 aLeasts_26 = some rr28 := hb28
    have hG : GH D cI cZ layM q s ([iPageLength, iRoads, iRead, iAltered, iRanked, iStage, iFigures, iNewRoads, iTold, iRouted, iRouteSum], [jH], [aPage, aBeginOf, aEndOf, aLengthOf, aCosts, aRankOf, aRoadAt, aWorths, aMiddles, aLeasts_26, aBusy, aNewBegin, aNewEnd, aNewLength, aIsLeft, aAround, aWhole, aIsNeeded, aWereRanks, aWaitFrom, aWaitTo, aToldAt, aRisen, aUps, aTried, aRoutes]) H locs := hG
    have hl : lv_has ls 5 [(0, .ref (q 0)), (1, .int x1_25)] := hl
    unfold f8_layLeasts_b3 at hb28
    refine lv_iload_n hx hb dX8_layLeasts_93 rfl (lv_at hl 1 rfl) ?_
    refine lv_aload_n hx hb dX8_layLeasts_94 rfl (lv_at hl 0 rfl) ?_
    refine g_get (v := .int iRoads) X hT hG fl_X8_120 0 rfl rfl rfl dX8_layLeasts_95 ?_
    refine lv_icmp_ge (tgt := 207) hx hb dX8_layLeasts_98 (by decide) (fun cb29 => ?_) (fun cb29 => ?_)
    · have hb28 := ite_t cb29 hb28
      have eo := hout28 _ (Option.some.inj hb28).symm
      cases eo
      exact JX28 H locs ls hG (lv_sub hl [] rfl)
    · have hb28 := ite_f cb29 hb28
      refine lv_iconst (v := 0) hx hb dX8_layLeasts_101 (by decide) ?_
      refine lv_istore_n (lv' := [(2, .int 0), (0, .ref (q 0)), (1, .int x1_25)]) hx hb dX8_layLeasts_102 rfl hl (by decide) rfl (fun ls hl => ?_)
      obtain ⟨aLeasts_32, eL33, hb28⟩ := bnd1_some hb28
      have JX33 : ∀ (H : Heap) (locs : List Loc) (ls : Array Slot), GH D cI cZ layM q s ([iPageLength, iRoads, iRead, iAltered, iRanked, iStage, iFigures, iNewRoads, iTold, iRouted, iRouteSum], [jH], [aPage, aBeginOf, aEndOf, aLengthOf, aCosts, aRankOf, aRoadAt, aWorths, aMiddles, aLeasts_32, aBusy, aNewBegin, aNewEnd, aNewLength, aIsLeft, aAround, aWhole, aIsNeeded, aWereRanks, aWaitFrom, aWaitTo, aToldAt, aRisen, aUps, aTried, aRoutes]) H locs → lv_has ls 5 [(0, .ref (q 0)), (1, .int x1_25)] → W p l e R s m args below meth c H locs 0 0 Q (F0 m 201 ls []) := by
        intro H locs ls hG hl
        obtain ⟨x1_52, ex1_52⟩ : ∃ z : Int32, z = x1_25 + 1 := ⟨_, rfl⟩
        have hb28 := bd_e ex1_52 hb28
        refine lv_iinc (v := x1_52) (lv' := [(1, .int x1_52), (0, .ref (q 0))]) hx hb dX8_layLeasts_201 hl (k := 1) rfl (by rw [ex1_52]; rfl) (by decide) rfl (fun ls hl => ?_)
        refine lv_goto (tgt := 93) hx hb dX8_layLeasts_204 (by decide) ?_
        exact hin28 _ (Option.some.inj hb28).symm H locs ls hG (lv_sub hl [1, 0] rfl)
      refine lpG_W (Wh := fun z => ∀ (H : Heap) (locs : List Loc) (ls : Array Slot), GH D cI cZ layM q s ([iPageLength, iRoads, iRead, iAltered, iRanked, iStage, iFigures, iNewRoads, iTold, iRouted, iRouteSum], [jH], [aPage, aBeginOf, aEndOf, aLengthOf, aCosts, aRankOf, aRoadAt, aWorths, aMiddles, z.2, aBusy, aNewBegin, aNewEnd, aNewLength, aIsLeft, aAround, aWhole, aIsNeeded, aWereRanks, aWaitFrom, aWaitTo, aToldAt, aRisen, aUps, aTried, aRoutes]) H locs → lv_has ls 5 [(0, .ref (q 0)), (1, .int x1_25), (2, .int (z.1))] → W p l e R s m args below meth c H locs 0 0 Q (F0 m 103 ls [])) ?_ fu _ eL33 H locs ls hG (lv_sub hl [1, 2, 0] rfl)
      intro z rr33 hb33 hin33 hout33
      obtain ⟨x2_30, aLeasts_31⟩ := z
      intro H locs ls hG hl
      have hb33 : f8_layLeasts_b4 fu iRoads x1_25 x2_30 aLeasts_31 = some rr33 := hb33
      have hG : GH D cI cZ layM q s ([iPageLength, iRoads, iRead, iAltered, iRanked, iStage, iFigures, iNewRoads, iTold, iRouted, iRouteSum], [jH], [aPage, aBeginOf, aEndOf, aLengthOf, aCosts, aRankOf, aRoadAt, aWorths, aMiddles, aLeasts_31, aBusy, aNewBegin, aNewEnd, aNewLength, aIsLeft, aAround, aWhole, aIsNeeded, aWereRanks, aWaitFrom, aWaitTo, aToldAt, aRisen, aUps, aTried, aRoutes]) H locs := hG
      have hl : lv_has ls 5 [(0, .ref (q 0)), (1, .int x1_25), (2, .int x2_30)] := hl
      unfold f8_layLeasts_b4 at hb33
      refine lv_iload_n hx hb dX8_layLeasts_103 rfl (lv_at hl 2 rfl) ?_
      refine lv_aload_n hx hb dX8_layLeasts_104 rfl (lv_at hl 0 rfl) ?_
      refine g_get (v := .int iRoads) X hT hG fl_X8_120 0 rfl rfl rfl dX8_layLeasts_105 ?_
      refine lv_icmp_ge (tgt := 201) hx hb dX8_layLeasts_108 (by decide) (fun cb34 => ?_) (fun cb34 => ?_)
      · have hb33 := ite_t cb34 hb33
        have eo := hout33 _ (Option.some.inj hb33).symm
        cases eo
        exact JX33 H locs ls hG (lv_sub hl [0, 1] rfl)
      · have hb33 := ite_f cb34 hb33
        refine lv_iconst (v := 0) hx hb dX8_layLeasts_111 (by decide) ?_
        refine lv_istore_n (lv' := [(3, .int 0), (0, .ref (q 0)), (1, .int x1_25), (2, .int x2_30)]) hx hb dX8_layLeasts_112 rfl hl (by decide) rfl (fun ls hl => ?_)
        obtain ⟨aLeasts_37, eL38, hb33⟩ := bnd1_some hb33
        have JX38 : ∀ (H : Heap) (locs : List Loc) (ls : Array Slot), GH D cI cZ layM q s ([iPageLength, iRoads, iRead, iAltered, iRanked, iStage, iFigures, iNewRoads, iTold, iRouted, iRouteSum], [jH], [aPage, aBeginOf, aEndOf, aLengthOf, aCosts, aRankOf, aRoadAt, aWorths, aMiddles, aLeasts_37, aBusy, aNewBegin, aNewEnd, aNewLength, aIsLeft, aAround, aWhole, aIsNeeded, aWereRanks, aWaitFrom, aWaitTo, aToldAt, aRisen, aUps, aTried, aRoutes]) H locs → lv_has ls 5 [(0, .ref (q 0)), (1, .int x1_25), (2, .int x2_30)] → W p l e R s m args below meth c H locs 0 0 Q (F0 m 195 ls []) := by
          intro H locs ls hG hl
          obtain ⟨x2_51, ex2_51⟩ : ∃ z : Int32, z = x2_30 + 1 := ⟨_, rfl⟩
          have hb33 := bd_e ex2_51 hb33
          refine lv_iinc (v := x2_51) (lv' := [(2, .int x2_51), (0, .ref (q 0)), (1, .int x1_25)]) hx hb dX8_layLeasts_195 hl (k := 2) rfl (by rw [ex2_51]; rfl) (by decide) rfl (fun ls hl => ?_)
          refine lv_goto (tgt := 103) hx hb dX8_layLeasts_198 (by decide) ?_
          exact hin33 _ (Option.some.inj hb33).symm H locs ls hG (lv_sub hl [1, 2, 0] rfl)
        refine lpG_W (Wh := fun z => ∀ (H : Heap) (locs : List Loc) (ls : Array Slot), GH D cI cZ layM q s ([iPageLength, iRoads, iRead, iAltered, iRanked, iStage, iFigures, iNewRoads, iTold, iRouted, iRouteSum], [jH], [aPage, aBeginOf, aEndOf, aLengthOf, aCosts, aRankOf, aRoadAt, aWorths, aMiddles, z.2, aBusy, aNewBegin, aNewEnd, aNewLength, aIsLeft, aAround, aWhole, aIsNeeded, aWereRanks, aWaitFrom, aWaitTo, aToldAt, aRisen, aUps, aTried, aRoutes]) H locs → lv_has ls 5 [(0, .ref (q 0)), (1, .int x1_25), (2, .int x2_30), (3, .int (z.1))] → W p l e R s m args below meth c H locs 0 0 Q (F0 m 113 ls [])) ?_ fu _ eL38 H locs ls hG (lv_sub hl [1, 2, 3, 0] rfl)
        intro z rr38 hb38 hin38 hout38
        obtain ⟨x3_35, aLeasts_36⟩ := z
        intro H locs ls hG hl
        have hb38 : f8_layLeasts_b5 iRoads x2_30 x1_25 x3_35 aLeasts_36 = some rr38 := hb38
        have hG : GH D cI cZ layM q s ([iPageLength, iRoads, iRead, iAltered, iRanked, iStage, iFigures, iNewRoads, iTold, iRouted, iRouteSum], [jH], [aPage, aBeginOf, aEndOf, aLengthOf, aCosts, aRankOf, aRoadAt, aWorths, aMiddles, aLeasts_36, aBusy, aNewBegin, aNewEnd, aNewLength, aIsLeft, aAround, aWhole, aIsNeeded, aWereRanks, aWaitFrom, aWaitTo, aToldAt, aRisen, aUps, aTried, aRoutes]) H locs := hG
        have hl : lv_has ls 5 [(0, .ref (q 0)), (1, .int x1_25), (2, .int x2_30), (3, .int x3_35)] := hl
        unfold f8_layLeasts_b5 at hb38
        refine lv_iload_n hx hb dX8_layLeasts_113 rfl (lv_at hl 3 rfl) ?_
        refine lv_aload_n hx hb dX8_layLeasts_114 rfl (lv_at hl 0 rfl) ?_
        refine g_get (v := .int iRoads) X hT hG fl_X8_120 0 rfl rfl rfl dX8_layLeasts_115 ?_
        refine lv_icmp_ge (tgt := 195) hx hb dX8_layLeasts_118 (by decide) (fun cb39 => ?_) (fun cb39 => ?_)
        · have hb38 := ite_t cb39 hb38
          have eo := hout38 _ (Option.some.inj hb38).symm
          cases eo
          exact JX38 H locs ls hG (lv_sub hl [0, 1, 2] rfl)
        · have hb38 := ite_f cb39 hb38
          refine lv_aload_n hx hb dX8_layLeasts_121 rfl (lv_at hl 0 rfl) ?_
          refine g_get (v := .ref (q 10)) X hT hG fl_X8_37 0 rfl rfl rfl dX8_layLeasts_122 ?_
          refine lv_bipush (v := 12) hx hb dX8_layLeasts_125 (by decide) ?_
          refine lv_iload_n hx hb dX8_layLeasts_127 rfl (lv_at hl 2 rfl) ?_
          refine lv_imul hx hb dX8_layLeasts_128 ?_
          refine lv_iload_n hx hb dX8_layLeasts_129 rfl (lv_at hl 1 rfl) ?_
          refine lv_iadd hx hb dX8_layLeasts_130 ?_
          obtain ⟨hi40, hb38⟩ := ckin_some hb38
          refine g_ald (f := aLeasts_36) X hT hG 10 rfl rfl hi40 dX8_layLeasts_131 ?_
          refine lv_aload_n hx hb dX8_layLeasts_132 rfl (lv_at hl 0 rfl) ?_
          refine g_get (v := .ref (q 10)) X hT hG fl_X8_37 0 rfl rfl rfl dX8_layLeasts_133 ?_
          refine lv_bipush (v := 12) hx hb dX8_layLeasts_136 (by decide) ?_
          refine lv_iload_n hx hb dX8_layLeasts_138 rfl (lv_at hl 1 rfl) ?_
          refine lv_imul hx hb dX8_layLeasts_139 ?_
          refine lv_iload_n hx hb dX8_layLeasts_140 rfl (lv_at hl 3 rfl) ?_
          refine lv_iadd hx hb dX8_layLeasts_141 ?_
          obtain ⟨hi41, hb38⟩ := ckin_some hb38
          refine g_ald (f := aLeasts_36) X hT hG 10 rfl rfl hi41 dX8_layLeasts_142 ?_
          refine lv_iadd hx hb dX8_layLeasts_143 ?_
          refine lv_topi (fun x4_42 ex4_42 => ?_)
          have hb38 := bd_e ex4_42 hb38
          refine lv_istore (lv' := [(4, .int x4_42), (0, .ref (q 0)), (1, .int x1_25), (2, .int x2_30), (3, .int x3_35)]) hx hb dX8_layLeasts_144 hl (by decide) rfl (fun ls hl => ?_)
          refine lv_aload_n hx hb dX8_layLeasts_146 rfl (lv_at hl 1 rfl) ?_
          refine g_get (v := .ref (q 10)) X hT hG fl_X8_37 0 rfl rfl rfl dX8_layLeasts_147 ?_
          refine lv_bipush (v := 12) hx hb dX8_layLeasts_150 (by decide) ?_
          refine lv_iload_n hx hb dX8_layLeasts_152 rfl (lv_at hl 3 rfl) ?_
          refine lv_imul hx hb dX8_layLeasts_153 ?_
          refine lv_iload_n hx hb dX8_layLeasts_154 rfl (lv_at hl 4 rfl) ?_
          refine lv_iadd hx hb dX8_layLeasts_155 ?_
          refine lv_iload hx hb dX8_layLeasts_156 (lv_at hl 0 rfl) ?_
          refine lv_aload_n hx hb dX8_layLeasts_158 rfl (lv_at hl 1 rfl) ?_
          refine g_get (v := .ref (q 10)) X hT hG fl_X8_37 0 rfl rfl rfl dX8_layLeasts_159 ?_
          refine lv_bipush (v := 12) hx hb dX8_layLeasts_162 (by decide) ?_
          refine lv_iload_n hx hb dX8_layLeasts_164 rfl (lv_at hl 3 rfl) ?_
          refine lv_imul hx hb dX8_layLeasts_165 ?_
          refine lv_iload_n hx hb dX8_layLeasts_166 rfl (lv_at hl 4 rfl) ?_
          refine lv_iadd hx hb dX8_layLeasts_167 ?_
          obtain ⟨hi43, hb38⟩ := ckin_some hb38
          refine g_ald (f := aLeasts_36) X hT hG 10 rfl rfl hi43 dX8_layLeasts_168 ?_
          obtain ⟨y_44, er45, hb38⟩ := bnd1_some hb38
          have J45 : ∀ (H : Heap) (locs : List Loc) (ls : Array Slot), GH D cI cZ layM q s ([iPageLength, iRoads, iRead, iAltered, iRanked, iStage, iFigures, iNewRoads, iTold, iRouted, iRouteSum], [jH], [aPage, aBeginOf, aEndOf, aLengthOf, aCosts, aRankOf, aRoadAt, aWorths, aMiddles, aLeasts_36, aBusy, aNewBegin, aNewEnd, aNewLength, aIsLeft, aAround, aWhole, aIsNeeded, aWereRanks, aWaitFrom, aWaitTo, aToldAt, aRisen, aUps, aTried, aRoutes]) H locs → lv_has ls 5 [(0, .ref (q 0)), (1, .int x1_25), (2, .int x2_30), (3, .int x3_35)] → W p l e R s m args below meth c H locs 0 0 Q (F0 m 188 ls [.int y_44, .int ((12 * x2_30) + x3_35), .ref (q 10)]) := by
            intro H locs ls hG hl
            obtain ⟨hi48, hb38⟩ := ckin_some hb38
            obtain ⟨aLeasts_49, eaLeasts_49⟩ : ∃ z : Nat → Int32, z = upd aLeasts_36 ((12 * x2_30) + x3_35).toNatClampNeg y_44 := ⟨_, rfl⟩
            have hb38 := bd_e eaLeasts_49 hb38
            refine g_ast (w' := ([iPageLength, iRoads, iRead, iAltered, iRanked, iStage, iFigures, iNewRoads, iTold, iRouted, iRouteSum], [jH], [aPage, aBeginOf, aEndOf, aLengthOf, aCosts, aRankOf, aRoadAt, aWorths, aMiddles, aLeasts_49, aBusy, aNewBegin, aNewEnd, aNewLength, aIsLeft, aAround, aWhole, aIsNeeded, aWereRanks, aWaitFrom, aWaitTo, aToldAt, aRisen, aUps, aTried, aRoutes])) X hT hq hG 10 rfl ga_M_aLeasts (Nat.le_of_ble_eq_true rfl) hi48 (by subst eaLeasts_49; rfl) dX8_layLeasts_188 (fun H locs hG => ?_)
            obtain ⟨x3_50, ex3_50⟩ : ∃ z : Int32, z = x3_35 + 1 := ⟨_, rfl⟩
            have hb38 := bd_e ex3_50 hb38
            refine lv_iinc (v := x3_50) (lv' := [(3, .int x3_50), (0, .ref (q 0)), (1, .int x1_25), (2, .int x2_30)]) hx hb dX8_layLeasts_189 hl (k := 3) rfl (by rw [ex3_50]; rfl) (by decide) rfl (fun ls hl => ?_)
            refine lv_goto (tgt := 113) hx hb dX8_layLeasts_192 (by decide) ?_
            exact hin38 _ (Option.some.inj hb38).symm H locs ls hG (lv_sub hl [1, 2, 3, 0] rfl)
          refine lv_icmp_ge (tgt := 177) hx hb dX8_layLeasts_169 (by decide) (fun cb46 => ?_) (fun cb46 => ?_)
          · have er45 := ite_t cb46 er45
            refine lv_aload_n hx hb dX8_layLeasts_177 rfl (lv_at hl 1 rfl) ?_
            refine g_get (v := .ref (q 10)) X hT hG fl_X8_37 0 rfl rfl rfl dX8_layLeasts_178 ?_
            refine lv_bipush (v := 12) hx hb dX8_layLeasts_181 (by decide) ?_
            refine lv_iload_n hx hb dX8_layLeasts_183 rfl (lv_at hl 3 rfl) ?_
            refine lv_imul hx hb dX8_layLeasts_184 ?_
            refine lv_iload_n hx hb dX8_layLeasts_185 rfl (lv_at hl 4 rfl) ?_
            refine lv_iadd hx hb dX8_layLeasts_186 ?_
            obtain ⟨hi47, er45⟩ := ckin_some er45
            refine g_ald (f := aLeasts_36) X hT hG 10 rfl rfl hi47 dX8_layLeasts_187 ?_
            cases er45
            exact J45 H locs ls hG (lv_sub hl [1, 2, 3, 4] rfl)
          · have er45 := ite_f cb46 er45
            refine lv_iload hx hb dX8_layLeasts_172 (lv_at hl 0 rfl) ?_
            refine lv_goto (tgt := 188) hx hb dX8_layLeasts_174 (by decide) ?_
            cases er45
            exact J45 H locs ls hG (lv_sub hl [1, 2, 3, 4] rfl)
  refine lpG_W (Wh := fun z => ∀ (H : Heap) (locs : List Loc) (ls : Array Slot), GH D cI cZ layM q s ([iPageLength, iRoads, iRead, iAltered, iRanked, iStage, iFigures, iNewRoads, iTold, iRouted, iRouteSum], [jH], [aPage, aBeginOf, aEndOf, aLengthOf, aCosts, aRankOf, aRoadAt, aWorths, aMiddles, z.2, aBusy, aNewBegin, aNewEnd, aNewLength, aIsLeft, aAround, aWhole, aIsNeeded, aWereRanks, aWaitFrom, aWaitTo, aToldAt, aRisen, aUps, aTried, aRoutes]) H locs → lv_has ls 5 [(0, .ref (q 0)), (1, .int (z.1))] → W p l e R s m args below meth c H locs 0 0 Q (F0 m 2 ls [])) ?_ fu _ eL4 H locs ls hG (lv_sub hl [1, 0] rfl)
  intro z rr4 hb4 hin4 hout4
  obtain ⟨x1_1, aLeasts_2⟩ := z
  intro H locs ls hG hl
  have hb4 : f8_layLeasts_b1 fu iRoads aCosts aLengthOf x1_1 aLeasts_2 = some rr4 := hb4
  have hG : GH D cI cZ layM q s ([iPageLength, iRoads, iRead, iAltered, iRanked, iStage, iFigures, iNewRoads, iTold, iRouted, iRouteSum], [jH], [aPage, aBeginOf, aEndOf, aLengthOf, aCosts, aRankOf, aRoadAt, aWorths, aMiddles, aLeasts_2, aBusy, aNewBegin, aNewEnd, aNewLength, aIsLeft, aAround, aWhole, aIsNeeded, aWereRanks, aWaitFrom, aWaitTo, aToldAt, aRisen, aUps, aTried, aRoutes]) H locs := hG
  have hl : lv_has ls 5 [(0, .ref (q 0)), (1, .int x1_1)] := hl
  unfold f8_layLeasts_b1 at hb4
  refine lv_iload_n hx hb dX8_layLeasts_2 rfl (lv_at hl 1 rfl) ?_
  refine lv_aload_n hx hb dX8_layLeasts_3 rfl (lv_at hl 0 rfl) ?_
  refine g_get (v := .int iRoads) X hT hG fl_X8_120 0 rfl rfl rfl dX8_layLeasts_4 ?_
  refine lv_icmp_ge (tgt := 91) hx hb dX8_layLeasts_7 (by decide) (fun cb5 => ?_) (fun cb5 => ?_)
  · have hb4 := ite_t cb5 hb4
    have eo := hout4 _ (Option.some.inj hb4).symm
    cases eo
    exact JX4 H locs ls hG (lv_sub hl [0] rfl)
  · have hb4 := ite_f cb5 hb4
    refine lv_iconst (v := 0) hx hb dX8_layLeasts_10 (by decide) ?_
    refine lv_istore_n (lv' := [(2, .int 0), (0, .ref (q 0)), (1, .int x1_1)]) hx hb dX8_layLeasts_11 rfl hl (by decide) rfl (fun ls hl => ?_)
    obtain ⟨aLeasts_8, eL9, hb4⟩ := bnd1_some hb4
    have JX9 : ∀ (H : Heap) (locs : List Loc) (ls : Array Slot), GH D cI cZ layM q s ([iPageLength, iRoads, iRead, iAltered, iRanked, iStage, iFigures, iNewRoads, iTold, iRouted, iRouteSum], [jH], [aPage, aBeginOf, aEndOf, aLengthOf, aCosts, aRankOf, aRoadAt, aWorths, aMiddles, aLeasts_8, aBusy, aNewBegin, aNewEnd, aNewLength, aIsLeft, aAround, aWhole, aIsNeeded, aWereRanks, aWaitFrom, aWaitTo, aToldAt, aRisen, aUps, aTried, aRoutes]) H locs → lv_has ls 5 [(0, .ref (q 0)), (1, .int x1_1)] → W p l e R s m args below meth c H locs 0 0 Q (F0 m 85 ls []) := by
      intro H locs ls hG hl
      obtain ⟨x1_24, ex1_24⟩ : ∃ z : Int32, z = x1_1 + 1 := ⟨_, rfl⟩
      have hb4 := bd_e ex1_24 hb4
      refine lv_iinc (v := x1_24) (lv' := [(1, .int x1_24), (0, .ref (q 0))]) hx hb dX8_layLeasts_85 hl (k := 1) rfl (by rw [ex1_24]; rfl) (by decide) rfl (fun ls hl => ?_)
      refine lv_goto (tgt := 2) hx hb dX8_layLeasts_88 (by decide) ?_
      exact hin4 _ (Option.some.inj hb4).symm H locs ls hG (lv_sub hl [1, 0] rfl)
    refine lpG_W (Wh := fun z => ∀ (H : Heap) (locs : List Loc) (ls : Array Slot), GH D cI cZ layM q s ([iPageLength, iRoads, iRead, iAltered, iRanked, iStage, iFigures, iNewRoads, iTold, iRouted, iRouteSum], [jH], [aPage, aBeginOf, aEndOf, aLengthOf, aCosts, aRankOf, aRoadAt, aWorths, aMiddles, z.2, aBusy, aNewBegin, aNewEnd, aNewLength, aIsLeft, aAround, aWhole, aIsNeeded, aWereRanks, aWaitFrom, aWaitTo, aToldAt, aRisen, aUps, aTried, aRoutes]) H locs → lv_has ls 5 [(0, .ref (q 0)), (1, .int x1_1), (2, .int (z.1))] → W p l e R s m args below meth c H locs 0 0 Q (F0 m 12 ls [])) ?_ fu _ eL9 H locs ls hG (lv_sub hl [1, 2, 0] rfl)
    intro z rr9 hb9 hin9 hout9
    obtain ⟨x2_6, aLeasts_7⟩ := z
    intro H locs ls hG hl
    have hb9 : f8_layLeasts_b2 iRoads x1_1 aCosts aLengthOf x2_6 aLeasts_7 = some rr9 := hb9
    have hG : GH D cI cZ layM q s ([iPageLength, iRoads, iRead, iAltered, iRanked, iStage, iFigures, iNewRoads, iTold, iRouted, iRouteSum], [jH], [aPage, aBeginOf, aEndOf, aLengthOf, aCosts, aRankOf, aRoadAt, aWorths, aMiddles, aLeasts_7, aBusy, aNewBegin, aNewEnd, aNewLength, aIsLeft, aAround, aWhole, aIsNeeded, aWereRanks, aWaitFrom, aWaitTo, aToldAt, aRisen, aUps, aTried, aRoutes]) H locs := hG
    have hl : lv_has ls 5 [(0, .ref (q 0)), (1, .int x1_1), (2, .int x2_6)] := hl
    unfold f8_layLeasts_b2 at hb9
    refine lv_iload_n hx hb dX8_layLeasts_12 rfl (lv_at hl 2 rfl) ?_
    refine lv_aload_n hx hb dX8_layLeasts_13 rfl (lv_at hl 0 rfl) ?_
    refine g_get (v := .int iRoads) X hT hG fl_X8_120 0 rfl rfl rfl dX8_layLeasts_14 ?_
    refine lv_icmp_ge (tgt := 85) hx hb dX8_layLeasts_17 (by decide) (fun cb10 => ?_) (fun cb10 => ?_)
    · have hb9 := ite_t cb10 hb9
      have eo := hout9 _ (Option.some.inj hb9).symm
      cases eo
      exact JX9 H locs ls hG (lv_sub hl [0, 1] rfl)
    · have hb9 := ite_f cb10 hb9
      refine lv_aload_n hx hb dX8_layLeasts_20 rfl (lv_at hl 0 rfl) ?_
      refine lv_iload_n hx hb dX8_layLeasts_21 rfl (lv_at hl 1 rfl) ?_
      refine lv_iload_n hx hb dX8_layLeasts_22 rfl (lv_at hl 2 rfl) ?_
      obtain ⟨r_11, ec12, hb9⟩ := bnd1_some hb9
      refine g_callVr [.int x1_1, .int x2_6] [] 0 X hT hG ml_X8_132 (c_X8_isStep hq ec12) rfl rfl rfl rfl rfl hl.1 (Nat.le_of_ble_eq_true rfl) (by rw [hR]; exact ⟨Nat.le_of_ble_eq_true rfl, Nat.le_of_ble_eq_true rfl⟩) dX8_layLeasts_23 (fun H locs hG => ?_)
      obtain ⟨y_13, er14, hb9⟩ := bnd1_some hb9
      have J14 : ∀ (H : Heap) (locs : List Loc) (ls : Array Slot), GH D cI cZ layM q s ([iPageLength, iRoads, iRead, iAltered, iRanked, iStage, iFigures, iNewRoads, iTold, iRouted, iRouteSum], [jH], [aPage, aBeginOf, aEndOf, aLengthOf, aCosts, aRankOf, aRoadAt, aWorths, aMiddles, aLeasts_7, aBusy, aNewBegin, aNewEnd, aNewLength, aIsLeft, aAround, aWhole, aIsNeeded, aWereRanks, aWaitFrom, aWaitTo, aToldAt, aRisen, aUps, aTried, aRoutes]) H locs → lv_has ls 5 [(0, .ref (q 0)), (1, .int x1_1), (2, .int x2_6)] → W p l e R s m args below meth c H locs 0 0 Q (F0 m 57 ls [.int y_13]) := by
        intro H locs ls hG hl
        refine lv_istore_n (lv' := [(3, .int y_13), (0, .ref (q 0)), (1, .int x1_1), (2, .int x2_6)]) hx hb dX8_layLeasts_57 rfl hl (by decide) rfl (fun ls hl => ?_)
        refine lv_aload_n hx hb dX8_layLeasts_58 rfl (lv_at hl 1 rfl) ?_
        refine g_get (v := .ref (q 10)) X hT hG fl_X8_37 0 rfl rfl rfl dX8_layLeasts_59 ?_
        refine lv_bipush (v := 12) hx hb dX8_layLeasts_62 (by decide) ?_
        refine lv_iload_n hx hb dX8_layLeasts_64 rfl (lv_at hl 2 rfl) ?_
        refine lv_imul hx hb dX8_layLeasts_65 ?_
        refine lv_iload_n hx hb dX8_layLeasts_66 rfl (lv_at hl 3 rfl) ?_
        refine lv_iadd hx hb dX8_layLeasts_67 ?_
        refine lv_iload_n hx hb dX8_layLeasts_68 rfl (lv_at hl 2 rfl) ?_
        refine lv_iload_n hx hb dX8_layLeasts_69 rfl (lv_at hl 3 rfl) ?_
        obtain ⟨y_18, er19, hb9⟩ := bnd1_some hb9
        have J19 : ∀ (H : Heap) (locs : List Loc) (ls : Array Slot), GH D cI cZ layM q s ([iPageLength, iRoads, iRead, iAltered, iRanked, iStage, iFigures, iNewRoads, iTold, iRouted, iRouteSum], [jH], [aPage, aBeginOf, aEndOf, aLengthOf, aCosts, aRankOf, aRoadAt, aWorths, aMiddles, aLeasts_7, aBusy, aNewBegin, aNewEnd, aNewLength, aIsLeft, aAround, aWhole, aIsNeeded, aWereRanks, aWaitFrom, aWaitTo, aToldAt, aRisen, aUps, aTried, aRoutes]) H locs → lv_has ls 5 [(0, .ref (q 0)), (1, .int x1_1), (2, .int x2_6)] → W p l e R s m args below meth c H locs 0 0 Q (F0 m 78 ls [.int y_18, .int ((12 * x1_1) + x2_6), .ref (q 10)]) := by
          intro H locs ls hG hl
          obtain ⟨hi21, hb9⟩ := ckin_some hb9
          obtain ⟨aLeasts_22, eaLeasts_22⟩ : ∃ z : Nat → Int32, z = upd aLeasts_7 ((12 * x1_1) + x2_6).toNatClampNeg y_18 := ⟨_, rfl⟩
          have hb9 := bd_e eaLeasts_22 hb9
          refine g_ast (w' := ([iPageLength, iRoads, iRead, iAltered, iRanked, iStage, iFigures, iNewRoads, iTold, iRouted, iRouteSum], [jH], [aPage, aBeginOf, aEndOf, aLengthOf, aCosts, aRankOf, aRoadAt, aWorths, aMiddles, aLeasts_22, aBusy, aNewBegin, aNewEnd, aNewLength, aIsLeft, aAround, aWhole, aIsNeeded, aWereRanks, aWaitFrom, aWaitTo, aToldAt, aRisen, aUps, aTried, aRoutes])) X hT hq hG 10 rfl ga_M_aLeasts (Nat.le_of_ble_eq_true rfl) hi21 (by subst eaLeasts_22; rfl) dX8_layLeasts_78 (fun H locs hG => ?_)
          obtain ⟨x2_23, ex2_23⟩ : ∃ z : Int32, z = x2_6 + 1 := ⟨_, rfl⟩
          have hb9 := bd_e ex2_23 hb9
          refine lv_iinc (v := x2_23) (lv' := [(2, .int x2_23), (0, .ref (q 0)), (1, .int x1_1)]) hx hb dX8_layLeasts_79 hl (k := 2) rfl (by rw [ex2_23]; rfl) (by decide) rfl (fun ls hl => ?_)
          refine lv_goto (tgt := 12) hx hb dX8_layLeasts_82 (by decide) ?_
          exact hin9 _ (Option.some.inj hb9).symm H locs ls hG (lv_sub hl [1, 2, 0] rfl)
        refine lv_icmp_ne (tgt := 77) hx hb dX8_layLeasts_70 (by decide) (fun cb20 => ?_) (fun cb20 => ?_)
        · have er19 := ite_f cb20 er19
          refine lv_iload_n hx hb dX8_layLeasts_77 rfl (lv_at hl 0 rfl) ?_
          cases er19
          exact J19 H locs ls hG (lv_sub hl [1, 2, 3] rfl)
        · have er19 := ite_t cb20 er19
          refine lv_iconst (v := 0) hx hb dX8_layLeasts_73 (by decide) ?_
          refine lv_goto (tgt := 78) hx hb dX8_layLeasts_74 (by decide) ?_
          cases er19
          exact J19 H locs ls hG (lv_sub hl [1, 2, 3] rfl)
      refine lv_if_eq (tgt := 55) hx hb dX8_layLeasts_26 (by decide) (fun cb15 => ?_) (fun cb15 => ?_)
      · have er14 := ite_t cb15 er14
        refine lv_ldc (v := 268435456) hx hb X.2.2.2.1 (X.2.2.2.2 _ cn_X8_136) dX8_layLeasts_55 ?_
        cases er14
        exact J14 H locs ls hG (lv_sub hl [0, 1, 2] rfl)
      · have er14 := ite_f cb15 er14
        refine lv_bipush (v := 16) hx hb dX8_layLeasts_29 (by decide) ?_
        refine lv_aload_n hx hb dX8_layLeasts_31 rfl (lv_at hl 0 rfl) ?_
        refine g_get (v := .ref (q 5)) X hT hG fl_X8_22 0 rfl rfl rfl dX8_layLeasts_32 ?_
        refine lv_bipush (v := 12) hx hb dX8_layLeasts_35 (by decide) ?_
        refine lv_iload_n hx hb dX8_layLeasts_37 rfl (lv_at hl 1 rfl) ?_
        refine lv_imul hx hb dX8_layLeasts_38 ?_
        refine lv_iload_n hx hb dX8_layLeasts_39 rfl (lv_at hl 2 rfl) ?_
        refine lv_iadd hx hb dX8_layLeasts_40 ?_
        obtain ⟨hi16, er14⟩ := ckin_some er14
        refine g_ald (f := aCosts) X hT hG 5 rfl rfl hi16 dX8_layLeasts_41 ?_
        refine lv_aload_n hx hb dX8_layLeasts_42 rfl (lv_at hl 0 rfl) ?_
        refine g_get (v := .ref (q 4)) X hT hG fl_X8_19 0 rfl rfl rfl dX8_layLeasts_43 ?_
        refine lv_iload_n hx hb dX8_layLeasts_46 rfl (lv_at hl 2 rfl) ?_
        obtain ⟨hi17, er14⟩ := ckin_some er14
        refine g_ald (f := aLengthOf) X hT hG 4 rfl rfl hi17 dX8_layLeasts_47 ?_
        refine lv_iadd hx hb dX8_layLeasts_48 ?_
        refine lv_imul hx hb dX8_layLeasts_49 ?_
        refine lv_iconst (v := 1) hx hb dX8_layLeasts_50 (by decide) ?_
        refine lv_iadd hx hb dX8_layLeasts_51 ?_
        refine lv_goto (tgt := 57) hx hb dX8_layLeasts_52 (by decide) ?_
        cases er14
        exact J14 H locs ls hG (lv_sub hl [0, 1, 2] rfl)
def f8_nextOn_k1 (x3_1 : Int32) : Option ((Int32) ⊕ (Int32)) :=
  bd (x3_1 + 1) fun x3_5 => some (.inl x3_5)
def f8_nextOn_b1 (p1 : Int32) (aCosts : (Nat → Int32)) (p2 : Int32) (aLengthOf : (Nat → Int32)) (aLeasts : (Nat → Int32)) (x3_1 : Int32) : Option ((Int32) ⊕ (Int32)) :=
  if x3_1 = p1 then (f8_nextOn_k1 x3_1) else bnd1 (f8_isStep p1 x3_1 aCosts) fun (r_7 : Int32) => if r_7 = 0 then (f8_nextOn_k1 x3_1) else ckin ((12 * p1) + x3_1) 144 (ckin x3_1 12 (ckin ((12 * x3_1) + p2) 144 (ckin ((12 * p1) + p2) 144 (if (((16 * ((aCosts ((12 * p1) + x3_1).toNatClampNeg) + (aLengthOf x3_1.toNatClampNeg))) + 1) + (aLeasts ((12 * x3_1) + p2).toNatClampNeg)) = (aLeasts ((12 * p1) + p2).toNatClampNeg) then (some (.inr x3_1)) else f8_nextOn_k1 x3_1))))
def f8_nextOn (fu : Nat) (p1 : Int32) (aCosts : (Nat → Int32)) (p2 : Int32) (aLengthOf : (Nat → Int32)) (aLeasts : (Nat → Int32)) : Option (Int32) :=
  bnd1 (lpG (fun z => f8_nextOn_b1 p1 aCosts p2 aLengthOf aLeasts z) fu (0 : Int32)) fun (x3_2 : Int32) => some x3_2
set_option maxHeartbeats 4000000 in
set_option maxRecDepth 100000 in
theorem c_X8_nextOn (hq : gJ layM q) {fu : Nat} {p1 : Int32} {p2 : Int32} {o_r : Int32} (h : f8_nextOn fu p1 aCosts p2 aLengthOf aLeasts = some o_r) :
    GM l yX8_nextOn cX8_nextOn 4 (some .int) 1 22 D cI cZ layM q [.ref (q 0), .int p1, .int p2] ([iPageLength, iRoads, iRead, iAltered, iRanked, iStage, iFigures, iNewRoads, iTold, iRouted, iRouteSum], [jH], [aPage, aBeginOf, aEndOf, aLengthOf, aCosts, aRankOf, aRoadAt, aWorths, aMiddles, aLeasts, aBusy, aNewBegin, aNewEnd, aNewLength, aIsLeft, aAround, aWhole, aIsNeeded, aWereRanks, aWaitFrom, aWaitTo, aToldAt, aRisen, aUps, aTried, aRoutes]) (some (.int o_r)) ([iPageLength, iRoads, iRead, iAltered, iRanked, iStage, iFigures, iNewRoads, iTold, iRouted, iRouteSum], [jH], [aPage, aBeginOf, aEndOf, aLengthOf, aCosts, aRankOf, aRoadAt, aWorths, aMiddles, aLeasts, aBusy, aNewBegin, aNewEnd, aNewLength, aIsLeft, aAround, aWhole, aIsNeeded, aWereRanks, aWaitFrom, aWaitTo, aToldAt, aRisen, aUps, aTried, aRoutes]) := by
  refine GM.go RX8 (by decide) rfl (Nat.le_of_ble_eq_true rfl) ?_
  intro p e s m args below meth c ls R Q H locs X hr hlk hT hG hl hR hQ
  have hx := X.1
  have hb := X.2.1
  have hl : lv_has ls 4 [(0, .ref (q 0)), (1, .int p1), (2, .int p2)] := hl
  unfold f8_nextOn at h
  refine lv_iconst (v := 0) hx hb dX8_nextOn_0 (by decide) ?_
  refine lv_istore_n (lv' := [(3, .int 0), (0, .ref (q 0)), (1, .int p1), (2, .int p2)]) hx hb dX8_nextOn_1 rfl hl (by decide) rfl (fun ls hl => ?_)
  obtain ⟨x3_2, eL3, h⟩ := bnd1_some h
  have JX3 : ∀ (H : Heap) (locs : List Loc) (ls : Array Slot), GH D cI cZ layM q s ([iPageLength, iRoads, iRead, iAltered, iRanked, iStage, iFigures, iNewRoads, iTold, iRouted, iRouteSum], [jH], [aPage, aBeginOf, aEndOf, aLengthOf, aCosts, aRankOf, aRoadAt, aWorths, aMiddles, aLeasts, aBusy, aNewBegin, aNewEnd, aNewLength, aIsLeft, aAround, aWhole, aIsNeeded, aWereRanks, aWaitFrom, aWaitTo, aToldAt, aRisen, aUps, aTried, aRoutes]) H locs → lv_has ls 4 [(3, .int x3_2)] → W p l e R s m args below meth c H locs 0 0 Q (F0 m 71 ls []) := by
    intro H locs ls hG hl
    refine lv_iload_n hx hb dX8_nextOn_71 rfl (lv_at hl 0 rfl) ?_
    cases h
    rw [hQ]
    exact g_iret X hT hG hr hlk dX8_nextOn_72
  refine lpG_W (Wh := fun z => ∀ (H : Heap) (locs : List Loc) (ls : Array Slot), GH D cI cZ layM q s ([iPageLength, iRoads, iRead, iAltered, iRanked, iStage, iFigures, iNewRoads, iTold, iRouted, iRouteSum], [jH], [aPage, aBeginOf, aEndOf, aLengthOf, aCosts, aRankOf, aRoadAt, aWorths, aMiddles, aLeasts, aBusy, aNewBegin, aNewEnd, aNewLength, aIsLeft, aAround, aWhole, aIsNeeded, aWereRanks, aWaitFrom, aWaitTo, aToldAt, aRisen, aUps, aTried, aRoutes]) H locs → lv_has ls 4 [(0, .ref (q 0)), (1, .int p1), (2, .int p2), (3, .int z)] → W p l e R s m args below meth c H locs 0 0 Q (F0 m 2 ls [])) ?_ fu _ eL3 H locs ls hG (lv_sub hl [1, 2, 3, 0] rfl)
  intro x3_1 rr3 hb3 hin3 hout3 H locs ls hG hl
  unfold f8_nextOn_b1 at hb3
  refine lv_iload_n hx hb dX8_nextOn_2 rfl (lv_at hl 3 rfl) ?_
  refine lv_iload_n hx hb dX8_nextOn_3 rfl (lv_at hl 1 rfl) ?_
  have K4 : ∀ (H : Heap) (locs : List Loc) (ls : Array Slot), GH D cI cZ layM q s ([iPageLength, iRoads, iRead, iAltered, iRanked, iStage, iFigures, iNewRoads, iTold, iRouted, iRouteSum], [jH], [aPage, aBeginOf, aEndOf, aLengthOf, aCosts, aRankOf, aRoadAt, aWorths, aMiddles, aLeasts, aBusy, aNewBegin, aNewEnd, aNewLength, aIsLeft, aAround, aWhole, aIsNeeded, aWereRanks, aWaitFrom, aWaitTo, aToldAt, aRisen, aUps, aTried, aRoutes]) H locs → lv_has ls 4 [(0, .ref (q 0)), (1, .int p1), (2, .int p2), (3, .int x3_1)] → f8_nextOn_k1 x3_1 = some rr3 → W p l e R s m args below meth c H locs 0 0 Q (F0 m 65 ls []) := by
    intro H locs ls hG hl hk4
    unfold f8_nextOn_k1 at hk4
    obtain ⟨x3_5, ex3_5⟩ : ∃ z : Int32, z = x3_1 + 1 := ⟨_, rfl⟩
    have hk4 := bd_e ex3_5 hk4
    refine lv_iinc (v := x3_5) (lv' := [(3, .int x3_5), (0, .ref (q 0)), (1, .int p1), (2, .int p2)]) hx hb dX8_nextOn_65 hl (k := 3) rfl (by rw [ex3_5]; rfl) (by decide) rfl (fun ls hl => ?_)
    refine lv_goto (tgt := 2) hx hb dX8_nextOn_68 (by decide) ?_
    exact hin3 _ (Option.some.inj hk4).symm H locs ls hG (lv_sub hl [1, 2, 3, 0] rfl)
  refine lv_icmp_eq (tgt := 65) hx hb dX8_nextOn_4 (by decide) (fun cb6 => ?_) (fun cb6 => ?_)
  · have hb3 := ite_t cb6 hb3
    exact K4 H locs ls hG (lv_sub hl [0, 1, 2, 3] rfl) hb3
  · have hb3 := ite_f cb6 hb3
    refine lv_aload_n hx hb dX8_nextOn_7 rfl (lv_at hl 0 rfl) ?_
    refine lv_iload_n hx hb dX8_nextOn_8 rfl (lv_at hl 1 rfl) ?_
    refine lv_iload_n hx hb dX8_nextOn_9 rfl (lv_at hl 3 rfl) ?_
    obtain ⟨r_7, ec8, hb3⟩ := bnd1_some hb3
    refine g_callVr [.int p1, .int x3_1] [] 0 X hT hG ml_X8_132 (c_X8_isStep hq ec8) rfl rfl rfl rfl rfl hl.1 (Nat.le_of_ble_eq_true rfl) (by rw [hR]; exact ⟨Nat.le_of_ble_eq_true rfl, Nat.le_of_ble_eq_true rfl⟩) dX8_nextOn_10 (fun H locs hG => ?_)
    refine lv_if_eq (tgt := 65) hx hb dX8_nextOn_13 (by decide) (fun cb9 => ?_) (fun cb9 => ?_)
    · have hb3 := ite_t cb9 hb3
      exact K4 H locs ls hG (lv_sub hl [0, 1, 2, 3] rfl) hb3
    · have hb3 := ite_f cb9 hb3
      refine lv_bipush (v := 16) hx hb dX8_nextOn_16 (by decide) ?_
      refine lv_aload_n hx hb dX8_nextOn_18 rfl (lv_at hl 0 rfl) ?_
      refine g_get (v := .ref (q 5)) X hT hG fl_X8_22 0 rfl rfl rfl dX8_nextOn_19 ?_
      refine lv_bipush (v := 12) hx hb dX8_nextOn_22 (by decide) ?_
      refine lv_iload_n hx hb dX8_nextOn_24 rfl (lv_at hl 1 rfl) ?_
      refine lv_imul hx hb dX8_nextOn_25 ?_
      refine lv_iload_n hx hb dX8_nextOn_26 rfl (lv_at hl 3 rfl) ?_
      refine lv_iadd hx hb dX8_nextOn_27 ?_
      obtain ⟨hi10, hb3⟩ := ckin_some hb3
      refine g_ald (f := aCosts) X hT hG 5 rfl rfl hi10 dX8_nextOn_28 ?_
      refine lv_aload_n hx hb dX8_nextOn_29 rfl (lv_at hl 0 rfl) ?_
      refine g_get (v := .ref (q 4)) X hT hG fl_X8_19 0 rfl rfl rfl dX8_nextOn_30 ?_
      refine lv_iload_n hx hb dX8_nextOn_33 rfl (lv_at hl 3 rfl) ?_
      obtain ⟨hi11, hb3⟩ := ckin_some hb3
      refine g_ald (f := aLengthOf) X hT hG 4 rfl rfl hi11 dX8_nextOn_34 ?_
      refine lv_iadd hx hb dX8_nextOn_35 ?_
      refine lv_imul hx hb dX8_nextOn_36 ?_
      refine lv_iconst (v := 1) hx hb dX8_nextOn_37 (by decide) ?_
      refine lv_iadd hx hb dX8_nextOn_38 ?_
      refine lv_aload_n hx hb dX8_nextOn_39 rfl (lv_at hl 0 rfl) ?_
      refine g_get (v := .ref (q 10)) X hT hG fl_X8_37 0 rfl rfl rfl dX8_nextOn_40 ?_
      refine lv_bipush (v := 12) hx hb dX8_nextOn_43 (by decide) ?_
      refine lv_iload_n hx hb dX8_nextOn_45 rfl (lv_at hl 3 rfl) ?_
      refine lv_imul hx hb dX8_nextOn_46 ?_
      refine lv_iload_n hx hb dX8_nextOn_47 rfl (lv_at hl 2 rfl) ?_
      refine lv_iadd hx hb dX8_nextOn_48 ?_
      obtain ⟨hi12, hb3⟩ := ckin_some hb3
      refine g_ald (f := aLeasts) X hT hG 10 rfl rfl hi12 dX8_nextOn_49 ?_
      refine lv_iadd hx hb dX8_nextOn_50 ?_
      refine lv_aload_n hx hb dX8_nextOn_51 rfl (lv_at hl 0 rfl) ?_
      refine g_get (v := .ref (q 10)) X hT hG fl_X8_37 0 rfl rfl rfl dX8_nextOn_52 ?_
      refine lv_bipush (v := 12) hx hb dX8_nextOn_55 (by decide) ?_
      refine lv_iload_n hx hb dX8_nextOn_57 rfl (lv_at hl 1 rfl) ?_
      refine lv_imul hx hb dX8_nextOn_58 ?_
      refine lv_iload_n hx hb dX8_nextOn_59 rfl (lv_at hl 2 rfl) ?_
      refine lv_iadd hx hb dX8_nextOn_60 ?_
      obtain ⟨hi13, hb3⟩ := ckin_some hb3
      refine g_ald (f := aLeasts) X hT hG 10 rfl rfl hi13 dX8_nextOn_61 ?_
      refine lv_icmp_eq (tgt := 71) hx hb dX8_nextOn_62 (by decide) (fun cb14 => ?_) (fun cb14 => ?_)
      · have hb3 := ite_t cb14 hb3
        have eo := hout3 _ (Option.some.inj hb3).symm
        cases eo
        exact JX3 H locs ls hG (lv_sub hl [3] rfl)
      · have hb3 := ite_f cb14 hb3
        exact K4 H locs ls hG (lv_sub hl [0, 1, 2, 3] rfl) hb3
def f8_layWays_b1 (iRoads : Int32) (x1_3 : Int32) (aBusy_4 : (Nat → Int32)) : Option ((Int32 × (Nat → Int32)) ⊕ ((Nat → Int32))) :=
  if iRoads ≤ x1_3 then (some (.inr aBusy_4)) else ckin x1_3 12 (bd (upd aBusy_4 x1_3.toNatClampNeg 0) fun aBusy_9 => bd (x1_3 + 1) fun x1_10 => some (.inl (x1_10, aBusy_9)))
def f8_layWays_b4 (fu : Nat) (x2_16 : Int32) (aCosts : (Nat → Int32)) (aLengthOf : (Nat → Int32)) (aLeasts_1 : (Nat → Int32)) (x3_28 : Int32) (aBusy_29 : (Nat → Int32)) : Option ((Int32 × (Nat → Int32)) ⊕ ((Nat → Int32))) :=
  if x3_28 = x2_16 then (some (.inr aBusy_29)) else ckin x3_28 12 (ckin x3_28 12 (bd (upd aBusy_29 x3_28.toNatClampNeg ((aBusy_29 x3_28.toNatClampNeg) + 1)) fun aBusy_35 => bnd1 (f8_nextOn fu x3_28 aCosts x2_16 aLengthOf aLeasts_1) fun (r_36 : Int32) => some (.inl (r_36, aBusy_35))))
def f8_layWays_b3 (fu : Nat) (iRoads : Int32) (x1_11 : Int32) (aLeasts_1 : (Nat → Int32)) (aCosts : (Nat → Int32)) (aLengthOf : (Nat → Int32)) (x2_16 : Int32) (aBusy_17 : (Nat → Int32)) : Option ((Int32 × (Nat → Int32)) ⊕ ((Nat → Int32))) :=
  if iRoads ≤ x2_16 then (some (.inr aBusy_17)) else bnd1 (if x1_11 = x2_16 then (some x2_16) else ckin ((12 * x1_11) + x2_16) 144 (if (aLeasts_1 ((12 * x1_11) + x2_16).toNatClampNeg) < 268435456 then (bnd1 (f8_nextOn fu x1_11 aCosts x2_16 aLengthOf aLeasts_1) fun (r_26 : Int32) => some r_26) else some x2_16)) fun (y_21 : Int32) => bnd1 (lpG (fun z => f8_layWays_b4 fu x2_16 aCosts aLengthOf aLeasts_1 z.1 z.2) fu (y_21, aBusy_17)) fun (aBusy_30 : (Nat → Int32)) => bd (x2_16 + 1) fun x2_38 => some (.inl (x2_38, aBusy_30))
def f8_layWays_b2 (fu : Nat) (iRoads : Int32) (aLeasts_1 : (Nat → Int32)) (aCosts : (Nat → Int32)) (aLengthOf : (Nat → Int32)) (x1_11 : Int32) (aBusy_12 : (Nat → Int32)) : Option ((Int32 × (Nat → Int32)) ⊕ ((Nat → Int32))) :=
  if iRoads ≤ x1_11 then (some (.inr aBusy_12)) else bnd1 (lpG (fun z => f8_layWays_b3 fu iRoads x1_11 aLeasts_1 aCosts aLengthOf z.1 z.2) fu ((0 : Int32), aBusy_12)) fun (aBusy_18 : (Nat → Int32)) => bd (x1_11 + 1) fun x1_39 => some (.inl (x1_39, aBusy_18))
def f8_layWays (fu : Nat) (iRoads : Int32) (aCosts : (Nat → Int32)) (aLengthOf : (Nat → Int32)) (aLeasts : (Nat → Int32)) (aBusy : (Nat → Int32)) : Option ((Nat → Int32) × (Nat → Int32)) :=
  bnd1 (f8_layLeasts fu iRoads aCosts aLengthOf aLeasts) fun (aLeasts_1 : (Nat → Int32)) => bnd1 (lpG (fun z => f8_layWays_b1 iRoads z.1 z.2) fu ((0 : Int32), aBusy)) fun (aBusy_5 : (Nat → Int32)) => bnd1 (lpG (fun z => f8_layWays_b2 fu iRoads aLeasts_1 aCosts aLengthOf z.1 z.2) fu ((0 : Int32), aBusy_5)) fun (aBusy_13 : (Nat → Int32)) => some (aLeasts_1, aBusy_13)
set_option maxHeartbeats 4000000 in
set_option maxRecDepth 100000 in
theorem c_X8_layWays (hq : gJ layM q) {fu : Nat} {o_aLeasts : (Nat → Int32)} {o_aBusy : (Nat → Int32)} (h : f8_layWays fu iRoads aCosts aLengthOf aLeasts aBusy = some (o_aLeasts, o_aBusy)) :
    GM l yX8_layWays cX8_layWays 4 none 2 46 D cI cZ layM q [.ref (q 0)] ([iPageLength, iRoads, iRead, iAltered, iRanked, iStage, iFigures, iNewRoads, iTold, iRouted, iRouteSum], [jH], [aPage, aBeginOf, aEndOf, aLengthOf, aCosts, aRankOf, aRoadAt, aWorths, aMiddles, aLeasts, aBusy, aNewBegin, aNewEnd, aNewLength, aIsLeft, aAround, aWhole, aIsNeeded, aWereRanks, aWaitFrom, aWaitTo, aToldAt, aRisen, aUps, aTried, aRoutes]) none ([iPageLength, iRoads, iRead, iAltered, iRanked, iStage, iFigures, iNewRoads, iTold, iRouted, iRouteSum], [jH], [aPage, aBeginOf, aEndOf, aLengthOf, aCosts, aRankOf, aRoadAt, aWorths, aMiddles, o_aLeasts, o_aBusy, aNewBegin, aNewEnd, aNewLength, aIsLeft, aAround, aWhole, aIsNeeded, aWereRanks, aWaitFrom, aWaitTo, aToldAt, aRisen, aUps, aTried, aRoutes]) := by
  refine GM.go RX8 (by decide) rfl (Nat.le_of_ble_eq_true rfl) ?_
  intro p e s m args below meth c ls R Q H locs X hr hlk hT hG hl hR hQ
  have hx := X.1
  have hb := X.2.1
  have hl : lv_has ls 4 [(0, .ref (q 0))] := hl
  unfold f8_layWays at h
  refine lv_aload_n hx hb dX8_layWays_0 rfl (lv_at hl 0 rfl) ?_
  obtain ⟨aLeasts_1, ec2, h⟩ := bnd1_some h
  refine g_callVv [] [] 0 X hT hG ml_X8_161 (c_X8_layLeasts hq ec2) rfl rfl rfl rfl rfl hl.1 (Nat.le_of_ble_eq_true rfl) (by rw [hR]; exact ⟨Nat.le_of_ble_eq_true rfl, Nat.le_of_ble_eq_true rfl⟩) dX8_layWays_1 (fun H locs hG => ?_)
  have hG : GH D cI cZ layM q s ([iPageLength, iRoads, iRead, iAltered, iRanked, iStage, iFigures, iNewRoads, iTold, iRouted, iRouteSum], [jH], [aPage, aBeginOf, aEndOf, aLengthOf, aCosts, aRankOf, aRoadAt, aWorths, aMiddles, aLeasts_1, aBusy, aNewBegin, aNewEnd, aNewLength, aIsLeft, aAround, aWhole, aIsNeeded, aWereRanks, aWaitFrom, aWaitTo, aToldAt, aRisen, aUps, aTried, aRoutes]) H locs := hG
  refine lv_iconst (v := 0) hx hb dX8_layWays_4 (by decide) ?_
  refine lv_istore_n (lv' := [(1, .int 0), (0, .ref (q 0))]) hx hb dX8_layWays_5 rfl hl (by decide) rfl (fun ls hl => ?_)
  obtain ⟨aBusy_5, eL6, h⟩ := bnd1_some h
  have JX6 : ∀ (H : Heap) (locs : List Loc) (ls : Array Slot), GH D cI cZ layM q s ([iPageLength, iRoads, iRead, iAltered, iRanked, iStage, iFigures, iNewRoads, iTold, iRouted, iRouteSum], [jH], [aPage, aBeginOf, aEndOf, aLengthOf, aCosts, aRankOf, aRoadAt, aWorths, aMiddles, aLeasts_1, aBusy_5, aNewBegin, aNewEnd, aNewLength, aIsLeft, aAround, aWhole, aIsNeeded, aWereRanks, aWaitFrom, aWaitTo, aToldAt, aRisen, aUps, aTried, aRoutes]) H locs → lv_has ls 4 [(0, .ref (q 0))] → W p l e R s m args below meth c H locs 0 0 Q (F0 m 27 ls []) := by
    intro H locs ls hG hl
    refine lv_iconst (v := 0) hx hb dX8_layWays_27 (by decide) ?_
    refine lv_istore_n (lv' := [(1, .int 0), (0, .ref (q 0))]) hx hb dX8_layWays_28 rfl hl (by decide) rfl (fun ls hl => ?_)
    obtain ⟨aBusy_13, eL14, h⟩ := bnd1_some h
    have JX14 : ∀ (H : Heap) (locs : List Loc) (ls : Array Slot), GH D cI cZ layM q s ([iPageLength, iRoads, iRead, iAltered, iRanked, iStage, iFigures, iNewRoads, iTold, iRouted, iRouteSum], [jH], [aPage, aBeginOf, aEndOf, aLengthOf, aCosts, aRankOf, aRoadAt, aWorths, aMiddles, aLeasts_1, aBusy_13, aNewBegin, aNewEnd, aNewLength, aIsLeft, aAround, aWhole, aIsNeeded, aWereRanks, aWaitFrom, aWaitTo, aToldAt, aRisen, aUps, aTried, aRoutes]) H locs → lv_has ls 4 [] → W p l e R s m args below meth c H locs 0 0 Q (F0 m 116 ls []) := by
      intro H locs ls hG hl
      cases h
      rw [hQ]
      exact g_vret X hT hG hr hlk dX8_layWays_116
    refine lpG_W (Wh := fun z => ∀ (H : Heap) (locs : List Loc) (ls : Array Slot), GH D cI cZ layM q s ([iPageLength, iRoads, iRead, iAltered, iRanked, iStage, iFigures, iNewRoads, iTold, iRouted, iRouteSum], [jH], [aPage, aBeginOf, aEndOf, aLengthOf, aCosts, aRankOf, aRoadAt, aWorths, aMiddles, aLeasts_1, z.2, aNewBegin, aNewEnd, aNewLength, aIsLeft, aAround, aWhole, aIsNeeded, aWereRanks, aWaitFrom, aWaitTo, aToldAt, aRisen, aUps, aTried, aRoutes]) H locs → lv_has ls 4 [(0, .ref (q 0)), (1, .int (z.1))] → W p l e R s m args below meth c H locs 0 0 Q (F0 m 29 ls [])) ?_ fu _ eL14 H locs ls hG (lv_sub hl [1, 0] rfl)
    intro z rr14 hb14 hin14 hout14
    obtain ⟨x1_11, aBusy_12⟩ := z
    intro H locs ls hG hl
    have hb14 : f8_layWays_b2 fu iRoads aLeasts_1 aCosts aLengthOf x1_11 aBusy_12 = some rr14 := hb14
    have hG : GH D cI cZ layM q s ([iPageLength, iRoads, iRead, iAltered, iRanked, iStage, iFigures, iNewRoads, iTold, iRouted, iRouteSum], [jH], [aPage, aBeginOf, aEndOf, aLengthOf, aCosts, aRankOf, aRoadAt, aWorths, aMiddles, aLeasts_1, aBusy_12, aNewBegin, aNewEnd, aNewLength, aIsLeft, aAround, aWhole, aIsNeeded, aWereRanks, aWaitFrom, aWaitTo, aToldAt, aRisen, aUps, aTried, aRoutes]) H locs := hG
    have hl : lv_has ls 4 [(0, .ref (q 0)), (1, .int x1_11)] := hl
    unfold f8_layWays_b2 at hb14
    refine lv_iload_n hx hb dX8_layWays_29 rfl (lv_at hl 1 rfl) ?_
    refine lv_aload_n hx hb dX8_layWays_30 rfl (lv_at hl 0 rfl) ?_
    refine g_get (v := .int iRoads) X hT hG fl_X8_120 0 rfl rfl rfl dX8_layWays_31 ?_
    refine lv_icmp_ge (tgt := 116) hx hb dX8_layWays_34 (by decide) (fun cb15 => ?_) (fun cb15 => ?_)
    · have hb14 := ite_t cb15 hb14
      have eo := hout14 _ (Option.some.inj hb14).symm
      cases eo
      exact JX14 H locs ls hG (lv_sub hl [] rfl)
    · have hb14 := ite_f cb15 hb14
      refine lv_iconst (v := 0) hx hb dX8_layWays_37 (by decide) ?_
      refine lv_istore_n (lv' := [(2, .int 0), (0, .ref (q 0)), (1, .int x1_11)]) hx hb dX8_layWays_38 rfl hl (by decide) rfl (fun ls hl => ?_)
      obtain ⟨aBusy_18, eL19, hb14⟩ := bnd1_some hb14
      have JX19 : ∀ (H : Heap) (locs : List Loc) (ls : Array Slot), GH D cI cZ layM q s ([iPageLength, iRoads, iRead, iAltered, iRanked, iStage, iFigures, iNewRoads, iTold, iRouted, iRouteSum], [jH], [aPage, aBeginOf, aEndOf, aLengthOf, aCosts, aRankOf, aRoadAt, aWorths, aMiddles, aLeasts_1, aBusy_18, aNewBegin, aNewEnd, aNewLength, aIsLeft, aAround, aWhole, aIsNeeded, aWereRanks, aWaitFrom, aWaitTo, aToldAt, aRisen, aUps, aTried, aRoutes]) H locs → lv_has ls 4 [(0, .ref (q 0)), (1, .int x1_11)] → W p l e R s m args below meth c H locs 0 0 Q (F0 m 110 ls []) := by
        intro H locs ls hG hl
        obtain ⟨x1_39, ex1_39⟩ : ∃ z : Int32, z = x1_11 + 1 := ⟨_, rfl⟩
        have hb14 := bd_e ex1_39 hb14
        refine lv_iinc (v := x1_39) (lv' := [(1, .int x1_39), (0, .ref (q 0))]) hx hb dX8_layWays_110 hl (k := 1) rfl (by rw [ex1_39]; rfl) (by decide) rfl (fun ls hl => ?_)
        refine lv_goto (tgt := 29) hx hb dX8_layWays_113 (by decide) ?_
        exact hin14 _ (Option.some.inj hb14).symm H locs ls hG (lv_sub hl [1, 0] rfl)
      refine lpG_W (Wh := fun z => ∀ (H : Heap) (locs : List Loc) (ls : Array Slot), GH D cI cZ layM q s ([iPageLength, iRoads, iRead, iAltered, iRanked, iStage, iFigures, iNewRoads, iTold, iRouted, iRouteSum], [jH], [aPage, aBeginOf, aEndOf, aLengthOf, aCosts, aRankOf, aRoadAt, aWorths, aMiddles, aLeasts_1, z.2, aNewBegin, aNewEnd, aNewLength, aIsLeft, aAround, aWhole, aIsNeeded, aWereRanks, aWaitFrom, aWaitTo, aToldAt, aRisen, aUps, aTried, aRoutes]) H locs → lv_has ls 4 [(0, .ref (q 0)), (1, .int x1_11), (2, .int (z.1))] → W p l e R s m args below meth c H locs 0 0 Q (F0 m 39 ls [])) ?_ fu _ eL19 H locs ls hG (lv_sub hl [1, 2, 0] rfl)
      intro z rr19 hb19 hin19 hout19
      obtain ⟨x2_16, aBusy_17⟩ := z
      intro H locs ls hG hl
      have hb19 : f8_layWays_b3 fu iRoads x1_11 aLeasts_1 aCosts aLengthOf x2_16 aBusy_17 = some rr19 := hb19
      have hG : GH D cI cZ layM q s ([iPageLength, iRoads, iRead, iAltered, iRanked, iStage, iFigures, iNewRoads, iTold, iRouted, iRouteSum], [jH], [aPage, aBeginOf, aEndOf, aLengthOf, aCosts, aRankOf, aRoadAt, aWorths, aMiddles, aLeasts_1, aBusy_17, aNewBegin, aNewEnd, aNewLength, aIsLeft, aAround, aWhole, aIsNeeded, aWereRanks, aWaitFrom, aWaitTo, aToldAt, aRisen, aUps, aTried, aRoutes]) H locs := hG
      have hl : lv_has ls 4 [(0, .ref (q 0)), (1, .int x1_11), (2, .int x2_16)] := hl
      unfold f8_layWays_b3 at hb19
      refine lv_iload_n hx hb dX8_layWays_39 rfl (lv_at hl 2 rfl) ?_
      refine lv_aload_n hx hb dX8_layWays_40 rfl (lv_at hl 0 rfl) ?_
      refine g_get (v := .int iRoads) X hT hG fl_X8_120 0 rfl rfl rfl dX8_layWays_41 ?_
      refine lv_icmp_ge (tgt := 110) hx hb dX8_layWays_44 (by decide) (fun cb20 => ?_) (fun cb20 => ?_)
      · have hb19 := ite_t cb20 hb19
        have eo := hout19 _ (Option.some.inj hb19).symm
        cases eo
        exact JX19 H locs ls hG (lv_sub hl [0, 1] rfl)
      · have hb19 := ite_f cb20 hb19
        refine lv_iload_n hx hb dX8_layWays_47 rfl (lv_at hl 1 rfl) ?_
        refine lv_iload_n hx hb dX8_layWays_48 rfl (lv_at hl 2 rfl) ?_
        obtain ⟨y_21, er22, hb19⟩ := bnd1_some hb19
        have J22 : ∀ (H : Heap) (locs : List Loc) (ls : Array Slot), GH D cI cZ layM q s ([iPageLength, iRoads, iRead, iAltered, iRanked, iStage, iFigures, iNewRoads, iTold, iRouted, iRouteSum], [jH], [aPage, aBeginOf, aEndOf, aLengthOf, aCosts, aRankOf, aRoadAt, aWorths, aMiddles, aLeasts_1, aBusy_17, aNewBegin, aNewEnd, aNewLength, aIsLeft, aAround, aWhole, aIsNeeded, aWereRanks, aWaitFrom, aWaitTo, aToldAt, aRisen, aUps, aTried, aRoutes]) H locs → lv_has ls 4 [(0, .ref (q 0)), (1, .int x1_11), (2, .int x2_16)] → W p l e R s m args below meth c H locs 0 0 Q (F0 m 78 ls [.int y_21]) := by
          intro H locs ls hG hl
          refine lv_istore_n (lv' := [(3, .int y_21), (0, .ref (q 0)), (1, .int x1_11), (2, .int x2_16)]) hx hb dX8_layWays_78 rfl hl (by decide) rfl (fun ls hl => ?_)
          obtain ⟨aBusy_30, eL31, hb19⟩ := bnd1_some hb19
          have JX31 : ∀ (H : Heap) (locs : List Loc) (ls : Array Slot), GH D cI cZ layM q s ([iPageLength, iRoads, iRead, iAltered, iRanked, iStage, iFigures, iNewRoads, iTold, iRouted, iRouteSum], [jH], [aPage, aBeginOf, aEndOf, aLengthOf, aCosts, aRankOf, aRoadAt, aWorths, aMiddles, aLeasts_1, aBusy_30, aNewBegin, aNewEnd, aNewLength, aIsLeft, aAround, aWhole, aIsNeeded, aWereRanks, aWaitFrom, aWaitTo, aToldAt, aRisen, aUps, aTried, aRoutes]) H locs → lv_has ls 4 [(0, .ref (q 0)), (1, .int x1_11), (2, .int x2_16)] → W p l e R s m args below meth c H locs 0 0 Q (F0 m 104 ls []) := by
            intro H locs ls hG hl
            obtain ⟨x2_38, ex2_38⟩ : ∃ z : Int32, z = x2_16 + 1 := ⟨_, rfl⟩
            have hb19 := bd_e ex2_38 hb19
            refine lv_iinc (v := x2_38) (lv' := [(2, .int x2_38), (0, .ref (q 0)), (1, .int x1_11)]) hx hb dX8_layWays_104 hl (k := 2) rfl (by rw [ex2_38]; rfl) (by decide) rfl (fun ls hl => ?_)
            refine lv_goto (tgt := 39) hx hb dX8_layWays_107 (by decide) ?_
            exact hin19 _ (Option.some.inj hb19).symm H locs ls hG (lv_sub hl [1, 2, 0] rfl)
          refine lpG_W (Wh := fun z => ∀ (H : Heap) (locs : List Loc) (ls : Array Slot), GH D cI cZ layM q s ([iPageLength, iRoads, iRead, iAltered, iRanked, iStage, iFigures, iNewRoads, iTold, iRouted, iRouteSum], [jH], [aPage, aBeginOf, aEndOf, aLengthOf, aCosts, aRankOf, aRoadAt, aWorths, aMiddles, aLeasts_1, z.2, aNewBegin, aNewEnd, aNewLength, aIsLeft, aAround, aWhole, aIsNeeded, aWereRanks, aWaitFrom, aWaitTo, aToldAt, aRisen, aUps, aTried, aRoutes]) H locs → lv_has ls 4 [(0, .ref (q 0)), (1, .int x1_11), (2, .int x2_16), (3, .int (z.1))] → W p l e R s m args below meth c H locs 0 0 Q (F0 m 79 ls [])) ?_ fu _ eL31 H locs ls hG (lv_sub hl [1, 2, 3, 0] rfl)
          intro z rr31 hb31 hin31 hout31
          obtain ⟨x3_28, aBusy_29⟩ := z
          intro H locs ls hG hl
          have hb31 : f8_layWays_b4 fu x2_16 aCosts aLengthOf aLeasts_1 x3_28 aBusy_29 = some rr31 := hb31
          have hG : GH D cI cZ layM q s ([iPageLength, iRoads, iRead, iAltered, iRanked, iStage, iFigures, iNewRoads, iTold, iRouted, iRouteSum], [jH], [aPage, aBeginOf, aEndOf, aLengthOf, aCosts, aRankOf, aRoadAt, aWorths, aMiddles, aLeasts_1, aBusy_29, aNewBegin, aNewEnd, aNewLength, aIsLeft, aAround, aWhole, aIsNeeded, aWereRanks, aWaitFrom, aWaitTo, aToldAt, aRisen, aUps, aTried, aRoutes]) H locs := hG
          have hl : lv_has ls 4 [(0, .ref (q 0)), (1, .int x1_11), (2, .int x2_16), (3, .int x3_28)] := hl
          unfold f8_layWays_b4 at hb31
          refine lv_iload_n hx hb dX8_layWays_79 rfl (lv_at hl 3 rfl) ?_
          refine lv_iload_n hx hb dX8_layWays_80 rfl (lv_at hl 2 rfl) ?_
          refine lv_icmp_eq (tgt := 104) hx hb dX8_layWays_81 (by decide) (fun cb32 => ?_) (fun cb32 => ?_)
          · have hb31 := ite_t cb32 hb31
            have eo := hout31 _ (Option.some.inj hb31).symm
            cases eo
            exact JX31 H locs ls hG (lv_sub hl [0, 1, 2] rfl)
          · have hb31 := ite_f cb32 hb31
            refine lv_aload_n hx hb dX8_layWays_84 rfl (lv_at hl 0 rfl) ?_
            refine g_get (v := .ref (q 11)) X hT hG fl_X8_40 0 rfl rfl rfl dX8_layWays_85 ?_
            refine lv_iload_n hx hb dX8_layWays_88 rfl (lv_at hl 3 rfl) ?_
            refine lv_dup2_11 hx hb dX8_layWays_89 rfl rfl ?_
            obtain ⟨hi33, hb31⟩ := ckin_some hb31
            refine g_ald (f := aBusy_29) X hT hG 11 rfl rfl hi33 dX8_layWays_90 ?_
            refine lv_iconst (v := 1) hx hb dX8_layWays_91 (by decide) ?_
            refine lv_iadd hx hb dX8_layWays_92 ?_
            obtain ⟨hi34, hb31⟩ := ckin_some hb31
            obtain ⟨aBusy_35, eaBusy_35⟩ : ∃ z : Nat → Int32, z = upd aBusy_29 x3_28.toNatClampNeg ((aBusy_29 x3_28.toNatClampNeg) + 1) := ⟨_, rfl⟩
            have hb31 := bd_e eaBusy_35 hb31
            refine g_ast (w' := ([iPageLength, iRoads, iRead, iAltered, iRanked, iStage, iFigures, iNewRoads, iTold, iRouted, iRouteSum], [jH], [aPage, aBeginOf, aEndOf, aLengthOf, aCosts, aRankOf, aRoadAt, aWorths, aMiddles, aLeasts_1, aBusy_35, aNewBegin, aNewEnd, aNewLength, aIsLeft, aAround, aWhole, aIsNeeded, aWereRanks, aWaitFrom, aWaitTo, aToldAt, aRisen, aUps, aTried, aRoutes])) X hT hq hG 11 rfl ga_M_aBusy (Nat.le_of_ble_eq_true rfl) hi34 (by subst eaBusy_35; rfl) dX8_layWays_93 (fun H locs hG => ?_)
            refine lv_aload_n hx hb dX8_layWays_94 rfl (lv_at hl 0 rfl) ?_
            refine lv_iload_n hx hb dX8_layWays_95 rfl (lv_at hl 3 rfl) ?_
            refine lv_iload_n hx hb dX8_layWays_96 rfl (lv_at hl 2 rfl) ?_
            obtain ⟨r_36, ec37, hb31⟩ := bnd1_some hb31
            refine g_callVr [.int x3_28, .int x2_16] [] 0 X hT hG ml_X8_164 (c_X8_nextOn hq ec37) rfl rfl rfl rfl rfl hl.1 (Nat.le_of_ble_eq_true rfl) (by rw [hR]; exact ⟨Nat.le_of_ble_eq_true rfl, Nat.le_of_ble_eq_true rfl⟩) dX8_layWays_97 (fun H locs hG => ?_)
            refine lv_istore_n (lv' := [(3, .int r_36), (0, .ref (q 0)), (1, .int x1_11), (2, .int x2_16)]) hx hb dX8_layWays_100 rfl hl (by decide) rfl (fun ls hl => ?_)
            refine lv_goto (tgt := 79) hx hb dX8_layWays_101 (by decide) ?_
            exact hin31 _ (Option.some.inj hb31).symm H locs ls hG (lv_sub hl [1, 2, 3, 0] rfl)
        refine lv_icmp_eq (tgt := 68) hx hb dX8_layWays_49 (by decide) (fun cb23 => ?_) (fun cb23 => ?_)
        · have er22 := ite_t cb23 er22
          refine lv_iload_n hx hb dX8_layWays_68 rfl (lv_at hl 2 rfl) ?_
          refine lv_goto (tgt := 78) hx hb dX8_layWays_69 (by decide) ?_
          cases er22
          exact J22 H locs ls hG (lv_sub hl [0, 1, 2] rfl)
        · have er22 := ite_f cb23 er22
          refine lv_aload_n hx hb dX8_layWays_52 rfl (lv_at hl 0 rfl) ?_
          refine g_get (v := .ref (q 10)) X hT hG fl_X8_37 0 rfl rfl rfl dX8_layWays_53 ?_
          refine lv_bipush (v := 12) hx hb dX8_layWays_56 (by decide) ?_
          refine lv_iload_n hx hb dX8_layWays_58 rfl (lv_at hl 1 rfl) ?_
          refine lv_imul hx hb dX8_layWays_59 ?_
          refine lv_iload_n hx hb dX8_layWays_60 rfl (lv_at hl 2 rfl) ?_
          refine lv_iadd hx hb dX8_layWays_61 ?_
          obtain ⟨hi24, er22⟩ := ckin_some er22
          refine g_ald (f := aLeasts_1) X hT hG 10 rfl rfl hi24 dX8_layWays_62 ?_
          refine lv_ldc (v := 268435456) hx hb X.2.2.2.1 (X.2.2.2.2 _ cn_X8_136) dX8_layWays_63 ?_
          refine lv_icmp_lt (tgt := 72) hx hb dX8_layWays_65 (by decide) (fun cb25 => ?_) (fun cb25 => ?_)
          · have er22 := ite_t cb25 er22
            refine lv_aload_n hx hb dX8_layWays_72 rfl (lv_at hl 0 rfl) ?_
            refine lv_iload_n hx hb dX8_layWays_73 rfl (lv_at hl 1 rfl) ?_
            refine lv_iload_n hx hb dX8_layWays_74 rfl (lv_at hl 2 rfl) ?_
            obtain ⟨r_26, ec27, er22⟩ := bnd1_some er22
            refine g_callVr [.int x1_11, .int x2_16] [] 0 X hT hG ml_X8_164 (c_X8_nextOn hq ec27) rfl rfl rfl rfl rfl hl.1 (Nat.le_of_ble_eq_true rfl) (by rw [hR]; exact ⟨Nat.le_of_ble_eq_true rfl, Nat.le_of_ble_eq_true rfl⟩) dX8_layWays_75 (fun H locs hG => ?_)
            cases er22
            exact J22 H locs ls hG (lv_sub hl [0, 1, 2] rfl)
          · have er22 := ite_f cb25 er22
            refine lv_iload_n hx hb dX8_layWays_68 rfl (lv_at hl 2 rfl) ?_
            refine lv_goto (tgt := 78) hx hb dX8_layWays_69 (by decide) ?_
            cases er22
            exact J22 H locs ls hG (lv_sub hl [0, 1, 2] rfl)
  refine lpG_W (Wh := fun z => ∀ (H : Heap) (locs : List Loc) (ls : Array Slot), GH D cI cZ layM q s ([iPageLength, iRoads, iRead, iAltered, iRanked, iStage, iFigures, iNewRoads, iTold, iRouted, iRouteSum], [jH], [aPage, aBeginOf, aEndOf, aLengthOf, aCosts, aRankOf, aRoadAt, aWorths, aMiddles, aLeasts_1, z.2, aNewBegin, aNewEnd, aNewLength, aIsLeft, aAround, aWhole, aIsNeeded, aWereRanks, aWaitFrom, aWaitTo, aToldAt, aRisen, aUps, aTried, aRoutes]) H locs → lv_has ls 4 [(0, .ref (q 0)), (1, .int (z.1))] → W p l e R s m args below meth c H locs 0 0 Q (F0 m 6 ls [])) ?_ fu _ eL6 H locs ls hG (lv_sub hl [1, 0] rfl)
  intro z rr6 hb6 hin6 hout6
  obtain ⟨x1_3, aBusy_4⟩ := z
  intro H locs ls hG hl
  have hb6 : f8_layWays_b1 iRoads x1_3 aBusy_4 = some rr6 := hb6
  have hG : GH D cI cZ layM q s ([iPageLength, iRoads, iRead, iAltered, iRanked, iStage, iFigures, iNewRoads, iTold, iRouted, iRouteSum], [jH], [aPage, aBeginOf, aEndOf, aLengthOf, aCosts, aRankOf, aRoadAt, aWorths, aMiddles, aLeasts_1, aBusy_4, aNewBegin, aNewEnd, aNewLength, aIsLeft, aAround, aWhole, aIsNeeded, aWereRanks, aWaitFrom, aWaitTo, aToldAt, aRisen, aUps, aTried, aRoutes]) H locs := hG
  have hl : lv_has ls 4 [(0, .ref (q 0)), (1, .int x1_3)] := hl
  unfold f8_layWays_b1 at hb6
  refine lv_iload_n hx hb dX8_layWays_6 rfl (lv_at hl 1 rfl) ?_
  refine lv_aload_n hx hb dX8_layWays_7 rfl (lv_at hl 0 rfl) ?_
  refine g_get (v := .int iRoads) X hT hG fl_X8_120 0 rfl rfl rfl dX8_layWays_8 ?_
  refine lv_icmp_ge (tgt := 27) hx hb dX8_layWays_11 (by decide) (fun cb7 => ?_) (fun cb7 => ?_)
  · have hb6 := ite_t cb7 hb6
    have eo := hout6 _ (Option.some.inj hb6).symm
    cases eo
    exact JX6 H locs ls hG (lv_sub hl [0] rfl)
  · have hb6 := ite_f cb7 hb6
    refine lv_aload_n hx hb dX8_layWays_14 rfl (lv_at hl 0 rfl) ?_
    refine g_get (v := .ref (q 11)) X hT hG fl_X8_40 0 rfl rfl rfl dX8_layWays_15 ?_
    refine lv_iload_n hx hb dX8_layWays_18 rfl (lv_at hl 1 rfl) ?_
    refine lv_iconst (v := 0) hx hb dX8_layWays_19 (by decide) ?_
    obtain ⟨hi8, hb6⟩ := ckin_some hb6
    obtain ⟨aBusy_9, eaBusy_9⟩ : ∃ z : Nat → Int32, z = upd aBusy_4 x1_3.toNatClampNeg 0 := ⟨_, rfl⟩
    have hb6 := bd_e eaBusy_9 hb6
    refine g_ast (w' := ([iPageLength, iRoads, iRead, iAltered, iRanked, iStage, iFigures, iNewRoads, iTold, iRouted, iRouteSum], [jH], [aPage, aBeginOf, aEndOf, aLengthOf, aCosts, aRankOf, aRoadAt, aWorths, aMiddles, aLeasts_1, aBusy_9, aNewBegin, aNewEnd, aNewLength, aIsLeft, aAround, aWhole, aIsNeeded, aWereRanks, aWaitFrom, aWaitTo, aToldAt, aRisen, aUps, aTried, aRoutes])) X hT hq hG 11 rfl ga_M_aBusy (Nat.le_of_ble_eq_true rfl) hi8 (by subst eaBusy_9; rfl) dX8_layWays_20 (fun H locs hG => ?_)
    obtain ⟨x1_10, ex1_10⟩ : ∃ z : Int32, z = x1_3 + 1 := ⟨_, rfl⟩
    have hb6 := bd_e ex1_10 hb6
    refine lv_iinc (v := x1_10) (lv' := [(1, .int x1_10), (0, .ref (q 0))]) hx hb dX8_layWays_21 hl (k := 1) rfl (by rw [ex1_10]; rfl) (by decide) rfl (fun ls hl => ?_)
    refine lv_goto (tgt := 6) hx hb dX8_layWays_24 (by decide) ?_
    exact hin6 _ (Option.some.inj hb6).symm H locs ls hG (lv_sub hl [1, 0] rfl)
def f8_roads_b1 (iRoads_12 : Int32) (aNewBegin_5 : (Nat → Int32)) (aNewEnd_6 : (Nat → Int32)) (aNewLength_7 : (Nat → Int32)) (x1_13 : Int32) (aBeginOf_14 : (Nat → Int32)) (aEndOf_15 : (Nat → Int32)) (aLengthOf_16 : (Nat → Int32)) : Option ((Int32 × (Nat → Int32) × (Nat → Int32) × (Nat → Int32)) ⊕ ((Nat → Int32) × (Nat → Int32) × (Nat → Int32))) :=
  if iRoads_12 ≤ x1_13 then (some (.inr (aBeginOf_14, aEndOf_15, aLengthOf_16))) else ckin x1_13 12 (ckin x1_13 12 (bd (upd aBeginOf_14 x1_13.toNatClampNeg (aNewBegin_5 x1_13.toNatClampNeg)) fun aBeginOf_24 => ckin x1_13 12 (ckin x1_13 12 (bd (upd aEndOf_15 x1_13.toNatClampNeg (aNewEnd_6 x1_13.toNatClampNeg)) fun aEndOf_27 => ckin x1_13 12 (ckin x1_13 12 (bd (upd aLengthOf_16 x1_13.toNatClampNeg (aNewLength_7 x1_13.toNatClampNeg)) fun aLengthOf_30 => bd (x1_13 + 1) fun x1_31 => some (.inl (x1_31, aBeginOf_24, aEndOf_27, aLengthOf_30))))))))
def f8_roads_b2 (iRoads_12 : Int32) (aEndOf_18 : (Nat → Int32)) (aBeginOf_17 : (Nat → Int32)) (x1_32 : Int32) (aCosts_33 : (Nat → Int32)) : Option ((Int32 × (Nat → Int32)) ⊕ ((Nat → Int32))) :=
  if (iRoads_12 * iRoads_12) ≤ x1_32 then (some (.inr aCosts_33)) else ckz iRoads_12 (bd ((x1_32 / iRoads_12)) fun x2_38 => ckz iRoads_12 (bd ((x1_32 - x1_32 / iRoads_12 * iRoads_12)) fun x3_40 => ckin x2_38 12 (ckin x3_40 12 (bnd1 (if (aEndOf_18 x2_38.toNatClampNeg) = (aBeginOf_17 x3_40.toNatClampNeg) then (some 1) else some 0) fun (y_43 : Int32) => bnd1 (if y_43 = 0 then (some (-1)) else ckin x3_40 12 (ckin x2_38 12 (if (aEndOf_18 x3_40.toNatClampNeg) = (aBeginOf_17 x2_38.toNatClampNeg) then (some (-5)) else some 0))) fun (y_46 : Int32) => ckin ((12 * x2_38) + x3_40) 144 (bd (upd aCosts_33 ((12 * x2_38) + x3_40).toNatClampNeg y_46) fun aCosts_53 => bd (x1_32 + 1) fun x1_54 => some (.inl (x1_54, aCosts_53)))))))
def f8_roads (fu : Nat) (iPageLength : Int32) (aPage : (Nat → Int32)) (aNewBegin : (Nat → Int32)) (aNewEnd : (Nat → Int32)) (aNewLength : (Nat → Int32)) (iRoads : Int32) (iRead : Int32) (aBeginOf : (Nat → Int32)) (aEndOf : (Nat → Int32)) (aLengthOf : (Nat → Int32)) (aCosts : (Nat → Int32)) (aRankOf : (Nat → Int32)) (aRoadAt : (Nat → Int32)) (aWorths : (Nat → Int32)) (aMiddles : (Nat → Int32)) (aLeasts : (Nat → Int32)) (aBusy : (Nat → Int32)) (aIsLeft : (Nat → Int32)) (aAround : (Nat → Int32)) (aWhole : (Nat → Int32)) (aIsNeeded : (Nat → Int32)) : Option (Int32 × Int32 × Int32 × Int32 × Int32 × Int32 × Int32 × (Nat → Int32) × (Nat → Int32) × (Nat → Int32) × (Nat → Int32) × (Nat → Int32) × (Nat → Int32) × (Nat → Int32) × (Nat → Int32) × (Nat → Int32) × (Nat → Int32) × (Nat → Int32) × (Nat → Int32) × (Nat → Int32) × (Nat → Int32) × (Nat → Int32) × (Nat → Int32) × (Nat → Int32)) :=
  bnd7 (f8_readPage fu iPageLength aPage aNewBegin aNewEnd aNewLength) fun (r_1 : Int32) (iStage_2 : Int32) (iFigures_3 : Int32) (iNewRoads_4 : Int32) (aNewBegin_5 : (Nat → Int32)) (aNewEnd_6 : (Nat → Int32)) (aNewLength_7 : (Nat → Int32)) => if r_1 < iPageLength then (some ((-103), iPageLength, iRoads, iRead, iStage_2, iFigures_3, iNewRoads_4, aBeginOf, aEndOf, aLengthOf, aCosts, aRankOf, aRoadAt, aWorths, aMiddles, aLeasts, aBusy, aNewBegin_5, aNewEnd_6, aNewLength_7, aIsLeft, aAround, aWhole, aIsNeeded)) else if iStage_2 < 2 then (some ((-103), iPageLength, iRoads, iRead, iStage_2, iFigures_3, iNewRoads_4, aBeginOf, aEndOf, aLengthOf, aCosts, aRankOf, aRoadAt, aWorths, aMiddles, aLeasts, aBusy, aNewBegin_5, aNewEnd_6, aNewLength_7, aIsLeft, aAround, aWhole, aIsNeeded)) else if iFigures_3 = 0 then (some ((-103), iPageLength, iRoads, iRead, iStage_2, iFigures_3, iNewRoads_4, aBeginOf, aEndOf, aLengthOf, aCosts, aRankOf, aRoadAt, aWorths, aMiddles, aLeasts, aBusy, aNewBegin_5, aNewEnd_6, aNewLength_7, aIsLeft, aAround, aWhole, aIsNeeded)) else bd ((iNewRoads_4 + 1)) fun iRoads_12 => bnd3 (lpG (fun z => f8_roads_b1 iRoads_12 aNewBegin_5 aNewEnd_6 aNewLength_7 z.1 z.2.1 z.2.2.1 z.2.2.2) fu ((0 : Int32), aBeginOf, aEndOf, aLengthOf)) fun (aBeginOf_17 : (Nat → Int32)) (aEndOf_18 : (Nat → Int32)) (aLengthOf_19 : (Nat → Int32)) => bnd1 (lpG (fun z => f8_roads_b2 iRoads_12 aEndOf_18 aBeginOf_17 z.1 z.2) fu ((0 : Int32), aCosts)) fun (aCosts_34 : (Nat → Int32)) => bnd8 (f8_findOrder fu iRoads_12 aIsLeft aCosts_34 aLengthOf_19 aWorths aMiddles aRankOf aRoadAt aAround aWhole aIsNeeded) fun (aRankOf_55 : (Nat → Int32)) (aRoadAt_56 : (Nat → Int32)) (aWorths_57 : (Nat → Int32)) (aMiddles_58 : (Nat → Int32)) (aIsLeft_59 : (Nat → Int32)) (aAround_60 : (Nat → Int32)) (aWhole_61 : (Nat → Int32)) (aIsNeeded_62 : (Nat → Int32)) => bnd2 (f8_layWays fu iRoads_12 aCosts_34 aLengthOf_19 aLeasts aBusy) fun (aLeasts_64 : (Nat → Int32)) (aBusy_65 : (Nat → Int32)) => bd ((iRead + 1)) fun iRead_67 => some (iRoads_12, 0, iRoads_12, iRead_67, iStage_2, iFigures_3, iNewRoads_4, aBeginOf_17, aEndOf_18, aLengthOf_19, aCosts_34, aRankOf_55, aRoadAt_56, aWorths_57, aMiddles_58, aLeasts_64, aBusy_65, aNewBegin_5, aNewEnd_6, aNewLength_7, aIsLeft_59, aAround_60, aWhole_61, aIsNeeded_62)
set_option maxHeartbeats 4000000 in
set_option maxRecDepth 100000 in
theorem c_X8_roads (hq : gJ layM q) {fu : Nat} {o_r : Int32} {o_iPageLength : Int32} {o_iRoads : Int32} {o_iRead : Int32} {o_iStage : Int32} {o_iFigures : Int32} {o_iNewRoads : Int32} {o_aBeginOf : (Nat → Int32)} {o_aEndOf : (Nat → Int32)} {o_aLengthOf : (Nat → Int32)} {o_aCosts : (Nat → Int32)} {o_aRankOf : (Nat → Int32)} {o_aRoadAt : (Nat → Int32)} {o_aWorths : (Nat → Int32)} {o_aMiddles : (Nat → Int32)} {o_aLeasts : (Nat → Int32)} {o_aBusy : (Nat → Int32)} {o_aNewBegin : (Nat → Int32)} {o_aNewEnd : (Nat → Int32)} {o_aNewLength : (Nat → Int32)} {o_aIsLeft : (Nat → Int32)} {o_aAround : (Nat → Int32)} {o_aWhole : (Nat → Int32)} {o_aIsNeeded : (Nat → Int32)} (h : f8_roads fu iPageLength aPage aNewBegin aNewEnd aNewLength iRoads iRead aBeginOf aEndOf aLengthOf aCosts aRankOf aRoadAt aWorths aMiddles aLeasts aBusy aIsLeft aAround aWhole aIsNeeded = some (o_r, o_iPageLength, o_iRoads, o_iRead, o_iStage, o_iFigures, o_iNewRoads, o_aBeginOf, o_aEndOf, o_aLengthOf, o_aCosts, o_aRankOf, o_aRoadAt, o_aWorths, o_aMiddles, o_aLeasts, o_aBusy, o_aNewBegin, o_aNewEnd, o_aNewLength, o_aIsLeft, o_aAround, o_aWhole, o_aIsNeeded)) :
    GM l yX8_roads cX8_roads 5 (some .int) 4 97 D cI cZ layM q [.ref (q 0)] ([iPageLength, iRoads, iRead, iAltered, iRanked, iStage, iFigures, iNewRoads, iTold, iRouted, iRouteSum], [jH], [aPage, aBeginOf, aEndOf, aLengthOf, aCosts, aRankOf, aRoadAt, aWorths, aMiddles, aLeasts, aBusy, aNewBegin, aNewEnd, aNewLength, aIsLeft, aAround, aWhole, aIsNeeded, aWereRanks, aWaitFrom, aWaitTo, aToldAt, aRisen, aUps, aTried, aRoutes]) (some (.int o_r)) ([o_iPageLength, o_iRoads, o_iRead, iAltered, iRanked, o_iStage, o_iFigures, o_iNewRoads, iTold, iRouted, iRouteSum], [jH], [aPage, o_aBeginOf, o_aEndOf, o_aLengthOf, o_aCosts, o_aRankOf, o_aRoadAt, o_aWorths, o_aMiddles, o_aLeasts, o_aBusy, o_aNewBegin, o_aNewEnd, o_aNewLength, o_aIsLeft, o_aAround, o_aWhole, o_aIsNeeded, aWereRanks, aWaitFrom, aWaitTo, aToldAt, aRisen, aUps, aTried, aRoutes]) := by
  refine GM.go RX8 (by decide) rfl (Nat.le_of_ble_eq_true rfl) ?_
  intro p e s m args below meth c ls R Q H locs X hr hlk hT hG hl hR hQ
  have hx := X.1
  have hb := X.2.1
  have hl : lv_has ls 5 [(0, .ref (q 0))] := hl
  unfold f8_roads at h
  refine lv_aload_n hx hb dX8_roads_0 rfl (lv_at hl 0 rfl) ?_
  obtain ⟨r_1, iStage_2, iFigures_3, iNewRoads_4, aNewBegin_5, aNewEnd_6, aNewLength_7, ec8, h⟩ := bnd7_some h
  refine g_callVr [] [] 0 X hT hG ml_X8_116 (c_X8_readPage hq ec8) rfl rfl rfl rfl rfl hl.1 (Nat.le_of_ble_eq_true rfl) (by rw [hR]; exact ⟨Nat.le_of_ble_eq_true rfl, Nat.le_of_ble_eq_true rfl⟩) dX8_roads_1 (fun H locs hG => ?_)
  have hG : GH D cI cZ layM q s ([iPageLength, iRoads, iRead, iAltered, iRanked, iStage_2, iFigures_3, iNewRoads_4, iTold, iRouted, iRouteSum], [jH], [aPage, aBeginOf, aEndOf, aLengthOf, aCosts, aRankOf, aRoadAt, aWorths, aMiddles, aLeasts, aBusy, aNewBegin_5, aNewEnd_6, aNewLength_7, aIsLeft, aAround, aWhole, aIsNeeded, aWereRanks, aWaitFrom, aWaitTo, aToldAt, aRisen, aUps, aTried, aRoutes]) H locs := hG
  refine lv_aload_n hx hb dX8_roads_4 rfl (lv_at hl 0 rfl) ?_
  refine g_get (v := .int iPageLength) X hT hG fl_X8_93 0 rfl rfl rfl dX8_roads_5 ?_
  refine lv_icmp_lt (tgt := 26) hx hb dX8_roads_8 (by decide) (fun cb9 => ?_) (fun cb9 => ?_)
  · have h := ite_t cb9 h
    refine lv_bipush (v := (-103)) hx hb dX8_roads_26 (by decide) ?_
    cases h
    rw [hQ]
    exact g_iret X hT hG hr hlk dX8_roads_28
  · have h := ite_f cb9 h
    refine lv_aload_n hx hb dX8_roads_11 rfl (lv_at hl 0 rfl) ?_
    refine g_get (v := .int iStage_2) X hT hG fl_X8_97 0 rfl rfl rfl dX8_roads_12 ?_
    refine lv_iconst (v := 2) hx hb dX8_roads_15 (by decide) ?_
    refine lv_icmp_lt (tgt := 26) hx hb dX8_roads_16 (by decide) (fun cb10 => ?_) (fun cb10 => ?_)
    · have h := ite_t cb10 h
      refine lv_bipush (v := (-103)) hx hb dX8_roads_26 (by decide) ?_
      cases h
      rw [hQ]
      exact g_iret X hT hG hr hlk dX8_roads_28
    · have h := ite_f cb10 h
      refine lv_aload_n hx hb dX8_roads_19 rfl (lv_at hl 0 rfl) ?_
      refine g_get (v := .int iFigures_3) X hT hG fl_X8_103 0 rfl rfl rfl dX8_roads_20 ?_
      refine lv_if_ne (tgt := 29) hx hb dX8_roads_23 (by decide) (fun cb11 => ?_) (fun cb11 => ?_)
      · have h := ite_f cb11 h
        refine lv_aload_n hx hb dX8_roads_29 rfl (lv_at hl 0 rfl) ?_
        refine lv_aload_n hx hb dX8_roads_30 rfl (lv_at hl 0 rfl) ?_
        refine g_get (v := .int iNewRoads_4) X hT hG fl_X8_100 0 rfl rfl rfl dX8_roads_31 ?_
        refine lv_iconst (v := 1) hx hb dX8_roads_34 (by decide) ?_
        refine lv_iadd hx hb dX8_roads_35 ?_
        refine lv_topi (fun iRoads_12 eiRoads_12 => ?_)
        have h := bd_e eiRoads_12 h
        refine g_putI (w' := ([iPageLength, iRoads_12, iRead, iAltered, iRanked, iStage_2, iFigures_3, iNewRoads_4, iTold, iRouted, iRouteSum], [jH], [aPage, aBeginOf, aEndOf, aLengthOf, aCosts, aRankOf, aRoadAt, aWorths, aMiddles, aLeasts, aBusy, aNewBegin_5, aNewEnd_6, aNewLength_7, aIsLeft, aAround, aWhole, aIsNeeded, aWereRanks, aWaitFrom, aWaitTo, aToldAt, aRisen, aUps, aTried, aRoutes])) X hT hq hG fp_X8_120 0 rfl rfl gu_M_iRoads (Nat.le_of_ble_eq_true rfl) rfl dX8_roads_36 (fun H locs hG => ?_)
        refine lv_iconst (v := 0) hx hb dX8_roads_39 (by decide) ?_
        refine lv_istore_n (lv' := [(1, .int 0), (0, .ref (q 0))]) hx hb dX8_roads_40 rfl hl (by decide) rfl (fun ls hl => ?_)
        obtain ⟨aBeginOf_17, aEndOf_18, aLengthOf_19, eL20, h⟩ := bnd3_some h
        have JX20 : ∀ (H : Heap) (locs : List Loc) (ls : Array Slot), GH D cI cZ layM q s ([iPageLength, iRoads_12, iRead, iAltered, iRanked, iStage_2, iFigures_3, iNewRoads_4, iTold, iRouted, iRouteSum], [jH], [aPage, aBeginOf_17, aEndOf_18, aLengthOf_19, aCosts, aRankOf, aRoadAt, aWorths, aMiddles, aLeasts, aBusy, aNewBegin_5, aNewEnd_6, aNewLength_7, aIsLeft, aAround, aWhole, aIsNeeded, aWereRanks, aWaitFrom, aWaitTo, aToldAt, aRisen, aUps, aTried, aRoutes]) H locs → lv_has ls 5 [(0, .ref (q 0))] → W p l e R s m args below meth c H locs 0 0 Q (F0 m 91 ls []) := by
          intro H locs ls hG hl
          refine lv_iconst (v := 0) hx hb dX8_roads_91 (by decide) ?_
          refine lv_istore_n (lv' := [(1, .int 0), (0, .ref (q 0))]) hx hb dX8_roads_92 rfl hl (by decide) rfl (fun ls hl => ?_)
          obtain ⟨aCosts_34, eL35, h⟩ := bnd1_some h
          have JX35 : ∀ (H : Heap) (locs : List Loc) (ls : Array Slot), GH D cI cZ layM q s ([iPageLength, iRoads_12, iRead, iAltered, iRanked, iStage_2, iFigures_3, iNewRoads_4, iTold, iRouted, iRouteSum], [jH], [aPage, aBeginOf_17, aEndOf_18, aLengthOf_19, aCosts_34, aRankOf, aRoadAt, aWorths, aMiddles, aLeasts, aBusy, aNewBegin_5, aNewEnd_6, aNewLength_7, aIsLeft, aAround, aWhole, aIsNeeded, aWereRanks, aWaitFrom, aWaitTo, aToldAt, aRisen, aUps, aTried, aRoutes]) H locs → lv_has ls 5 [(0, .ref (q 0))] → W p l e R s m args below meth c H locs 0 0 Q (F0 m 189 ls []) := by
            intro H locs ls hG hl
            refine lv_aload_n hx hb dX8_roads_189 rfl (lv_at hl 0 rfl) ?_
            obtain ⟨aRankOf_55, aRoadAt_56, aWorths_57, aMiddles_58, aIsLeft_59, aAround_60, aWhole_61, aIsNeeded_62, ec63, h⟩ := bnd8_some h
            refine g_callVv [] [] 0 X hT hG ml_X8_123 (c_X8_findOrder hq ec63) rfl rfl rfl rfl rfl hl.1 (Nat.le_of_ble_eq_true rfl) (by rw [hR]; exact ⟨Nat.le_of_ble_eq_true rfl, Nat.le_of_ble_eq_true rfl⟩) dX8_roads_190 (fun H locs hG => ?_)
            have hG : GH D cI cZ layM q s ([iPageLength, iRoads_12, iRead, iAltered, iRanked, iStage_2, iFigures_3, iNewRoads_4, iTold, iRouted, iRouteSum], [jH], [aPage, aBeginOf_17, aEndOf_18, aLengthOf_19, aCosts_34, aRankOf_55, aRoadAt_56, aWorths_57, aMiddles_58, aLeasts, aBusy, aNewBegin_5, aNewEnd_6, aNewLength_7, aIsLeft_59, aAround_60, aWhole_61, aIsNeeded_62, aWereRanks, aWaitFrom, aWaitTo, aToldAt, aRisen, aUps, aTried, aRoutes]) H locs := hG
            refine lv_aload_n hx hb dX8_roads_193 rfl (lv_at hl 0 rfl) ?_
            obtain ⟨aLeasts_64, aBusy_65, ec66, h⟩ := bnd2_some h
            refine g_callVv [] [] 0 X hT hG ml_X8_126 (c_X8_layWays hq ec66) rfl rfl rfl rfl rfl hl.1 (Nat.le_of_ble_eq_true rfl) (by rw [hR]; exact ⟨Nat.le_of_ble_eq_true rfl, Nat.le_of_ble_eq_true rfl⟩) dX8_roads_194 (fun H locs hG => ?_)
            have hG : GH D cI cZ layM q s ([iPageLength, iRoads_12, iRead, iAltered, iRanked, iStage_2, iFigures_3, iNewRoads_4, iTold, iRouted, iRouteSum], [jH], [aPage, aBeginOf_17, aEndOf_18, aLengthOf_19, aCosts_34, aRankOf_55, aRoadAt_56, aWorths_57, aMiddles_58, aLeasts_64, aBusy_65, aNewBegin_5, aNewEnd_6, aNewLength_7, aIsLeft_59, aAround_60, aWhole_61, aIsNeeded_62, aWereRanks, aWaitFrom, aWaitTo, aToldAt, aRisen, aUps, aTried, aRoutes]) H locs := hG
            refine lv_aload_n hx hb dX8_roads_197 rfl (lv_at hl 0 rfl) ?_
            refine lv_dup hx hb dX8_roads_198 rfl ?_
            refine g_get (v := .int iRead) X hT hG fl_X8_129 0 rfl rfl rfl dX8_roads_199 ?_
            refine lv_iconst (v := 1) hx hb dX8_roads_202 (by decide) ?_
            refine lv_iadd hx hb dX8_roads_203 ?_
            refine lv_topi (fun iRead_67 eiRead_67 => ?_)
            have h := bd_e eiRead_67 h
            refine g_putI (w' := ([iPageLength, iRoads_12, iRead_67, iAltered, iRanked, iStage_2, iFigures_3, iNewRoads_4, iTold, iRouted, iRouteSum], [jH], [aPage, aBeginOf_17, aEndOf_18, aLengthOf_19, aCosts_34, aRankOf_55, aRoadAt_56, aWorths_57, aMiddles_58, aLeasts_64, aBusy_65, aNewBegin_5, aNewEnd_6, aNewLength_7, aIsLeft_59, aAround_60, aWhole_61, aIsNeeded_62, aWereRanks, aWaitFrom, aWaitTo, aToldAt, aRisen, aUps, aTried, aRoutes])) X hT hq hG fp_X8_129 0 rfl rfl gu_M_iRead (Nat.le_of_ble_eq_true rfl) rfl dX8_roads_204 (fun H locs hG => ?_)
            refine lv_aload_n hx hb dX8_roads_207 rfl (lv_at hl 0 rfl) ?_
            refine lv_iconst (v := 0) hx hb dX8_roads_208 (by decide) ?_
            refine g_putI (w' := ([0, iRoads_12, iRead_67, iAltered, iRanked, iStage_2, iFigures_3, iNewRoads_4, iTold, iRouted, iRouteSum], [jH], [aPage, aBeginOf_17, aEndOf_18, aLengthOf_19, aCosts_34, aRankOf_55, aRoadAt_56, aWorths_57, aMiddles_58, aLeasts_64, aBusy_65, aNewBegin_5, aNewEnd_6, aNewLength_7, aIsLeft_59, aAround_60, aWhole_61, aIsNeeded_62, aWereRanks, aWaitFrom, aWaitTo, aToldAt, aRisen, aUps, aTried, aRoutes])) X hT hq hG fp_X8_93 0 rfl rfl gu_M_iPageLength (Nat.le_of_ble_eq_true rfl) rfl dX8_roads_209 (fun H locs hG => ?_)
            refine lv_aload_n hx hb dX8_roads_212 rfl (lv_at hl 0 rfl) ?_
            refine g_get (v := .int iRoads_12) X hT hG fl_X8_120 0 rfl rfl rfl dX8_roads_213 ?_
            cases h
            rw [hQ]
            exact g_iret X hT hG hr hlk dX8_roads_216
          refine lpG_W (Wh := fun z => ∀ (H : Heap) (locs : List Loc) (ls : Array Slot), GH D cI cZ layM q s ([iPageLength, iRoads_12, iRead, iAltered, iRanked, iStage_2, iFigures_3, iNewRoads_4, iTold, iRouted, iRouteSum], [jH], [aPage, aBeginOf_17, aEndOf_18, aLengthOf_19, z.2, aRankOf, aRoadAt, aWorths, aMiddles, aLeasts, aBusy, aNewBegin_5, aNewEnd_6, aNewLength_7, aIsLeft, aAround, aWhole, aIsNeeded, aWereRanks, aWaitFrom, aWaitTo, aToldAt, aRisen, aUps, aTried, aRoutes]) H locs → lv_has ls 5 [(0, .ref (q 0)), (1, .int (z.1))] → W p l e R s m args below meth c H locs 0 0 Q (F0 m 93 ls [])) ?_ fu _ eL35 H locs ls hG (lv_sub hl [1, 0] rfl)
          intro z rr35 hb35 hin35 hout35
          obtain ⟨x1_32, aCosts_33⟩ := z
          intro H locs ls hG hl
          have hb35 : f8_roads_b2 iRoads_12 aEndOf_18 aBeginOf_17 x1_32 aCosts_33 = some rr35 := hb35
          have hG : GH D cI cZ layM q s ([iPageLength, iRoads_12, iRead, iAltered, iRanked, iStage_2, iFigures_3, iNewRoads_4, iTold, iRouted, iRouteSum], [jH], [aPage, aBeginOf_17, aEndOf_18, aLengthOf_19, aCosts_33, aRankOf, aRoadAt, aWorths, aMiddles, aLeasts, aBusy, aNewBegin_5, aNewEnd_6, aNewLength_7, aIsLeft, aAround, aWhole, aIsNeeded, aWereRanks, aWaitFrom, aWaitTo, aToldAt, aRisen, aUps, aTried, aRoutes]) H locs := hG
          have hl : lv_has ls 5 [(0, .ref (q 0)), (1, .int x1_32)] := hl
          unfold f8_roads_b2 at hb35
          refine lv_iload_n hx hb dX8_roads_93 rfl (lv_at hl 1 rfl) ?_
          refine lv_aload_n hx hb dX8_roads_94 rfl (lv_at hl 0 rfl) ?_
          refine g_get (v := .int iRoads_12) X hT hG fl_X8_120 0 rfl rfl rfl dX8_roads_95 ?_
          refine lv_aload_n hx hb dX8_roads_98 rfl (lv_at hl 0 rfl) ?_
          refine g_get (v := .int iRoads_12) X hT hG fl_X8_120 0 rfl rfl rfl dX8_roads_99 ?_
          refine lv_imul hx hb dX8_roads_102 ?_
          refine lv_icmp_ge (tgt := 189) hx hb dX8_roads_103 (by decide) (fun cb36 => ?_) (fun cb36 => ?_)
          · have hb35 := ite_t cb36 hb35
            have eo := hout35 _ (Option.some.inj hb35).symm
            cases eo
            exact JX35 H locs ls hG (lv_sub hl [0] rfl)
          · have hb35 := ite_f cb36 hb35
            refine lv_iload_n hx hb dX8_roads_106 rfl (lv_at hl 1 rfl) ?_
            refine lv_aload_n hx hb dX8_roads_107 rfl (lv_at hl 0 rfl) ?_
            refine g_get (v := .int iRoads_12) X hT hG fl_X8_120 0 rfl rfl rfl dX8_roads_108 ?_
            obtain ⟨hz37, hb35⟩ := ckz_some hb35
            refine lv_idiv hx hb dX8_roads_111 hz37 ?_
            refine lv_topi (fun x2_38 ex2_38 => ?_)
            have hb35 := bd_e ex2_38 hb35
            refine lv_istore_n (lv' := [(2, .int x2_38), (0, .ref (q 0)), (1, .int x1_32)]) hx hb dX8_roads_112 rfl hl (by decide) rfl (fun ls hl => ?_)
            refine lv_iload_n hx hb dX8_roads_113 rfl (lv_at hl 2 rfl) ?_
            refine lv_aload_n hx hb dX8_roads_114 rfl (lv_at hl 1 rfl) ?_
            refine g_get (v := .int iRoads_12) X hT hG fl_X8_120 0 rfl rfl rfl dX8_roads_115 ?_
            obtain ⟨hz39, hb35⟩ := ckz_some hb35
            refine lv_irem hx hb dX8_roads_118 hz39 ?_
            refine lv_topi (fun x3_40 ex3_40 => ?_)
            have hb35 := bd_e ex3_40 hb35
            refine lv_istore_n (lv' := [(3, .int x3_40), (2, .int x2_38), (0, .ref (q 0)), (1, .int x1_32)]) hx hb dX8_roads_119 rfl hl (by decide) rfl (fun ls hl => ?_)
            refine lv_aload_n hx hb dX8_roads_120 rfl (lv_at hl 2 rfl) ?_
            refine g_get (v := .ref (q 3)) X hT hG fl_X8_16 0 rfl rfl rfl dX8_roads_121 ?_
            refine lv_iload_n hx hb dX8_roads_124 rfl (lv_at hl 1 rfl) ?_
            obtain ⟨hi41, hb35⟩ := ckin_some hb35
            refine g_ald (f := aEndOf_18) X hT hG 3 rfl rfl hi41 dX8_roads_125 ?_
            refine lv_aload_n hx hb dX8_roads_126 rfl (lv_at hl 2 rfl) ?_
            refine g_get (v := .ref (q 2)) X hT hG fl_X8_13 0 rfl rfl rfl dX8_roads_127 ?_
            refine lv_iload_n hx hb dX8_roads_130 rfl (lv_at hl 0 rfl) ?_
            obtain ⟨hi42, hb35⟩ := ckin_some hb35
            refine g_ald (f := aBeginOf_17) X hT hG 2 rfl rfl hi42 dX8_roads_131 ?_
            obtain ⟨y_43, er44, hb35⟩ := bnd1_some hb35
            have J44 : ∀ (H : Heap) (locs : List Loc) (ls : Array Slot), GH D cI cZ layM q s ([iPageLength, iRoads_12, iRead, iAltered, iRanked, iStage_2, iFigures_3, iNewRoads_4, iTold, iRouted, iRouteSum], [jH], [aPage, aBeginOf_17, aEndOf_18, aLengthOf_19, aCosts_33, aRankOf, aRoadAt, aWorths, aMiddles, aLeasts, aBusy, aNewBegin_5, aNewEnd_6, aNewLength_7, aIsLeft, aAround, aWhole, aIsNeeded, aWereRanks, aWaitFrom, aWaitTo, aToldAt, aRisen, aUps, aTried, aRoutes]) H locs → lv_has ls 5 [(0, .ref (q 0)), (1, .int x1_32), (2, .int x2_38), (3, .int x3_40)] → W p l e R s m args below meth c H locs 0 0 Q (F0 m 140 ls [.int y_43]) := by
              intro H locs ls hG hl
              refine lv_istore (lv' := [(4, .int y_43), (0, .ref (q 0)), (1, .int x1_32), (2, .int x2_38), (3, .int x3_40)]) hx hb dX8_roads_140 hl (by decide) rfl (fun ls hl => ?_)
              refine lv_aload_n hx hb dX8_roads_142 rfl (lv_at hl 1 rfl) ?_
              refine g_get (v := .ref (q 5)) X hT hG fl_X8_22 0 rfl rfl rfl dX8_roads_143 ?_
              refine lv_bipush (v := 12) hx hb dX8_roads_146 (by decide) ?_
              refine lv_iload_n hx hb dX8_roads_148 rfl (lv_at hl 3 rfl) ?_
              refine lv_imul hx hb dX8_roads_149 ?_
              refine lv_iload_n hx hb dX8_roads_150 rfl (lv_at hl 4 rfl) ?_
              refine lv_iadd hx hb dX8_roads_151 ?_
              refine lv_iload hx hb dX8_roads_152 (lv_at hl 0 rfl) ?_
              obtain ⟨y_46, er47, hb35⟩ := bnd1_some hb35
              have J47 : ∀ (H : Heap) (locs : List Loc) (ls : Array Slot), GH D cI cZ layM q s ([iPageLength, iRoads_12, iRead, iAltered, iRanked, iStage_2, iFigures_3, iNewRoads_4, iTold, iRouted, iRouteSum], [jH], [aPage, aBeginOf_17, aEndOf_18, aLengthOf_19, aCosts_33, aRankOf, aRoadAt, aWorths, aMiddles, aLeasts, aBusy, aNewBegin_5, aNewEnd_6, aNewLength_7, aIsLeft, aAround, aWhole, aIsNeeded, aWereRanks, aWaitFrom, aWaitTo, aToldAt, aRisen, aUps, aTried, aRoutes]) H locs → lv_has ls 5 [(0, .ref (q 0)), (1, .int x1_32)] → W p l e R s m args below meth c H locs 0 0 Q (F0 m 182 ls [.int y_46, .int ((12 * x2_38) + x3_40), .ref (q 5)]) := by
                intro H locs ls hG hl
                obtain ⟨hi52, hb35⟩ := ckin_some hb35
                obtain ⟨aCosts_53, eaCosts_53⟩ : ∃ z : Nat → Int32, z = upd aCosts_33 ((12 * x2_38) + x3_40).toNatClampNeg y_46 := ⟨_, rfl⟩
                have hb35 := bd_e eaCosts_53 hb35
                refine g_ast (w' := ([iPageLength, iRoads_12, iRead, iAltered, iRanked, iStage_2, iFigures_3, iNewRoads_4, iTold, iRouted, iRouteSum], [jH], [aPage, aBeginOf_17, aEndOf_18, aLengthOf_19, aCosts_53, aRankOf, aRoadAt, aWorths, aMiddles, aLeasts, aBusy, aNewBegin_5, aNewEnd_6, aNewLength_7, aIsLeft, aAround, aWhole, aIsNeeded, aWereRanks, aWaitFrom, aWaitTo, aToldAt, aRisen, aUps, aTried, aRoutes])) X hT hq hG 5 rfl ga_M_aCosts (Nat.le_of_ble_eq_true rfl) hi52 (by subst eaCosts_53; rfl) dX8_roads_182 (fun H locs hG => ?_)
                obtain ⟨x1_54, ex1_54⟩ : ∃ z : Int32, z = x1_32 + 1 := ⟨_, rfl⟩
                have hb35 := bd_e ex1_54 hb35
                refine lv_iinc (v := x1_54) (lv' := [(1, .int x1_54), (0, .ref (q 0))]) hx hb dX8_roads_183 hl (k := 1) rfl (by rw [ex1_54]; rfl) (by decide) rfl (fun ls hl => ?_)
                refine lv_goto (tgt := 93) hx hb dX8_roads_186 (by decide) ?_
                exact hin35 _ (Option.some.inj hb35).symm H locs ls hG (lv_sub hl [1, 0] rfl)
              refine lv_if_ne (tgt := 161) hx hb dX8_roads_154 (by decide) (fun cb48 => ?_) (fun cb48 => ?_)
              · have er47 := ite_f cb48 er47
                refine lv_aload_n hx hb dX8_roads_161 rfl (lv_at hl 1 rfl) ?_
                refine g_get (v := .ref (q 3)) X hT hG fl_X8_16 0 rfl rfl rfl dX8_roads_162 ?_
                refine lv_iload_n hx hb dX8_roads_165 rfl (lv_at hl 4 rfl) ?_
                obtain ⟨hi49, er47⟩ := ckin_some er47
                refine g_ald (f := aEndOf_18) X hT hG 3 rfl rfl hi49 dX8_roads_166 ?_
                refine lv_aload_n hx hb dX8_roads_167 rfl (lv_at hl 1 rfl) ?_
                refine g_get (v := .ref (q 2)) X hT hG fl_X8_13 0 rfl rfl rfl dX8_roads_168 ?_
                refine lv_iload_n hx hb dX8_roads_171 rfl (lv_at hl 3 rfl) ?_
                obtain ⟨hi50, er47⟩ := ckin_some er47
                refine g_ald (f := aBeginOf_17) X hT hG 2 rfl rfl hi50 dX8_roads_172 ?_
                refine lv_icmp_ne (tgt := 181) hx hb dX8_roads_173 (by decide) (fun cb51 => ?_) (fun cb51 => ?_)
                · have er47 := ite_f cb51 er47
                  refine lv_iconst (v := 0) hx hb dX8_roads_181 (by decide) ?_
                  cases er47
                  exact J47 H locs ls hG (lv_sub hl [1, 2] rfl)
                · have er47 := ite_t cb51 er47
                  refine lv_bipush (v := (-5)) hx hb dX8_roads_176 (by decide) ?_
                  refine lv_goto (tgt := 182) hx hb dX8_roads_178 (by decide) ?_
                  cases er47
                  exact J47 H locs ls hG (lv_sub hl [1, 2] rfl)
              · have er47 := ite_t cb48 er47
                refine lv_iconst (v := (-1)) hx hb dX8_roads_157 (by decide) ?_
                refine lv_goto (tgt := 182) hx hb dX8_roads_158 (by decide) ?_
                cases er47
                exact J47 H locs ls hG (lv_sub hl [1, 2] rfl)
            refine lv_icmp_ne (tgt := 139) hx hb dX8_roads_132 (by decide) (fun cb45 => ?_) (fun cb45 => ?_)
            · have er44 := ite_f cb45 er44
              refine lv_iconst (v := 0) hx hb dX8_roads_139 (by decide) ?_
              cases er44
              exact J44 H locs ls hG (lv_sub hl [2, 3, 1, 0] rfl)
            · have er44 := ite_t cb45 er44
              refine lv_iconst (v := 1) hx hb dX8_roads_135 (by decide) ?_
              refine lv_goto (tgt := 140) hx hb dX8_roads_136 (by decide) ?_
              cases er44
              exact J44 H locs ls hG (lv_sub hl [2, 3, 1, 0] rfl)
        refine lpG_W (Wh := fun z => ∀ (H : Heap) (locs : List Loc) (ls : Array Slot), GH D cI cZ layM q s ([iPageLength, iRoads_12, iRead, iAltered, iRanked, iStage_2, iFigures_3, iNewRoads_4, iTold, iRouted, iRouteSum], [jH], [aPage, z.2.1, z.2.2.1, z.2.2.2, aCosts, aRankOf, aRoadAt, aWorths, aMiddles, aLeasts, aBusy, aNewBegin_5, aNewEnd_6, aNewLength_7, aIsLeft, aAround, aWhole, aIsNeeded, aWereRanks, aWaitFrom, aWaitTo, aToldAt, aRisen, aUps, aTried, aRoutes]) H locs → lv_has ls 5 [(0, .ref (q 0)), (1, .int (z.1))] → W p l e R s m args below meth c H locs 0 0 Q (F0 m 41 ls [])) ?_ fu _ eL20 H locs ls hG (lv_sub hl [1, 0] rfl)
        intro z rr20 hb20 hin20 hout20
        obtain ⟨x1_13, aBeginOf_14, aEndOf_15, aLengthOf_16⟩ := z
        intro H locs ls hG hl
        have hb20 : f8_roads_b1 iRoads_12 aNewBegin_5 aNewEnd_6 aNewLength_7 x1_13 aBeginOf_14 aEndOf_15 aLengthOf_16 = some rr20 := hb20
        have hG : GH D cI cZ layM q s ([iPageLength, iRoads_12, iRead, iAltered, iRanked, iStage_2, iFigures_3, iNewRoads_4, iTold, iRouted, iRouteSum], [jH], [aPage, aBeginOf_14, aEndOf_15, aLengthOf_16, aCosts, aRankOf, aRoadAt, aWorths, aMiddles, aLeasts, aBusy, aNewBegin_5, aNewEnd_6, aNewLength_7, aIsLeft, aAround, aWhole, aIsNeeded, aWereRanks, aWaitFrom, aWaitTo, aToldAt, aRisen, aUps, aTried, aRoutes]) H locs := hG
        have hl : lv_has ls 5 [(0, .ref (q 0)), (1, .int x1_13)] := hl
        unfold f8_roads_b1 at hb20
        refine lv_iload_n hx hb dX8_roads_41 rfl (lv_at hl 1 rfl) ?_
        refine lv_aload_n hx hb dX8_roads_42 rfl (lv_at hl 0 rfl) ?_
        refine g_get (v := .int iRoads_12) X hT hG fl_X8_120 0 rfl rfl rfl dX8_roads_43 ?_
        refine lv_icmp_ge (tgt := 91) hx hb dX8_roads_46 (by decide) (fun cb21 => ?_) (fun cb21 => ?_)
        · have hb20 := ite_t cb21 hb20
          have eo := hout20 _ (Option.some.inj hb20).symm
          cases eo
          exact JX20 H locs ls hG (lv_sub hl [0] rfl)
        · have hb20 := ite_f cb21 hb20
          refine lv_aload_n hx hb dX8_roads_49 rfl (lv_at hl 0 rfl) ?_
          refine g_get (v := .ref (q 2)) X hT hG fl_X8_13 0 rfl rfl rfl dX8_roads_50 ?_
          refine lv_iload_n hx hb dX8_roads_53 rfl (lv_at hl 1 rfl) ?_
          refine lv_aload_n hx hb dX8_roads_54 rfl (lv_at hl 0 rfl) ?_
          refine g_get (v := .ref (q 12)) X hT hG fl_X8_43 0 rfl rfl rfl dX8_roads_55 ?_
          refine lv_iload_n hx hb dX8_roads_58 rfl (lv_at hl 1 rfl) ?_
          obtain ⟨hi22, hb20⟩ := ckin_some hb20
          refine g_ald (f := aNewBegin_5) X hT hG 12 rfl rfl hi22 dX8_roads_59 ?_
          obtain ⟨hi23, hb20⟩ := ckin_some hb20
          obtain ⟨aBeginOf_24, eaBeginOf_24⟩ : ∃ z : Nat → Int32, z = upd aBeginOf_14 x1_13.toNatClampNeg (aNewBegin_5 x1_13.toNatClampNeg) := ⟨_, rfl⟩
          have hb20 := bd_e eaBeginOf_24 hb20
          refine g_ast (w' := ([iPageLength, iRoads_12, iRead, iAltered, iRanked, iStage_2, iFigures_3, iNewRoads_4, iTold, iRouted, iRouteSum], [jH], [aPage, aBeginOf_24, aEndOf_15, aLengthOf_16, aCosts, aRankOf, aRoadAt, aWorths, aMiddles, aLeasts, aBusy, aNewBegin_5, aNewEnd_6, aNewLength_7, aIsLeft, aAround, aWhole, aIsNeeded, aWereRanks, aWaitFrom, aWaitTo, aToldAt, aRisen, aUps, aTried, aRoutes])) X hT hq hG 2 rfl ga_M_aBeginOf (Nat.le_of_ble_eq_true rfl) hi23 (by subst eaBeginOf_24; rfl) dX8_roads_60 (fun H locs hG => ?_)
          refine lv_aload_n hx hb dX8_roads_61 rfl (lv_at hl 0 rfl) ?_
          refine g_get (v := .ref (q 3)) X hT hG fl_X8_16 0 rfl rfl rfl dX8_roads_62 ?_
          refine lv_iload_n hx hb dX8_roads_65 rfl (lv_at hl 1 rfl) ?_
          refine lv_aload_n hx hb dX8_roads_66 rfl (lv_at hl 0 rfl) ?_
          refine g_get (v := .ref (q 13)) X hT hG fl_X8_46 0 rfl rfl rfl dX8_roads_67 ?_
          refine lv_iload_n hx hb dX8_roads_70 rfl (lv_at hl 1 rfl) ?_
          obtain ⟨hi25, hb20⟩ := ckin_some hb20
          refine g_ald (f := aNewEnd_6) X hT hG 13 rfl rfl hi25 dX8_roads_71 ?_
          obtain ⟨hi26, hb20⟩ := ckin_some hb20
          obtain ⟨aEndOf_27, eaEndOf_27⟩ : ∃ z : Nat → Int32, z = upd aEndOf_15 x1_13.toNatClampNeg (aNewEnd_6 x1_13.toNatClampNeg) := ⟨_, rfl⟩
          have hb20 := bd_e eaEndOf_27 hb20
          refine g_ast (w' := ([iPageLength, iRoads_12, iRead, iAltered, iRanked, iStage_2, iFigures_3, iNewRoads_4, iTold, iRouted, iRouteSum], [jH], [aPage, aBeginOf_24, aEndOf_27, aLengthOf_16, aCosts, aRankOf, aRoadAt, aWorths, aMiddles, aLeasts, aBusy, aNewBegin_5, aNewEnd_6, aNewLength_7, aIsLeft, aAround, aWhole, aIsNeeded, aWereRanks, aWaitFrom, aWaitTo, aToldAt, aRisen, aUps, aTried, aRoutes])) X hT hq hG 3 rfl ga_M_aEndOf (Nat.le_of_ble_eq_true rfl) hi26 (by subst eaEndOf_27; rfl) dX8_roads_72 (fun H locs hG => ?_)
          refine lv_aload_n hx hb dX8_roads_73 rfl (lv_at hl 0 rfl) ?_
          refine g_get (v := .ref (q 4)) X hT hG fl_X8_19 0 rfl rfl rfl dX8_roads_74 ?_
          refine lv_iload_n hx hb dX8_roads_77 rfl (lv_at hl 1 rfl) ?_
          refine lv_aload_n hx hb dX8_roads_78 rfl (lv_at hl 0 rfl) ?_
          refine g_get (v := .ref (q 14)) X hT hG fl_X8_49 0 rfl rfl rfl dX8_roads_79 ?_
          refine lv_iload_n hx hb dX8_roads_82 rfl (lv_at hl 1 rfl) ?_
          obtain ⟨hi28, hb20⟩ := ckin_some hb20
          refine g_ald (f := aNewLength_7) X hT hG 14 rfl rfl hi28 dX8_roads_83 ?_
          obtain ⟨hi29, hb20⟩ := ckin_some hb20
          obtain ⟨aLengthOf_30, eaLengthOf_30⟩ : ∃ z : Nat → Int32, z = upd aLengthOf_16 x1_13.toNatClampNeg (aNewLength_7 x1_13.toNatClampNeg) := ⟨_, rfl⟩
          have hb20 := bd_e eaLengthOf_30 hb20
          refine g_ast (w' := ([iPageLength, iRoads_12, iRead, iAltered, iRanked, iStage_2, iFigures_3, iNewRoads_4, iTold, iRouted, iRouteSum], [jH], [aPage, aBeginOf_24, aEndOf_27, aLengthOf_30, aCosts, aRankOf, aRoadAt, aWorths, aMiddles, aLeasts, aBusy, aNewBegin_5, aNewEnd_6, aNewLength_7, aIsLeft, aAround, aWhole, aIsNeeded, aWereRanks, aWaitFrom, aWaitTo, aToldAt, aRisen, aUps, aTried, aRoutes])) X hT hq hG 4 rfl ga_M_aLengthOf (Nat.le_of_ble_eq_true rfl) hi29 (by subst eaLengthOf_30; rfl) dX8_roads_84 (fun H locs hG => ?_)
          obtain ⟨x1_31, ex1_31⟩ : ∃ z : Int32, z = x1_13 + 1 := ⟨_, rfl⟩
          have hb20 := bd_e ex1_31 hb20
          refine lv_iinc (v := x1_31) (lv' := [(1, .int x1_31), (0, .ref (q 0))]) hx hb dX8_roads_85 hl (k := 1) rfl (by rw [ex1_31]; rfl) (by decide) rfl (fun ls hl => ?_)
          refine lv_goto (tgt := 41) hx hb dX8_roads_88 (by decide) ?_
          exact hin20 _ (Option.some.inj hb20).symm H locs ls hG (lv_sub hl [1, 0] rfl)
      · have h := ite_t cb11 h
        refine lv_bipush (v := (-103)) hx hb dX8_roads_26 (by decide) ?_
        cases h
        rw [hQ]
        exact g_iret X hT hG hr hlk dX8_roads_28
def f8_layArcs_b1 (fu : Nat) (iRoads : Int32) (x1_5 : Int32) (aRankOf_6 : (Nat → Int32)) (aRoadAt_7 : (Nat → Int32)) (aWorths_8 : (Nat → Int32)) (aMiddles_9 : (Nat → Int32)) (aIsLeft_10 : (Nat → Int32)) (aAround_11 : (Nat → Int32)) (aWhole_12 : (Nat → Int32)) (aIsNeeded_13 : (Nat → Int32)) : Option ((Int32 × (Nat → Int32) × (Nat → Int32) × (Nat → Int32) × (Nat → Int32) × (Nat → Int32) × (Nat → Int32) × (Nat → Int32) × (Nat → Int32)) ⊕ ((Nat → Int32) × (Nat → Int32) × (Nat → Int32) × (Nat → Int32) × (Nat → Int32) × (Nat → Int32) × (Nat → Int32) × (Nat → Int32))) :=
  if iRoads ≤ x1_5 then (some (.inr (aRankOf_6, aRoadAt_7, aWorths_8, aMiddles_9, aIsLeft_10, aAround_11, aWhole_12, aIsNeeded_13))) else ckin x1_5 12 (bnd8 (f8_rankNow fu aAround_11 iRoads aIsLeft_10 aWorths_8 aWhole_12 (aRoadAt_7 x1_5.toNatClampNeg) aIsNeeded_13 aMiddles_9 aRankOf_6 x1_5 aRoadAt_7) fun (aRankOf_25 : (Nat → Int32)) (aRoadAt_26 : (Nat → Int32)) (aWorths_27 : (Nat → Int32)) (aMiddles_28 : (Nat → Int32)) (aIsLeft_29 : (Nat → Int32)) (aAround_30 : (Nat → Int32)) (aWhole_31 : (Nat → Int32)) (aIsNeeded_32 : (Nat → Int32)) => bd (x1_5 + 1) fun x1_34 => some (.inl (x1_34, aRankOf_25, aRoadAt_26, aWorths_27, aMiddles_28, aIsLeft_29, aAround_30, aWhole_31, aIsNeeded_32)))
def f8_layArcs (fu : Nat) (iRoads : Int32) (aIsLeft : (Nat → Int32)) (aCosts : (Nat → Int32)) (aLengthOf : (Nat → Int32)) (aWorths : (Nat → Int32)) (aMiddles : (Nat → Int32)) (aRankOf : (Nat → Int32)) (aRoadAt : (Nat → Int32)) (aAround : (Nat → Int32)) (aWhole : (Nat → Int32)) (aIsNeeded : (Nat → Int32)) : Option ((Nat → Int32) × (Nat → Int32) × (Nat → Int32) × (Nat → Int32) × (Nat → Int32) × (Nat → Int32) × (Nat → Int32) × (Nat → Int32)) :=
  bnd3 (f8_allLeft fu iRoads aIsLeft aCosts aLengthOf aWorths aMiddles) fun (aWorths_1 : (Nat → Int32)) (aMiddles_2 : (Nat → Int32)) (aIsLeft_3 : (Nat → Int32)) => bnd8 (lpG (fun z => f8_layArcs_b1 fu iRoads z.1 z.2.1 z.2.2.1 z.2.2.2.1 z.2.2.2.2.1 z.2.2.2.2.2.1 z.2.2.2.2.2.2.1 z.2.2.2.2.2.2.2.1 z.2.2.2.2.2.2.2.2) fu ((0 : Int32), aRankOf, aRoadAt, aWorths_1, aMiddles_2, aIsLeft_3, aAround, aWhole, aIsNeeded)) fun (aRankOf_14 : (Nat → Int32)) (aRoadAt_15 : (Nat → Int32)) (aWorths_16 : (Nat → Int32)) (aMiddles_17 : (Nat → Int32)) (aIsLeft_18 : (Nat → Int32)) (aAround_19 : (Nat → Int32)) (aWhole_20 : (Nat → Int32)) (aIsNeeded_21 : (Nat → Int32)) => some (aRankOf_14, aRoadAt_15, aWorths_16, aMiddles_17, aIsLeft_18, aAround_19, aWhole_20, aIsNeeded_21)
set_option maxHeartbeats 4000000 in
set_option maxRecDepth 100000 in
theorem c_X8_layArcs (hq : gJ layM q) {fu : Nat} {o_aRankOf : (Nat → Int32)} {o_aRoadAt : (Nat → Int32)} {o_aWorths : (Nat → Int32)} {o_aMiddles : (Nat → Int32)} {o_aIsLeft : (Nat → Int32)} {o_aAround : (Nat → Int32)} {o_aWhole : (Nat → Int32)} {o_aIsNeeded : (Nat → Int32)} (h : f8_layArcs fu iRoads aIsLeft aCosts aLengthOf aWorths aMiddles aRankOf aRoadAt aAround aWhole aIsNeeded = some (o_aRankOf, o_aRoadAt, o_aWorths, o_aMiddles, o_aIsLeft, o_aAround, o_aWhole, o_aIsNeeded)) :
    GM l yX8_layArcs cX8_layArcs 2 none 3 76 D cI cZ layM q [.ref (q 0)] ([iPageLength, iRoads, iRead, iAltered, iRanked, iStage, iFigures, iNewRoads, iTold, iRouted, iRouteSum], [jH], [aPage, aBeginOf, aEndOf, aLengthOf, aCosts, aRankOf, aRoadAt, aWorths, aMiddles, aLeasts, aBusy, aNewBegin, aNewEnd, aNewLength, aIsLeft, aAround, aWhole, aIsNeeded, aWereRanks, aWaitFrom, aWaitTo, aToldAt, aRisen, aUps, aTried, aRoutes]) none ([iPageLength, iRoads, iRead, iAltered, iRanked, iStage, iFigures, iNewRoads, iTold, iRouted, iRouteSum], [jH], [aPage, aBeginOf, aEndOf, aLengthOf, aCosts, o_aRankOf, o_aRoadAt, o_aWorths, o_aMiddles, aLeasts, aBusy, aNewBegin, aNewEnd, aNewLength, o_aIsLeft, o_aAround, o_aWhole, o_aIsNeeded, aWereRanks, aWaitFrom, aWaitTo, aToldAt, aRisen, aUps, aTried, aRoutes]) := by
  refine GM.go RX8 (by decide) rfl (Nat.le_of_ble_eq_true rfl) ?_
  intro p e s m args below meth c ls R Q H locs X hr hlk hT hG hl hR hQ
  have hx := X.1
  have hb := X.2.1
  have hl : lv_has ls 2 [(0, .ref (q 0))] := hl
  unfold f8_layArcs at h
  refine lv_aload_n hx hb dX8_layArcs_0 rfl (lv_at hl 0 rfl) ?_
  obtain ⟨aWorths_1, aMiddles_2, aIsLeft_3, ec4, h⟩ := bnd3_some h
  refine g_callVv [] [] 0 X hT hG ml_X8_151 (c_X8_allLeft hq ec4) rfl rfl rfl rfl rfl hl.1 (Nat.le_of_ble_eq_true rfl) (by rw [hR]; exact ⟨Nat.le_of_ble_eq_true rfl, Nat.le_of_ble_eq_true rfl⟩) dX8_layArcs_1 (fun H locs hG => ?_)
  have hG : GH D cI cZ layM q s ([iPageLength, iRoads, iRead, iAltered, iRanked, iStage, iFigures, iNewRoads, iTold, iRouted, iRouteSum], [jH], [aPage, aBeginOf, aEndOf, aLengthOf, aCosts, aRankOf, aRoadAt, aWorths_1, aMiddles_2, aLeasts, aBusy, aNewBegin, aNewEnd, aNewLength, aIsLeft_3, aAround, aWhole, aIsNeeded, aWereRanks, aWaitFrom, aWaitTo, aToldAt, aRisen, aUps, aTried, aRoutes]) H locs := hG
  refine lv_iconst (v := 0) hx hb dX8_layArcs_4 (by decide) ?_
  refine lv_istore_n (lv' := [(1, .int 0), (0, .ref (q 0))]) hx hb dX8_layArcs_5 rfl hl (by decide) rfl (fun ls hl => ?_)
  obtain ⟨aRankOf_14, aRoadAt_15, aWorths_16, aMiddles_17, aIsLeft_18, aAround_19, aWhole_20, aIsNeeded_21, eL22, h⟩ := bnd8_some h
  have JX22 : ∀ (H : Heap) (locs : List Loc) (ls : Array Slot), GH D cI cZ layM q s ([iPageLength, iRoads, iRead, iAltered, iRanked, iStage, iFigures, iNewRoads, iTold, iRouted, iRouteSum], [jH], [aPage, aBeginOf, aEndOf, aLengthOf, aCosts, aRankOf_14, aRoadAt_15, aWorths_16, aMiddles_17, aLeasts, aBusy, aNewBegin, aNewEnd, aNewLength, aIsLeft_18, aAround_19, aWhole_20, aIsNeeded_21, aWereRanks, aWaitFrom, aWaitTo, aToldAt, aRisen, aUps, aTried, aRoutes]) H locs → lv_has ls 2 [] → W p l e R s m args below meth c H locs 0 0 Q (F0 m 31 ls []) := by
    intro H locs ls hG hl
    cases h
    rw [hQ]
    exact g_vret X hT hG hr hlk dX8_layArcs_31
  refine lpG_W (Wh := fun z => ∀ (H : Heap) (locs : List Loc) (ls : Array Slot), GH D cI cZ layM q s ([iPageLength, iRoads, iRead, iAltered, iRanked, iStage, iFigures, iNewRoads, iTold, iRouted, iRouteSum], [jH], [aPage, aBeginOf, aEndOf, aLengthOf, aCosts, z.2.1, z.2.2.1, z.2.2.2.1, z.2.2.2.2.1, aLeasts, aBusy, aNewBegin, aNewEnd, aNewLength, z.2.2.2.2.2.1, z.2.2.2.2.2.2.1, z.2.2.2.2.2.2.2.1, z.2.2.2.2.2.2.2.2, aWereRanks, aWaitFrom, aWaitTo, aToldAt, aRisen, aUps, aTried, aRoutes]) H locs → lv_has ls 2 [(0, .ref (q 0)), (1, .int (z.1))] → W p l e R s m args below meth c H locs 0 0 Q (F0 m 6 ls [])) ?_ fu _ eL22 H locs ls hG (lv_sub hl [1, 0] rfl)
  intro z rr22 hb22 hin22 hout22
  obtain ⟨x1_5, aRankOf_6, aRoadAt_7, aWorths_8, aMiddles_9, aIsLeft_10, aAround_11, aWhole_12, aIsNeeded_13⟩ := z
  intro H locs ls hG hl
  have hb22 : f8_layArcs_b1 fu iRoads x1_5 aRankOf_6 aRoadAt_7 aWorths_8 aMiddles_9 aIsLeft_10 aAround_11 aWhole_12 aIsNeeded_13 = some rr22 := hb22
  have hG : GH D cI cZ layM q s ([iPageLength, iRoads, iRead, iAltered, iRanked, iStage, iFigures, iNewRoads, iTold, iRouted, iRouteSum], [jH], [aPage, aBeginOf, aEndOf, aLengthOf, aCosts, aRankOf_6, aRoadAt_7, aWorths_8, aMiddles_9, aLeasts, aBusy, aNewBegin, aNewEnd, aNewLength, aIsLeft_10, aAround_11, aWhole_12, aIsNeeded_13, aWereRanks, aWaitFrom, aWaitTo, aToldAt, aRisen, aUps, aTried, aRoutes]) H locs := hG
  have hl : lv_has ls 2 [(0, .ref (q 0)), (1, .int x1_5)] := hl
  unfold f8_layArcs_b1 at hb22
  refine lv_iload_n hx hb dX8_layArcs_6 rfl (lv_at hl 1 rfl) ?_
  refine lv_aload_n hx hb dX8_layArcs_7 rfl (lv_at hl 0 rfl) ?_
  refine g_get (v := .int iRoads) X hT hG fl_X8_120 0 rfl rfl rfl dX8_layArcs_8 ?_
  refine lv_icmp_ge (tgt := 31) hx hb dX8_layArcs_11 (by decide) (fun cb23 => ?_) (fun cb23 => ?_)
  · have hb22 := ite_t cb23 hb22
    have eo := hout22 _ (Option.some.inj hb22).symm
    cases eo
    exact JX22 H locs ls hG (lv_sub hl [] rfl)
  · have hb22 := ite_f cb23 hb22
    refine lv_aload_n hx hb dX8_layArcs_14 rfl (lv_at hl 0 rfl) ?_
    refine lv_aload_n hx hb dX8_layArcs_15 rfl (lv_at hl 0 rfl) ?_
    refine g_get (v := .ref (q 7)) X hT hG fl_X8_28 0 rfl rfl rfl dX8_layArcs_16 ?_
    refine lv_iload_n hx hb dX8_layArcs_19 rfl (lv_at hl 1 rfl) ?_
    obtain ⟨hi24, hb22⟩ := ckin_some hb22
    refine g_ald (f := aRoadAt_7) X hT hG 7 rfl rfl hi24 dX8_layArcs_20 ?_
    refine lv_iload_n hx hb dX8_layArcs_21 rfl (lv_at hl 1 rfl) ?_
    obtain ⟨aRankOf_25, aRoadAt_26, aWorths_27, aMiddles_28, aIsLeft_29, aAround_30, aWhole_31, aIsNeeded_32, ec33, hb22⟩ := bnd8_some hb22
    refine g_callVv [.int (aRoadAt_7 x1_5.toNatClampNeg), .int x1_5] [] 0 X hT hG ml_X8_157 (c_X8_rankNow hq ec33) rfl rfl rfl rfl rfl hl.1 (Nat.le_of_ble_eq_true rfl) (by rw [hR]; exact ⟨Nat.le_of_ble_eq_true rfl, Nat.le_of_ble_eq_true rfl⟩) dX8_layArcs_22 (fun H locs hG => ?_)
    have hG : GH D cI cZ layM q s ([iPageLength, iRoads, iRead, iAltered, iRanked, iStage, iFigures, iNewRoads, iTold, iRouted, iRouteSum], [jH], [aPage, aBeginOf, aEndOf, aLengthOf, aCosts, aRankOf_25, aRoadAt_26, aWorths_27, aMiddles_28, aLeasts, aBusy, aNewBegin, aNewEnd, aNewLength, aIsLeft_29, aAround_30, aWhole_31, aIsNeeded_32, aWereRanks, aWaitFrom, aWaitTo, aToldAt, aRisen, aUps, aTried, aRoutes]) H locs := hG
    obtain ⟨x1_34, ex1_34⟩ : ∃ z : Int32, z = x1_5 + 1 := ⟨_, rfl⟩
    have hb22 := bd_e ex1_34 hb22
    refine lv_iinc (v := x1_34) (lv' := [(1, .int x1_34), (0, .ref (q 0))]) hx hb dX8_layArcs_25 hl (k := 1) rfl (by rw [ex1_34]; rfl) (by decide) rfl (fun ls hl => ?_)
    refine lv_goto (tgt := 6) hx hb dX8_layArcs_28 (by decide) ?_
    exact hin22 _ (Option.some.inj hb22).symm H locs ls hG (lv_sub hl [1, 0] rfl)
def f8_isRoad (p1 : Int32) (iRoads : Int32) : Option (Int32) :=
  bnd1 (f8_within p1 0 (iRoads - 1)) fun (r_1 : Int32) => ckb r_1 (some r_1)
set_option maxHeartbeats 4000000 in
set_option maxRecDepth 100000 in
theorem c_X8_isRoad (hq : gJ layM q) {p1 : Int32} {o_r : Int32} (h : f8_isRoad p1 iRoads = some o_r) :
    GM l yX8_isRoad cX8_isRoad 2 (some .boolean) 1 22 D cI cZ layM q [.ref (q 0), .int p1] ([iPageLength, iRoads, iRead, iAltered, iRanked, iStage, iFigures, iNewRoads, iTold, iRouted, iRouteSum], [jH], [aPage, aBeginOf, aEndOf, aLengthOf, aCosts, aRankOf, aRoadAt, aWorths, aMiddles, aLeasts, aBusy, aNewBegin, aNewEnd, aNewLength, aIsLeft, aAround, aWhole, aIsNeeded, aWereRanks, aWaitFrom, aWaitTo, aToldAt, aRisen, aUps, aTried, aRoutes]) (some (.int o_r)) ([iPageLength, iRoads, iRead, iAltered, iRanked, iStage, iFigures, iNewRoads, iTold, iRouted, iRouteSum], [jH], [aPage, aBeginOf, aEndOf, aLengthOf, aCosts, aRankOf, aRoadAt, aWorths, aMiddles, aLeasts, aBusy, aNewBegin, aNewEnd, aNewLength, aIsLeft, aAround, aWhole, aIsNeeded, aWereRanks, aWaitFrom, aWaitTo, aToldAt, aRisen, aUps, aTried, aRoutes]) := by
  refine GM.go RX8 (by decide) rfl (Nat.le_of_ble_eq_true rfl) ?_
  intro p e s m args below meth c ls R Q H locs X hr hlk hT hG hl hR hQ
  have hx := X.1
  have hb := X.2.1
  have hl : lv_has ls 2 [(0, .ref (q 0)), (1, .int p1)] := hl
  unfold f8_isRoad at h
  refine lv_iload_n hx hb dX8_isRoad_0 rfl (lv_at hl 1 rfl) ?_
  refine lv_iconst (v := 0) hx hb dX8_isRoad_1 (by decide) ?_
  refine lv_aload_n hx hb dX8_isRoad_2 rfl (lv_at hl 0 rfl) ?_
  refine g_get (v := .int iRoads) X hT hG fl_X8_120 0 rfl rfl rfl dX8_isRoad_3 ?_
  refine lv_iconst (v := 1) hx hb dX8_isRoad_6 (by decide) ?_
  refine lv_isub hx hb dX8_isRoad_7 ?_
  obtain ⟨r_1, ec2, h⟩ := bnd1_some h
  refine g_callSr [.int p1, .int 0, .int (iRoads - 1)] [] X hT hG ml_X8_89 (c_X8_within hq ec2) rfl rfl hl.1 (Nat.le_of_ble_eq_true rfl) (by rw [hR]; exact ⟨Nat.le_of_ble_eq_true rfl, Nat.le_of_ble_eq_true rfl⟩) dX8_isRoad_8 (fun H locs hG => ?_)
  obtain ⟨hz, h⟩ := ckb_some h
  cases h
  rw [hQ]
  exact g_zret X hT hG hr hlk hz dX8_isRoad_11
def f8_areRoads (p1 : Int32) (iRoads : Int32) (p2 : Int32) : Option (Int32) :=
  bnd1 (f8_isRoad p1 iRoads) fun (r_1 : Int32) => bnd1 (if r_1 = 0 then (some 0) else bnd1 (f8_isRoad p2 iRoads) fun (r_6 : Int32) => if r_6 = 0 then (some 0) else some 1) fun (y_3 : Int32) => ckb y_3 (some y_3)
set_option maxHeartbeats 4000000 in
set_option maxRecDepth 100000 in
theorem c_X8_areRoads (hq : gJ layM q) {p1 : Int32} {p2 : Int32} {o_r : Int32} (h : f8_areRoads p1 iRoads p2 = some o_r) :
    GM l yX8_areRoads cX8_areRoads 3 (some .boolean) 2 43 D cI cZ layM q [.ref (q 0), .int p1, .int p2] ([iPageLength, iRoads, iRead, iAltered, iRanked, iStage, iFigures, iNewRoads, iTold, iRouted, iRouteSum], [jH], [aPage, aBeginOf, aEndOf, aLengthOf, aCosts, aRankOf, aRoadAt, aWorths, aMiddles, aLeasts, aBusy, aNewBegin, aNewEnd, aNewLength, aIsLeft, aAround, aWhole, aIsNeeded, aWereRanks, aWaitFrom, aWaitTo, aToldAt, aRisen, aUps, aTried, aRoutes]) (some (.int o_r)) ([iPageLength, iRoads, iRead, iAltered, iRanked, iStage, iFigures, iNewRoads, iTold, iRouted, iRouteSum], [jH], [aPage, aBeginOf, aEndOf, aLengthOf, aCosts, aRankOf, aRoadAt, aWorths, aMiddles, aLeasts, aBusy, aNewBegin, aNewEnd, aNewLength, aIsLeft, aAround, aWhole, aIsNeeded, aWereRanks, aWaitFrom, aWaitTo, aToldAt, aRisen, aUps, aTried, aRoutes]) := by
  refine GM.go RX8 (by decide) rfl (Nat.le_of_ble_eq_true rfl) ?_
  intro p e s m args below meth c ls R Q H locs X hr hlk hT hG hl hR hQ
  have hx := X.1
  have hb := X.2.1
  have hl : lv_has ls 3 [(0, .ref (q 0)), (1, .int p1), (2, .int p2)] := hl
  unfold f8_areRoads at h
  refine lv_aload_n hx hb dX8_areRoads_0 rfl (lv_at hl 0 rfl) ?_
  refine lv_iload_n hx hb dX8_areRoads_1 rfl (lv_at hl 1 rfl) ?_
  obtain ⟨r_1, ec2, h⟩ := bnd1_some h
  refine g_callVr [.int p1] [] 0 X hT hG ml_X8_168 (c_X8_isRoad hq ec2) rfl rfl rfl rfl rfl hl.1 (Nat.le_of_ble_eq_true rfl) (by rw [hR]; exact ⟨Nat.le_of_ble_eq_true rfl, Nat.le_of_ble_eq_true rfl⟩) dX8_areRoads_2 (fun H locs hG => ?_)
  obtain ⟨y_3, er4, h⟩ := bnd1_some h
  have J4 : ∀ (H : Heap) (locs : List Loc) (ls : Array Slot), GH D cI cZ layM q s ([iPageLength, iRoads, iRead, iAltered, iRanked, iStage, iFigures, iNewRoads, iTold, iRouted, iRouteSum], [jH], [aPage, aBeginOf, aEndOf, aLengthOf, aCosts, aRankOf, aRoadAt, aWorths, aMiddles, aLeasts, aBusy, aNewBegin, aNewEnd, aNewLength, aIsLeft, aAround, aWhole, aIsNeeded, aWereRanks, aWaitFrom, aWaitTo, aToldAt, aRisen, aUps, aTried, aRoutes]) H locs → lv_has ls 3 [] → W p l e R s m args below meth c H locs 0 0 Q (F0 m 21 ls [.int y_3]) := by
    intro H locs ls hG hl
    obtain ⟨hz, h⟩ := ckb_some h
    cases h
    rw [hQ]
    exact g_zret X hT hG hr hlk hz dX8_areRoads_21
  refine lv_if_eq (tgt := 20) hx hb dX8_areRoads_5 (by decide) (fun cb5 => ?_) (fun cb5 => ?_)
  · have er4 := ite_t cb5 er4
    refine lv_iconst (v := 0) hx hb dX8_areRoads_20 (by decide) ?_
    cases er4
    exact J4 H locs ls hG (lv_sub hl [] rfl)
  · have er4 := ite_f cb5 er4
    refine lv_aload_n hx hb dX8_areRoads_8 rfl (lv_at hl 0 rfl) ?_
    refine lv_iload_n hx hb dX8_areRoads_9 rfl (lv_at hl 2 rfl) ?_
    obtain ⟨r_6, ec7, er4⟩ := bnd1_some er4
    refine g_callVr [.int p2] [] 0 X hT hG ml_X8_168 (c_X8_isRoad hq ec7) rfl rfl rfl rfl rfl hl.1 (Nat.le_of_ble_eq_true rfl) (by rw [hR]; exact ⟨Nat.le_of_ble_eq_true rfl, Nat.le_of_ble_eq_true rfl⟩) dX8_areRoads_10 (fun H locs hG => ?_)
    refine lv_if_eq (tgt := 20) hx hb dX8_areRoads_13 (by decide) (fun cb8 => ?_) (fun cb8 => ?_)
    · have er4 := ite_t cb8 er4
      refine lv_iconst (v := 0) hx hb dX8_areRoads_20 (by decide) ?_
      cases er4
      exact J4 H locs ls hG (lv_sub hl [] rfl)
    · have er4 := ite_f cb8 er4
      refine lv_iconst (v := 1) hx hb dX8_areRoads_16 (by decide) ?_
      refine lv_goto (tgt := 21) hx hb dX8_areRoads_17 (by decide) ?_
      cases er4
      exact J4 H locs ls hG (lv_sub hl [] rfl)
def f8_isTurn (p1 : Int32) (p2 : Int32) (aEndOf : (Nat → Int32)) (aBeginOf : (Nat → Int32)) : Option (Int32) :=
  ckin p1 12 (ckin p2 12 (bnd1 (if (aEndOf p1.toNatClampNeg) = (aBeginOf p2.toNatClampNeg) then (some 1) else some 0) fun (y_3 : Int32) => ckb y_3 (some y_3)))
set_option maxHeartbeats 4000000 in
set_option maxRecDepth 100000 in
theorem c_X8_isTurn (hq : gJ layM q) {p1 : Int32} {p2 : Int32} {o_r : Int32} (h : f8_isTurn p1 p2 aEndOf aBeginOf = some o_r) :
    GM l yX8_isTurn cX8_isTurn 3 (some .boolean) 0 0 D cI cZ layM q [.ref (q 0), .int p1, .int p2] ([iPageLength, iRoads, iRead, iAltered, iRanked, iStage, iFigures, iNewRoads, iTold, iRouted, iRouteSum], [jH], [aPage, aBeginOf, aEndOf, aLengthOf, aCosts, aRankOf, aRoadAt, aWorths, aMiddles, aLeasts, aBusy, aNewBegin, aNewEnd, aNewLength, aIsLeft, aAround, aWhole, aIsNeeded, aWereRanks, aWaitFrom, aWaitTo, aToldAt, aRisen, aUps, aTried, aRoutes]) (some (.int o_r)) ([iPageLength, iRoads, iRead, iAltered, iRanked, iStage, iFigures, iNewRoads, iTold, iRouted, iRouteSum], [jH], [aPage, aBeginOf, aEndOf, aLengthOf, aCosts, aRankOf, aRoadAt, aWorths, aMiddles, aLeasts, aBusy, aNewBegin, aNewEnd, aNewLength, aIsLeft, aAround, aWhole, aIsNeeded, aWereRanks, aWaitFrom, aWaitTo, aToldAt, aRisen, aUps, aTried, aRoutes]) := by
  refine GM.go RX8 (by decide) rfl (Nat.le_of_ble_eq_true rfl) ?_
  intro p e s m args below meth c ls R Q H locs X hr hlk hT hG hl hR hQ
  have hx := X.1
  have hb := X.2.1
  have hl : lv_has ls 3 [(0, .ref (q 0)), (1, .int p1), (2, .int p2)] := hl
  unfold f8_isTurn at h
  refine lv_aload_n hx hb dX8_isTurn_0 rfl (lv_at hl 0 rfl) ?_
  refine g_get (v := .ref (q 3)) X hT hG fl_X8_16 0 rfl rfl rfl dX8_isTurn_1 ?_
  refine lv_iload_n hx hb dX8_isTurn_4 rfl (lv_at hl 1 rfl) ?_
  obtain ⟨hi1, h⟩ := ckin_some h
  refine g_ald (f := aEndOf) X hT hG 3 rfl rfl hi1 dX8_isTurn_5 ?_
  refine lv_aload_n hx hb dX8_isTurn_6 rfl (lv_at hl 0 rfl) ?_
  refine g_get (v := .ref (q 2)) X hT hG fl_X8_13 0 rfl rfl rfl dX8_isTurn_7 ?_
  refine lv_iload_n hx hb dX8_isTurn_10 rfl (lv_at hl 2 rfl) ?_
  obtain ⟨hi2, h⟩ := ckin_some h
  refine g_ald (f := aBeginOf) X hT hG 2 rfl rfl hi2 dX8_isTurn_11 ?_
  obtain ⟨y_3, er4, h⟩ := bnd1_some h
  have J4 : ∀ (H : Heap) (locs : List Loc) (ls : Array Slot), GH D cI cZ layM q s ([iPageLength, iRoads, iRead, iAltered, iRanked, iStage, iFigures, iNewRoads, iTold, iRouted, iRouteSum], [jH], [aPage, aBeginOf, aEndOf, aLengthOf, aCosts, aRankOf, aRoadAt, aWorths, aMiddles, aLeasts, aBusy, aNewBegin, aNewEnd, aNewLength, aIsLeft, aAround, aWhole, aIsNeeded, aWereRanks, aWaitFrom, aWaitTo, aToldAt, aRisen, aUps, aTried, aRoutes]) H locs → lv_has ls 3 [] → W p l e R s m args below meth c H locs 0 0 Q (F0 m 20 ls [.int y_3]) := by
    intro H locs ls hG hl
    obtain ⟨hz, h⟩ := ckb_some h
    cases h
    rw [hQ]
    exact g_zret X hT hG hr hlk hz dX8_isTurn_20
  refine lv_icmp_ne (tgt := 19) hx hb dX8_isTurn_12 (by decide) (fun cb5 => ?_) (fun cb5 => ?_)
  · have er4 := ite_f cb5 er4
    refine lv_iconst (v := 0) hx hb dX8_isTurn_19 (by decide) ?_
    cases er4
    exact J4 H locs ls hG (lv_sub hl [] rfl)
  · have er4 := ite_t cb5 er4
    refine lv_iconst (v := 1) hx hb dX8_isTurn_15 (by decide) ?_
    refine lv_goto (tgt := 20) hx hb dX8_isTurn_16 (by decide) ?_
    cases er4
    exact J4 H locs ls hG (lv_sub hl [] rfl)
def f8_alter (fu : Nat) (iAltered : Int32) (iRoads : Int32) (aIsLeft : (Nat → Int32)) (aCosts : (Nat → Int32)) (aLengthOf : (Nat → Int32)) (aWorths : (Nat → Int32)) (aMiddles : (Nat → Int32)) (aRankOf : (Nat → Int32)) (aRoadAt : (Nat → Int32)) (aAround : (Nat → Int32)) (aWhole : (Nat → Int32)) (aIsNeeded : (Nat → Int32)) (aLeasts : (Nat → Int32)) (aBusy : (Nat → Int32)) : Option (Int32 × (Nat → Int32) × (Nat → Int32) × (Nat → Int32) × (Nat → Int32) × (Nat → Int32) × (Nat → Int32) × (Nat → Int32) × (Nat → Int32) × (Nat → Int32) × (Nat → Int32)) :=
  bd ((iAltered + 1)) fun iAltered_1 => bnd8 (f8_layArcs fu iRoads aIsLeft aCosts aLengthOf aWorths aMiddles aRankOf aRoadAt aAround aWhole aIsNeeded) fun (aRankOf_2 : (Nat → Int32)) (aRoadAt_3 : (Nat → Int32)) (aWorths_4 : (Nat → Int32)) (aMiddles_5 : (Nat → Int32)) (aIsLeft_6 : (Nat → Int32)) (aAround_7 : (Nat → Int32)) (aWhole_8 : (Nat → Int32)) (aIsNeeded_9 : (Nat → Int32)) => bnd2 (f8_layWays fu iRoads aCosts aLengthOf aLeasts aBusy) fun (aLeasts_11 : (Nat → Int32)) (aBusy_12 : (Nat → Int32)) => some (iAltered_1, aRankOf_2, aRoadAt_3, aWorths_4, aMiddles_5, aLeasts_11, aBusy_12, aIsLeft_6, aAround_7, aWhole_8, aIsNeeded_9)
set_option maxHeartbeats 4000000 in
set_option maxRecDepth 100000 in
theorem c_X8_alter (hq : gJ layM q) {fu : Nat} {o_iAltered : Int32} {o_aRankOf : (Nat → Int32)} {o_aRoadAt : (Nat → Int32)} {o_aWorths : (Nat → Int32)} {o_aMiddles : (Nat → Int32)} {o_aLeasts : (Nat → Int32)} {o_aBusy : (Nat → Int32)} {o_aIsLeft : (Nat → Int32)} {o_aAround : (Nat → Int32)} {o_aWhole : (Nat → Int32)} {o_aIsNeeded : (Nat → Int32)} (h : f8_alter fu iAltered iRoads aIsLeft aCosts aLengthOf aWorths aMiddles aRankOf aRoadAt aAround aWhole aIsNeeded aLeasts aBusy = some (o_iAltered, o_aRankOf, o_aRoadAt, o_aWorths, o_aMiddles, o_aLeasts, o_aBusy, o_aIsLeft, o_aAround, o_aWhole, o_aIsNeeded)) :
    GM l yX8_alter cX8_alter 1 none 4 97 D cI cZ layM q [.ref (q 0)] ([iPageLength, iRoads, iRead, iAltered, iRanked, iStage, iFigures, iNewRoads, iTold, iRouted, iRouteSum], [jH], [aPage, aBeginOf, aEndOf, aLengthOf, aCosts, aRankOf, aRoadAt, aWorths, aMiddles, aLeasts, aBusy, aNewBegin, aNewEnd, aNewLength, aIsLeft, aAround, aWhole, aIsNeeded, aWereRanks, aWaitFrom, aWaitTo, aToldAt, aRisen, aUps, aTried, aRoutes]) none ([iPageLength, iRoads, iRead, o_iAltered, iRanked, iStage, iFigures, iNewRoads, iTold, iRouted, iRouteSum], [jH], [aPage, aBeginOf, aEndOf, aLengthOf, aCosts, o_aRankOf, o_aRoadAt, o_aWorths, o_aMiddles, o_aLeasts, o_aBusy, aNewBegin, aNewEnd, aNewLength, o_aIsLeft, o_aAround, o_aWhole, o_aIsNeeded, aWereRanks, aWaitFrom, aWaitTo, aToldAt, aRisen, aUps, aTried, aRoutes]) := by
  refine GM.go RX8 (by decide) rfl (Nat.le_of_ble_eq_true rfl) ?_
  intro p e s m args below meth c ls R Q H locs X hr hlk hT hG hl hR hQ
  have hx := X.1
  have hb := X.2.1
  have hl : lv_has ls 1 [(0, .ref (q 0))] := hl
  unfold f8_alter at h
  refine lv_aload_n hx hb dX8_alter_0 rfl (lv_at hl 0 rfl) ?_
  refine lv_dup hx hb dX8_alter_1 rfl ?_
  refine g_get (v := .int iAltered) X hT hG fl_X8_171 0 rfl rfl rfl dX8_alter_2 ?_
  refine lv_iconst (v := 1) hx hb dX8_alter_5 (by decide) ?_
  refine lv_iadd hx hb dX8_alter_6 ?_
  refine lv_topi (fun iAltered_1 eiAltered_1 => ?_)
  have h := bd_e eiAltered_1 h
  refine g_putI (w' := ([iPageLength, iRoads, iRead, iAltered_1, iRanked, iStage, iFigures, iNewRoads, iTold, iRouted, iRouteSum], [jH], [aPage, aBeginOf, aEndOf, aLengthOf, aCosts, aRankOf, aRoadAt, aWorths, aMiddles, aLeasts, aBusy, aNewBegin, aNewEnd, aNewLength, aIsLeft, aAround, aWhole, aIsNeeded, aWereRanks, aWaitFrom, aWaitTo, aToldAt, aRisen, aUps, aTried, aRoutes])) X hT hq hG fp_X8_171 0 rfl rfl gu_M_iAltered (Nat.le_of_ble_eq_true rfl) rfl dX8_alter_7 (fun H locs hG => ?_)
  refine lv_aload_n hx hb dX8_alter_10 rfl (lv_at hl 0 rfl) ?_
  obtain ⟨aRankOf_2, aRoadAt_3, aWorths_4, aMiddles_5, aIsLeft_6, aAround_7, aWhole_8, aIsNeeded_9, ec10, h⟩ := bnd8_some h
  refine g_callVv [] [] 0 X hT hG ml_X8_174 (c_X8_layArcs hq ec10) rfl rfl rfl rfl rfl hl.1 (Nat.le_of_ble_eq_true rfl) (by rw [hR]; exact ⟨Nat.le_of_ble_eq_true rfl, Nat.le_of_ble_eq_true rfl⟩) dX8_alter_11 (fun H locs hG => ?_)
  have hG : GH D cI cZ layM q s ([iPageLength, iRoads, iRead, iAltered_1, iRanked, iStage, iFigures, iNewRoads, iTold, iRouted, iRouteSum], [jH], [aPage, aBeginOf, aEndOf, aLengthOf, aCosts, aRankOf_2, aRoadAt_3, aWorths_4, aMiddles_5, aLeasts, aBusy, aNewBegin, aNewEnd, aNewLength, aIsLeft_6, aAround_7, aWhole_8, aIsNeeded_9, aWereRanks, aWaitFrom, aWaitTo, aToldAt, aRisen, aUps, aTried, aRoutes]) H locs := hG
  refine lv_aload_n hx hb dX8_alter_14 rfl (lv_at hl 0 rfl) ?_
  obtain ⟨aLeasts_11, aBusy_12, ec13, h⟩ := bnd2_some h
  refine g_callVv [] [] 0 X hT hG ml_X8_126 (c_X8_layWays hq ec13) rfl rfl rfl rfl rfl hl.1 (Nat.le_of_ble_eq_true rfl) (by rw [hR]; exact ⟨Nat.le_of_ble_eq_true rfl, Nat.le_of_ble_eq_true rfl⟩) dX8_alter_15 (fun H locs hG => ?_)
  have hG : GH D cI cZ layM q s ([iPageLength, iRoads, iRead, iAltered_1, iRanked, iStage, iFigures, iNewRoads, iTold, iRouted, iRouteSum], [jH], [aPage, aBeginOf, aEndOf, aLengthOf, aCosts, aRankOf_2, aRoadAt_3, aWorths_4, aMiddles_5, aLeasts_11, aBusy_12, aNewBegin, aNewEnd, aNewLength, aIsLeft_6, aAround_7, aWhole_8, aIsNeeded_9, aWereRanks, aWaitFrom, aWaitTo, aToldAt, aRisen, aUps, aTried, aRoutes]) H locs := hG
  cases h
  rw [hQ]
  exact g_vret X hT hG hr hlk dX8_alter_18
def f8_stretch (fu : Nat) (p1 : Int32) (iRoads : Int32) (iAltered : Int32) (aLengthOf : (Nat → Int32)) (aRankOf : (Nat → Int32)) (aRoadAt : (Nat → Int32)) (aWorths : (Nat → Int32)) (aMiddles : (Nat → Int32)) (aLeasts : (Nat → Int32)) (aBusy : (Nat → Int32)) (aIsLeft : (Nat → Int32)) (aAround : (Nat → Int32)) (aWhole : (Nat → Int32)) (aIsNeeded : (Nat → Int32)) (p2 : Int32) (aCosts : (Nat → Int32)) : Option (Int32 × Int32 × (Nat → Int32) × (Nat → Int32) × (Nat → Int32) × (Nat → Int32) × (Nat → Int32) × (Nat → Int32) × (Nat → Int32) × (Nat → Int32) × (Nat → Int32) × (Nat → Int32) × (Nat → Int32)) :=
  bnd1 (f8_isRoad p1 iRoads) fun (r_1 : Int32) => if r_1 = 0 then (some ((-101), iAltered, aLengthOf, aRankOf, aRoadAt, aWorths, aMiddles, aLeasts, aBusy, aIsLeft, aAround, aWhole, aIsNeeded)) else bnd1 (f8_within p2 1 99) fun (r_4 : Int32) => if r_4 = 0 then (some ((-102), iAltered, aLengthOf, aRankOf, aRoadAt, aWorths, aMiddles, aLeasts, aBusy, aIsLeft, aAround, aWhole, aIsNeeded)) else ckin p1 12 (bd ((aLengthOf p1.toNatClampNeg)) fun x3_8 => ckin p1 12 (bd (upd aLengthOf p1.toNatClampNeg p2) fun aLengthOf_10 => bnd11 (f8_alter fu iAltered iRoads aIsLeft aCosts aLengthOf_10 aWorths aMiddles aRankOf aRoadAt aAround aWhole aIsNeeded aLeasts aBusy) fun (iAltered_11 : Int32) (aRankOf_12 : (Nat → Int32)) (aRoadAt_13 : (Nat → Int32)) (aWorths_14 : (Nat → Int32)) (aMiddles_15 : (Nat → Int32)) (aLeasts_16 : (Nat → Int32)) (aBusy_17 : (Nat → Int32)) (aIsLeft_18 : (Nat → Int32)) (aAround_19 : (Nat → Int32)) (aWhole_20 : (Nat → Int32)) (aIsNeeded_21 : (Nat → Int32)) => some (x3_8, iAltered_11, aLengthOf_10, aRankOf_12, aRoadAt_13, aWorths_14, aMiddles_15, aLeasts_16, aBusy_17, aIsLeft_18, aAround_19, aWhole_20, aIsNeeded_21)))
set_option maxHeartbeats 4000000 in
set_option maxRecDepth 100000 in
theorem c_X8_stretch (hq : gJ layM q) {fu : Nat} {p1 : Int32} {p2 : Int32} {o_r : Int32} {o_iAltered : Int32} {o_aLengthOf : (Nat → Int32)} {o_aRankOf : (Nat → Int32)} {o_aRoadAt : (Nat → Int32)} {o_aWorths : (Nat → Int32)} {o_aMiddles : (Nat → Int32)} {o_aLeasts : (Nat → Int32)} {o_aBusy : (Nat → Int32)} {o_aIsLeft : (Nat → Int32)} {o_aAround : (Nat → Int32)} {o_aWhole : (Nat → Int32)} {o_aIsNeeded : (Nat → Int32)} (h : f8_stretch fu p1 iRoads iAltered aLengthOf aRankOf aRoadAt aWorths aMiddles aLeasts aBusy aIsLeft aAround aWhole aIsNeeded p2 aCosts = some (o_r, o_iAltered, o_aLengthOf, o_aRankOf, o_aRoadAt, o_aWorths, o_aMiddles, o_aLeasts, o_aBusy, o_aIsLeft, o_aAround, o_aWhole, o_aIsNeeded)) :
    GM l yX8_stretch cX8_stretch 4 (some .int) 5 117 D cI cZ layM q [.ref (q 0), .int p1, .int p2] ([iPageLength, iRoads, iRead, iAltered, iRanked, iStage, iFigures, iNewRoads, iTold, iRouted, iRouteSum], [jH], [aPage, aBeginOf, aEndOf, aLengthOf, aCosts, aRankOf, aRoadAt, aWorths, aMiddles, aLeasts, aBusy, aNewBegin, aNewEnd, aNewLength, aIsLeft, aAround, aWhole, aIsNeeded, aWereRanks, aWaitFrom, aWaitTo, aToldAt, aRisen, aUps, aTried, aRoutes]) (some (.int o_r)) ([iPageLength, iRoads, iRead, o_iAltered, iRanked, iStage, iFigures, iNewRoads, iTold, iRouted, iRouteSum], [jH], [aPage, aBeginOf, aEndOf, o_aLengthOf, aCosts, o_aRankOf, o_aRoadAt, o_aWorths, o_aMiddles, o_aLeasts, o_aBusy, aNewBegin, aNewEnd, aNewLength, o_aIsLeft, o_aAround, o_aWhole, o_aIsNeeded, aWereRanks, aWaitFrom, aWaitTo, aToldAt, aRisen, aUps, aTried, aRoutes]) := by
  refine GM.go RX8 (by decide) rfl (Nat.le_of_ble_eq_true rfl) ?_
  intro p e s m args below meth c ls R Q H locs X hr hlk hT hG hl hR hQ
  have hx := X.1
  have hb := X.2.1
  have hl : lv_has ls 4 [(0, .ref (q 0)), (1, .int p1), (2, .int p2)] := hl
  unfold f8_stretch at h
  refine lv_aload_n hx hb dX8_stretch_0 rfl (lv_at hl 0 rfl) ?_
  refine lv_iload_n hx hb dX8_stretch_1 rfl (lv_at hl 1 rfl) ?_
  obtain ⟨r_1, ec2, h⟩ := bnd1_some h
  refine g_callVr [.int p1] [] 0 X hT hG ml_X8_168 (c_X8_isRoad hq ec2) rfl rfl rfl rfl rfl hl.1 (Nat.le_of_ble_eq_true rfl) (by rw [hR]; exact ⟨Nat.le_of_ble_eq_true rfl, Nat.le_of_ble_eq_true rfl⟩) dX8_stretch_2 (fun H locs hG => ?_)
  refine lv_if_ne (tgt := 11) hx hb dX8_stretch_5 (by decide) (fun cb3 => ?_) (fun cb3 => ?_)
  · have h := ite_f cb3 h
    refine lv_iload_n hx hb dX8_stretch_11 rfl (lv_at hl 2 rfl) ?_
    refine lv_iconst (v := 1) hx hb dX8_stretch_12 (by decide) ?_
    refine lv_bipush (v := 99) hx hb dX8_stretch_13 (by decide) ?_
    obtain ⟨r_4, ec5, h⟩ := bnd1_some h
    refine g_callSr [.int p2, .int 1, .int 99] [] X hT hG ml_X8_89 (c_X8_within hq ec5) rfl rfl hl.1 (Nat.le_of_ble_eq_true rfl) (by rw [hR]; exact ⟨Nat.le_of_ble_eq_true rfl, Nat.le_of_ble_eq_true rfl⟩) dX8_stretch_15 (fun H locs hG => ?_)
    refine lv_if_ne (tgt := 24) hx hb dX8_stretch_18 (by decide) (fun cb6 => ?_) (fun cb6 => ?_)
    · have h := ite_f cb6 h
      refine lv_aload_n hx hb dX8_stretch_24 rfl (lv_at hl 0 rfl) ?_
      refine g_get (v := .ref (q 4)) X hT hG fl_X8_19 0 rfl rfl rfl dX8_stretch_25 ?_
      refine lv_iload_n hx hb dX8_stretch_28 rfl (lv_at hl 1 rfl) ?_
      obtain ⟨hi7, h⟩ := ckin_some h
      refine g_ald (f := aLengthOf) X hT hG 4 rfl rfl hi7 dX8_stretch_29 ?_
      refine lv_topi (fun x3_8 ex3_8 => ?_)
      have h := bd_e ex3_8 h
      refine lv_istore_n (lv' := [(3, .int x3_8), (0, .ref (q 0)), (1, .int p1), (2, .int p2)]) hx hb dX8_stretch_30 rfl hl (by decide) rfl (fun ls hl => ?_)
      refine lv_aload_n hx hb dX8_stretch_31 rfl (lv_at hl 1 rfl) ?_
      refine g_get (v := .ref (q 4)) X hT hG fl_X8_19 0 rfl rfl rfl dX8_stretch_32 ?_
      refine lv_iload_n hx hb dX8_stretch_35 rfl (lv_at hl 2 rfl) ?_
      refine lv_iload_n hx hb dX8_stretch_36 rfl (lv_at hl 3 rfl) ?_
      obtain ⟨hi9, h⟩ := ckin_some h
      obtain ⟨aLengthOf_10, eaLengthOf_10⟩ : ∃ z : Nat → Int32, z = upd aLengthOf p1.toNatClampNeg p2 := ⟨_, rfl⟩
      have h := bd_e eaLengthOf_10 h
      refine g_ast (w' := ([iPageLength, iRoads, iRead, iAltered, iRanked, iStage, iFigures, iNewRoads, iTold, iRouted, iRouteSum], [jH], [aPage, aBeginOf, aEndOf, aLengthOf_10, aCosts, aRankOf, aRoadAt, aWorths, aMiddles, aLeasts, aBusy, aNewBegin, aNewEnd, aNewLength, aIsLeft, aAround, aWhole, aIsNeeded, aWereRanks, aWaitFrom, aWaitTo, aToldAt, aRisen, aUps, aTried, aRoutes])) X hT hq hG 4 rfl ga_M_aLengthOf (Nat.le_of_ble_eq_true rfl) hi9 (by subst eaLengthOf_10; rfl) dX8_stretch_37 (fun H locs hG => ?_)
      refine lv_aload_n hx hb dX8_stretch_38 rfl (lv_at hl 1 rfl) ?_
      obtain ⟨iAltered_11, aRankOf_12, aRoadAt_13, aWorths_14, aMiddles_15, aLeasts_16, aBusy_17, aIsLeft_18, aAround_19, aWhole_20, aIsNeeded_21, ec22, h⟩ := bnd11_some h
      refine g_callVv [] [] 0 X hT hG ml_X8_177 (c_X8_alter hq ec22) rfl rfl rfl rfl rfl hl.1 (Nat.le_of_ble_eq_true rfl) (by rw [hR]; exact ⟨Nat.le_of_ble_eq_true rfl, Nat.le_of_ble_eq_true rfl⟩) dX8_stretch_39 (fun H locs hG => ?_)
      have hG : GH D cI cZ layM q s ([iPageLength, iRoads, iRead, iAltered_11, iRanked, iStage, iFigures, iNewRoads, iTold, iRouted, iRouteSum], [jH], [aPage, aBeginOf, aEndOf, aLengthOf_10, aCosts, aRankOf_12, aRoadAt_13, aWorths_14, aMiddles_15, aLeasts_16, aBusy_17, aNewBegin, aNewEnd, aNewLength, aIsLeft_18, aAround_19, aWhole_20, aIsNeeded_21, aWereRanks, aWaitFrom, aWaitTo, aToldAt, aRisen, aUps, aTried, aRoutes]) H locs := hG
      refine lv_iload_n hx hb dX8_stretch_42 rfl (lv_at hl 0 rfl) ?_
      cases h
      rw [hQ]
      exact g_iret X hT hG hr hlk dX8_stretch_43
    · have h := ite_t cb6 h
      refine lv_bipush (v := (-102)) hx hb dX8_stretch_21 (by decide) ?_
      cases h
      rw [hQ]
      exact g_iret X hT hG hr hlk dX8_stretch_23
  · have h := ite_t cb3 h
    refine lv_bipush (v := (-101)) hx hb dX8_stretch_8 (by decide) ?_
    cases h
    rw [hQ]
    exact g_iret X hT hG hr hlk dX8_stretch_10
def f8_turn_k1 (fu : Nat) (p1 : Int32) (p2 : Int32) (aCosts : (Nat → Int32)) (p3 : Int32) (iAltered : Int32) (iRoads : Int32) (aIsLeft : (Nat → Int32)) (aLengthOf : (Nat → Int32)) (aWorths : (Nat → Int32)) (aMiddles : (Nat → Int32)) (aRankOf : (Nat → Int32)) (aRoadAt : (Nat → Int32)) (aAround : (Nat → Int32)) (aWhole : (Nat → Int32)) (aIsNeeded : (Nat → Int32)) (aLeasts : (Nat → Int32)) (aBusy : (Nat → Int32)) : Option (Int32 × Int32 × (Nat → Int32) × (Nat → Int32) × (Nat → Int32) × (Nat → Int32) × (Nat → Int32) × (Nat → Int32) × (Nat → Int32) × (Nat → Int32) × (Nat → Int32) × (Nat → Int32) × (Nat → Int32)) :=
  ckin ((12 * p1) + p2) 144 (bd ((aCosts ((12 * p1) + p2).toNatClampNeg)) fun x4_9 => ckin ((12 * p1) + p2) 144 (bd (upd aCosts ((12 * p1) + p2).toNatClampNeg p3) fun aCosts_11 => bnd11 (f8_alter fu iAltered iRoads aIsLeft aCosts_11 aLengthOf aWorths aMiddles aRankOf aRoadAt aAround aWhole aIsNeeded aLeasts aBusy) fun (iAltered_12 : Int32) (aRankOf_13 : (Nat → Int32)) (aRoadAt_14 : (Nat → Int32)) (aWorths_15 : (Nat → Int32)) (aMiddles_16 : (Nat → Int32)) (aLeasts_17 : (Nat → Int32)) (aBusy_18 : (Nat → Int32)) (aIsLeft_19 : (Nat → Int32)) (aAround_20 : (Nat → Int32)) (aWhole_21 : (Nat → Int32)) (aIsNeeded_22 : (Nat → Int32)) => some (x4_9, iAltered_12, aCosts_11, aRankOf_13, aRoadAt_14, aWorths_15, aMiddles_16, aLeasts_17, aBusy_18, aIsLeft_19, aAround_20, aWhole_21, aIsNeeded_22)))
def f8_turn (fu : Nat) (p1 : Int32) (iRoads : Int32) (p2 : Int32) (iAltered : Int32) (aCosts : (Nat → Int32)) (aRankOf : (Nat → Int32)) (aRoadAt : (Nat → Int32)) (aWorths : (Nat → Int32)) (aMiddles : (Nat → Int32)) (aLeasts : (Nat → Int32)) (aBusy : (Nat → Int32)) (aIsLeft : (Nat → Int32)) (aAround : (Nat → Int32)) (aWhole : (Nat → Int32)) (aIsNeeded : (Nat → Int32)) (aEndOf : (Nat → Int32)) (aBeginOf : (Nat → Int32)) (p3 : Int32) (aLengthOf : (Nat → Int32)) : Option (Int32 × Int32 × (Nat → Int32) × (Nat → Int32) × (Nat → Int32) × (Nat → Int32) × (Nat → Int32) × (Nat → Int32) × (Nat → Int32) × (Nat → Int32) × (Nat → Int32) × (Nat → Int32) × (Nat → Int32)) :=
  bnd1 (f8_areRoads p1 iRoads p2) fun (r_1 : Int32) => if r_1 = 0 then (some ((-101), iAltered, aCosts, aRankOf, aRoadAt, aWorths, aMiddles, aLeasts, aBusy, aIsLeft, aAround, aWhole, aIsNeeded)) else bnd1 (f8_isTurn p1 p2 aEndOf aBeginOf) fun (r_4 : Int32) => if r_4 = 0 then (some ((-103), iAltered, aCosts, aRankOf, aRoadAt, aWorths, aMiddles, aLeasts, aBusy, aIsLeft, aAround, aWhole, aIsNeeded)) else if p3 = (-5) then (f8_turn_k1 fu p1 p2 aCosts p3 iAltered iRoads aIsLeft aLengthOf aWorths aMiddles aRankOf aRoadAt aAround aWhole aIsNeeded aLeasts aBusy) else bnd1 (f8_within p3 0 50) fun (r_25 : Int32) => if r_25 = 0 then (some ((-102), iAltered, aCosts, aRankOf, aRoadAt, aWorths, aMiddles, aLeasts, aBusy, aIsLeft, aAround, aWhole, aIsNeeded)) else f8_turn_k1 fu p1 p2 aCosts p3 iAltered iRoads aIsLeft aLengthOf aWorths aMiddles aRankOf aRoadAt aAround aWhole aIsNeeded aLeasts aBusy
set_option maxHeartbeats 4000000 in
set_option maxRecDepth 100000 in
theorem c_X8_turn (hq : gJ layM q) {fu : Nat} {p1 : Int32} {p2 : Int32} {p3 : Int32} {o_r : Int32} {o_iAltered : Int32} {o_aCosts : (Nat → Int32)} {o_aRankOf : (Nat → Int32)} {o_aRoadAt : (Nat → Int32)} {o_aWorths : (Nat → Int32)} {o_aMiddles : (Nat → Int32)} {o_aLeasts : (Nat → Int32)} {o_aBusy : (Nat → Int32)} {o_aIsLeft : (Nat → Int32)} {o_aAround : (Nat → Int32)} {o_aWhole : (Nat → Int32)} {o_aIsNeeded : (Nat → Int32)} (h : f8_turn fu p1 iRoads p2 iAltered aCosts aRankOf aRoadAt aWorths aMiddles aLeasts aBusy aIsLeft aAround aWhole aIsNeeded aEndOf aBeginOf p3 aLengthOf = some (o_r, o_iAltered, o_aCosts, o_aRankOf, o_aRoadAt, o_aWorths, o_aMiddles, o_aLeasts, o_aBusy, o_aIsLeft, o_aAround, o_aWhole, o_aIsNeeded)) :
    GM l yX8_turn cX8_turn 5 (some .int) 5 117 D cI cZ layM q [.ref (q 0), .int p1, .int p2, .int p3] ([iPageLength, iRoads, iRead, iAltered, iRanked, iStage, iFigures, iNewRoads, iTold, iRouted, iRouteSum], [jH], [aPage, aBeginOf, aEndOf, aLengthOf, aCosts, aRankOf, aRoadAt, aWorths, aMiddles, aLeasts, aBusy, aNewBegin, aNewEnd, aNewLength, aIsLeft, aAround, aWhole, aIsNeeded, aWereRanks, aWaitFrom, aWaitTo, aToldAt, aRisen, aUps, aTried, aRoutes]) (some (.int o_r)) ([iPageLength, iRoads, iRead, o_iAltered, iRanked, iStage, iFigures, iNewRoads, iTold, iRouted, iRouteSum], [jH], [aPage, aBeginOf, aEndOf, aLengthOf, o_aCosts, o_aRankOf, o_aRoadAt, o_aWorths, o_aMiddles, o_aLeasts, o_aBusy, aNewBegin, aNewEnd, aNewLength, o_aIsLeft, o_aAround, o_aWhole, o_aIsNeeded, aWereRanks, aWaitFrom, aWaitTo, aToldAt, aRisen, aUps, aTried, aRoutes]) := by
  refine GM.go RX8 (by decide) rfl (Nat.le_of_ble_eq_true rfl) ?_
  intro p e s m args below meth c ls R Q H locs X hr hlk hT hG hl hR hQ
  have hx := X.1
  have hb := X.2.1
  have hl : lv_has ls 5 [(0, .ref (q 0)), (1, .int p1), (2, .int p2), (3, .int p3)] := hl
  unfold f8_turn at h
  refine lv_aload_n hx hb dX8_turn_0 rfl (lv_at hl 0 rfl) ?_
  refine lv_iload_n hx hb dX8_turn_1 rfl (lv_at hl 1 rfl) ?_
  refine lv_iload_n hx hb dX8_turn_2 rfl (lv_at hl 2 rfl) ?_
  obtain ⟨r_1, ec2, h⟩ := bnd1_some h
  refine g_callVr [.int p1, .int p2] [] 0 X hT hG ml_X8_180 (c_X8_areRoads hq ec2) rfl rfl rfl rfl rfl hl.1 (Nat.le_of_ble_eq_true rfl) (by rw [hR]; exact ⟨Nat.le_of_ble_eq_true rfl, Nat.le_of_ble_eq_true rfl⟩) dX8_turn_3 (fun H locs hG => ?_)
  refine lv_if_ne (tgt := 12) hx hb dX8_turn_6 (by decide) (fun cb3 => ?_) (fun cb3 => ?_)
  · have h := ite_f cb3 h
    refine lv_aload_n hx hb dX8_turn_12 rfl (lv_at hl 0 rfl) ?_
    refine lv_iload_n hx hb dX8_turn_13 rfl (lv_at hl 1 rfl) ?_
    refine lv_iload_n hx hb dX8_turn_14 rfl (lv_at hl 2 rfl) ?_
    obtain ⟨r_4, ec5, h⟩ := bnd1_some h
    refine g_callVr [.int p1, .int p2] [] 0 X hT hG ml_X8_183 (c_X8_isTurn hq ec5) rfl rfl rfl rfl rfl hl.1 (Nat.le_of_ble_eq_true rfl) (by rw [hR]; exact ⟨Nat.le_of_ble_eq_true rfl, Nat.le_of_ble_eq_true rfl⟩) dX8_turn_15 (fun H locs hG => ?_)
    refine lv_if_ne (tgt := 24) hx hb dX8_turn_18 (by decide) (fun cb6 => ?_) (fun cb6 => ?_)
    · have h := ite_f cb6 h
      refine lv_iload_n hx hb dX8_turn_24 rfl (lv_at hl 3 rfl) ?_
      refine lv_bipush (v := (-5)) hx hb dX8_turn_25 (by decide) ?_
      have K7 : ∀ (H : Heap) (locs : List Loc) (ls : Array Slot), GH D cI cZ layM q s ([iPageLength, iRoads, iRead, iAltered, iRanked, iStage, iFigures, iNewRoads, iTold, iRouted, iRouteSum], [jH], [aPage, aBeginOf, aEndOf, aLengthOf, aCosts, aRankOf, aRoadAt, aWorths, aMiddles, aLeasts, aBusy, aNewBegin, aNewEnd, aNewLength, aIsLeft, aAround, aWhole, aIsNeeded, aWereRanks, aWaitFrom, aWaitTo, aToldAt, aRisen, aUps, aTried, aRoutes]) H locs → lv_has ls 5 [(0, .ref (q 0)), (1, .int p1), (2, .int p2), (3, .int p3)] → f8_turn_k1 fu p1 p2 aCosts p3 iAltered iRoads aIsLeft aLengthOf aWorths aMiddles aRankOf aRoadAt aAround aWhole aIsNeeded aLeasts aBusy = some (o_r, o_iAltered, o_aCosts, o_aRankOf, o_aRoadAt, o_aWorths, o_aMiddles, o_aLeasts, o_aBusy, o_aIsLeft, o_aAround, o_aWhole, o_aIsNeeded) → W p l e R s m args below meth c H locs 0 0 Q (F0 m 43 ls []) := by
        intro H locs ls hG hl hk7
        unfold f8_turn_k1 at hk7
        refine lv_aload_n hx hb dX8_turn_43 rfl (lv_at hl 0 rfl) ?_
        refine g_get (v := .ref (q 5)) X hT hG fl_X8_22 0 rfl rfl rfl dX8_turn_44 ?_
        refine lv_bipush (v := 12) hx hb dX8_turn_47 (by decide) ?_
        refine lv_iload_n hx hb dX8_turn_49 rfl (lv_at hl 1 rfl) ?_
        refine lv_imul hx hb dX8_turn_50 ?_
        refine lv_iload_n hx hb dX8_turn_51 rfl (lv_at hl 2 rfl) ?_
        refine lv_iadd hx hb dX8_turn_52 ?_
        obtain ⟨hi8, hk7⟩ := ckin_some hk7
        refine g_ald (f := aCosts) X hT hG 5 rfl rfl hi8 dX8_turn_53 ?_
        refine lv_topi (fun x4_9 ex4_9 => ?_)
        have hk7 := bd_e ex4_9 hk7
        refine lv_istore (lv' := [(4, .int x4_9), (0, .ref (q 0)), (1, .int p1), (2, .int p2), (3, .int p3)]) hx hb dX8_turn_54 hl (by decide) rfl (fun ls hl => ?_)
        refine lv_aload_n hx hb dX8_turn_56 rfl (lv_at hl 1 rfl) ?_
        refine g_get (v := .ref (q 5)) X hT hG fl_X8_22 0 rfl rfl rfl dX8_turn_57 ?_
        refine lv_bipush (v := 12) hx hb dX8_turn_60 (by decide) ?_
        refine lv_iload_n hx hb dX8_turn_62 rfl (lv_at hl 2 rfl) ?_
        refine lv_imul hx hb dX8_turn_63 ?_
        refine lv_iload_n hx hb dX8_turn_64 rfl (lv_at hl 3 rfl) ?_
        refine lv_iadd hx hb dX8_turn_65 ?_
        refine lv_iload_n hx hb dX8_turn_66 rfl (lv_at hl 4 rfl) ?_
        obtain ⟨hi10, hk7⟩ := ckin_some hk7
        obtain ⟨aCosts_11, eaCosts_11⟩ : ∃ z : Nat → Int32, z = upd aCosts ((12 * p1) + p2).toNatClampNeg p3 := ⟨_, rfl⟩
        have hk7 := bd_e eaCosts_11 hk7
        refine g_ast (w' := ([iPageLength, iRoads, iRead, iAltered, iRanked, iStage, iFigures, iNewRoads, iTold, iRouted, iRouteSum], [jH], [aPage, aBeginOf, aEndOf, aLengthOf, aCosts_11, aRankOf, aRoadAt, aWorths, aMiddles, aLeasts, aBusy, aNewBegin, aNewEnd, aNewLength, aIsLeft, aAround, aWhole, aIsNeeded, aWereRanks, aWaitFrom, aWaitTo, aToldAt, aRisen, aUps, aTried, aRoutes])) X hT hq hG 5 rfl ga_M_aCosts (Nat.le_of_ble_eq_true rfl) hi10 (by subst eaCosts_11; rfl) dX8_turn_67 (fun H locs hG => ?_)
        refine lv_aload_n hx hb dX8_turn_68 rfl (lv_at hl 1 rfl) ?_
        obtain ⟨iAltered_12, aRankOf_13, aRoadAt_14, aWorths_15, aMiddles_16, aLeasts_17, aBusy_18, aIsLeft_19, aAround_20, aWhole_21, aIsNeeded_22, ec23, hk7⟩ := bnd11_some hk7
        refine g_callVv [] [] 0 X hT hG ml_X8_177 (c_X8_alter hq ec23) rfl rfl rfl rfl rfl hl.1 (Nat.le_of_ble_eq_true rfl) (by rw [hR]; exact ⟨Nat.le_of_ble_eq_true rfl, Nat.le_of_ble_eq_true rfl⟩) dX8_turn_69 (fun H locs hG => ?_)
        have hG : GH D cI cZ layM q s ([iPageLength, iRoads, iRead, iAltered_12, iRanked, iStage, iFigures, iNewRoads, iTold, iRouted, iRouteSum], [jH], [aPage, aBeginOf, aEndOf, aLengthOf, aCosts_11, aRankOf_13, aRoadAt_14, aWorths_15, aMiddles_16, aLeasts_17, aBusy_18, aNewBegin, aNewEnd, aNewLength, aIsLeft_19, aAround_20, aWhole_21, aIsNeeded_22, aWereRanks, aWaitFrom, aWaitTo, aToldAt, aRisen, aUps, aTried, aRoutes]) H locs := hG
        refine lv_iload hx hb dX8_turn_72 (lv_at hl 0 rfl) ?_
        cases hk7
        rw [hQ]
        exact g_iret X hT hG hr hlk dX8_turn_74
      refine lv_icmp_eq (tgt := 43) hx hb dX8_turn_27 (by decide) (fun cb24 => ?_) (fun cb24 => ?_)
      · have h := ite_t cb24 h
        exact K7 H locs ls hG (lv_sub hl [0, 1, 2, 3] rfl) h
      · have h := ite_f cb24 h
        refine lv_iload_n hx hb dX8_turn_30 rfl (lv_at hl 3 rfl) ?_
        refine lv_iconst (v := 0) hx hb dX8_turn_31 (by decide) ?_
        refine lv_bipush (v := 50) hx hb dX8_turn_32 (by decide) ?_
        obtain ⟨r_25, ec26, h⟩ := bnd1_some h
        refine g_callSr [.int p3, .int 0, .int 50] [] X hT hG ml_X8_89 (c_X8_within hq ec26) rfl rfl hl.1 (Nat.le_of_ble_eq_true rfl) (by rw [hR]; exact ⟨Nat.le_of_ble_eq_true rfl, Nat.le_of_ble_eq_true rfl⟩) dX8_turn_34 (fun H locs hG => ?_)
        refine lv_if_ne (tgt := 43) hx hb dX8_turn_37 (by decide) (fun cb27 => ?_) (fun cb27 => ?_)
        · have h := ite_f cb27 h
          exact K7 H locs ls hG (lv_sub hl [0, 1, 2, 3] rfl) h
        · have h := ite_t cb27 h
          refine lv_bipush (v := (-102)) hx hb dX8_turn_40 (by decide) ?_
          cases h
          rw [hQ]
          exact g_iret X hT hG hr hlk dX8_turn_42
    · have h := ite_t cb6 h
      refine lv_bipush (v := (-103)) hx hb dX8_turn_21 (by decide) ?_
      cases h
      rw [hQ]
      exact g_iret X hT hG hr hlk dX8_turn_23
  · have h := ite_t cb3 h
    refine lv_bipush (v := (-101)) hx hb dX8_turn_9 (by decide) ?_
    cases h
    rw [hQ]
    exact g_iret X hT hG hr hlk dX8_turn_11
def f8_rank_b1 (iRoads : Int32) (aRankOf : (Nat → Int32)) (x1_1 : Int32) (aWereRanks_2 : (Nat → Int32)) : Option ((Int32 × (Nat → Int32)) ⊕ ((Nat → Int32))) :=
  if iRoads ≤ x1_1 then (some (.inr aWereRanks_2)) else ckin x1_1 12 (ckin x1_1 12 (bd (upd aWereRanks_2 x1_1.toNatClampNeg (aRankOf x1_1.toNatClampNeg)) fun aWereRanks_8 => bd (x1_1 + 1) fun x1_9 => some (.inl (x1_9, aWereRanks_8))))
def f8_rank_b2 (iRoads : Int32) (aWereRanks_3 : (Nat → Int32)) (aRankOf_10 : (Nat → Int32)) (x1_20 : Int32) (x2_21 : Int32) : Option ((Int32 × Int32) ⊕ (Int32)) :=
  if iRoads ≤ x2_21 then (some (.inr x1_20)) else ckin x2_21 12 (ckin x2_21 12 (bnd1 (if (aWereRanks_3 x2_21.toNatClampNeg) = (aRankOf_10 x2_21.toNatClampNeg) then (some 0) else some 1) fun (y_27 : Int32) => bd ((x1_20 + y_27)) fun x1_30 => bd (x2_21 + 1) fun x2_31 => some (.inl (x1_30, x2_31))))
def f8_rank (fu : Nat) (iRoads : Int32) (aRankOf : (Nat → Int32)) (aWereRanks : (Nat → Int32)) (aIsLeft : (Nat → Int32)) (aCosts : (Nat → Int32)) (aLengthOf : (Nat → Int32)) (aWorths : (Nat → Int32)) (aMiddles : (Nat → Int32)) (aRoadAt : (Nat → Int32)) (aAround : (Nat → Int32)) (aWhole : (Nat → Int32)) (aIsNeeded : (Nat → Int32)) (iRanked : Int32) : Option (Int32 × Int32 × (Nat → Int32) × (Nat → Int32) × (Nat → Int32) × (Nat → Int32) × (Nat → Int32) × (Nat → Int32) × (Nat → Int32) × (Nat → Int32) × (Nat → Int32)) :=
  bnd1 (lpG (fun z => f8_rank_b1 iRoads aRankOf z.1 z.2) fu ((0 : Int32), aWereRanks)) fun (aWereRanks_3 : (Nat → Int32)) => bnd8 (f8_findOrder fu iRoads aIsLeft aCosts aLengthOf aWorths aMiddles aRankOf aRoadAt aAround aWhole aIsNeeded) fun (aRankOf_10 : (Nat → Int32)) (aRoadAt_11 : (Nat → Int32)) (aWorths_12 : (Nat → Int32)) (aMiddles_13 : (Nat → Int32)) (aIsLeft_14 : (Nat → Int32)) (aAround_15 : (Nat → Int32)) (aWhole_16 : (Nat → Int32)) (aIsNeeded_17 : (Nat → Int32)) => bd ((iRanked + 1)) fun iRanked_19 => bnd1 (lpG (fun z => f8_rank_b2 iRoads aWereRanks_3 aRankOf_10 z.1 z.2) fu ((0 : Int32), (0 : Int32))) fun (x1_22 : Int32) => some (x1_22, iRanked_19, aRankOf_10, aRoadAt_11, aWorths_12, aMiddles_13, aIsLeft_14, aAround_15, aWhole_16, aIsNeeded_17, aWereRanks_3)
set_option maxHeartbeats 4000000 in
set_option maxRecDepth 100000 in
theorem c_X8_rank (hq : gJ layM q) {fu : Nat} {o_r : Int32} {o_iRanked : Int32} {o_aRankOf : (Nat → Int32)} {o_aRoadAt : (Nat → Int32)} {o_aWorths : (Nat → Int32)} {o_aMiddles : (Nat → Int32)} {o_aIsLeft : (Nat → Int32)} {o_aAround : (Nat → Int32)} {o_aWhole : (Nat → Int32)} {o_aIsNeeded : (Nat → Int32)} {o_aWereRanks : (Nat → Int32)} (h : f8_rank fu iRoads aRankOf aWereRanks aIsLeft aCosts aLengthOf aWorths aMiddles aRoadAt aAround aWhole aIsNeeded iRanked = some (o_r, o_iRanked, o_aRankOf, o_aRoadAt, o_aWorths, o_aMiddles, o_aIsLeft, o_aAround, o_aWhole, o_aIsNeeded, o_aWereRanks)) :
    GM l yX8_rank cX8_rank 3 (some .int) 4 97 D cI cZ layM q [.ref (q 0)] ([iPageLength, iRoads, iRead, iAltered, iRanked, iStage, iFigures, iNewRoads, iTold, iRouted, iRouteSum], [jH], [aPage, aBeginOf, aEndOf, aLengthOf, aCosts, aRankOf, aRoadAt, aWorths, aMiddles, aLeasts, aBusy, aNewBegin, aNewEnd, aNewLength, aIsLeft, aAround, aWhole, aIsNeeded, aWereRanks, aWaitFrom, aWaitTo, aToldAt, aRisen, aUps, aTried, aRoutes]) (some (.int o_r)) ([iPageLength, iRoads, iRead, iAltered, o_iRanked, iStage, iFigures, iNewRoads, iTold, iRouted, iRouteSum], [jH], [aPage, aBeginOf, aEndOf, aLengthOf, aCosts, o_aRankOf, o_aRoadAt, o_aWorths, o_aMiddles, aLeasts, aBusy, aNewBegin, aNewEnd, aNewLength, o_aIsLeft, o_aAround, o_aWhole, o_aIsNeeded, o_aWereRanks, aWaitFrom, aWaitTo, aToldAt, aRisen, aUps, aTried, aRoutes]) := by
  refine GM.go RX8 (by decide) rfl (Nat.le_of_ble_eq_true rfl) ?_
  intro p e s m args below meth c ls R Q H locs X hr hlk hT hG hl hR hQ
  have hx := X.1
  have hb := X.2.1
  have hl : lv_has ls 3 [(0, .ref (q 0))] := hl
  unfold f8_rank at h
  refine lv_iconst (v := 0) hx hb dX8_rank_0 (by decide) ?_
  refine lv_istore_n (lv' := [(1, .int 0), (0, .ref (q 0))]) hx hb dX8_rank_1 rfl hl (by decide) rfl (fun ls hl => ?_)
  obtain ⟨aWereRanks_3, eL4, h⟩ := bnd1_some h
  have JX4 : ∀ (H : Heap) (locs : List Loc) (ls : Array Slot), GH D cI cZ layM q s ([iPageLength, iRoads, iRead, iAltered, iRanked, iStage, iFigures, iNewRoads, iTold, iRouted, iRouteSum], [jH], [aPage, aBeginOf, aEndOf, aLengthOf, aCosts, aRankOf, aRoadAt, aWorths, aMiddles, aLeasts, aBusy, aNewBegin, aNewEnd, aNewLength, aIsLeft, aAround, aWhole, aIsNeeded, aWereRanks_3, aWaitFrom, aWaitTo, aToldAt, aRisen, aUps, aTried, aRoutes]) H locs → lv_has ls 3 [(0, .ref (q 0))] → W p l e R s m args below meth c H locs 0 0 Q (F0 m 28 ls []) := by
    intro H locs ls hG hl
    refine lv_aload_n hx hb dX8_rank_28 rfl (lv_at hl 0 rfl) ?_
    obtain ⟨aRankOf_10, aRoadAt_11, aWorths_12, aMiddles_13, aIsLeft_14, aAround_15, aWhole_16, aIsNeeded_17, ec18, h⟩ := bnd8_some h
    refine g_callVv [] [] 0 X hT hG ml_X8_123 (c_X8_findOrder hq ec18) rfl rfl rfl rfl rfl hl.1 (Nat.le_of_ble_eq_true rfl) (by rw [hR]; exact ⟨Nat.le_of_ble_eq_true rfl, Nat.le_of_ble_eq_true rfl⟩) dX8_rank_29 (fun H locs hG => ?_)
    have hG : GH D cI cZ layM q s ([iPageLength, iRoads, iRead, iAltered, iRanked, iStage, iFigures, iNewRoads, iTold, iRouted, iRouteSum], [jH], [aPage, aBeginOf, aEndOf, aLengthOf, aCosts, aRankOf_10, aRoadAt_11, aWorths_12, aMiddles_13, aLeasts, aBusy, aNewBegin, aNewEnd, aNewLength, aIsLeft_14, aAround_15, aWhole_16, aIsNeeded_17, aWereRanks_3, aWaitFrom, aWaitTo, aToldAt, aRisen, aUps, aTried, aRoutes]) H locs := hG
    refine lv_aload_n hx hb dX8_rank_32 rfl (lv_at hl 0 rfl) ?_
    refine lv_dup hx hb dX8_rank_33 rfl ?_
    refine g_get (v := .int iRanked) X hT hG fl_X8_186 0 rfl rfl rfl dX8_rank_34 ?_
    refine lv_iconst (v := 1) hx hb dX8_rank_37 (by decide) ?_
    refine lv_iadd hx hb dX8_rank_38 ?_
    refine lv_topi (fun iRanked_19 eiRanked_19 => ?_)
    have h := bd_e eiRanked_19 h
    refine g_putI (w' := ([iPageLength, iRoads, iRead, iAltered, iRanked_19, iStage, iFigures, iNewRoads, iTold, iRouted, iRouteSum], [jH], [aPage, aBeginOf, aEndOf, aLengthOf, aCosts, aRankOf_10, aRoadAt_11, aWorths_12, aMiddles_13, aLeasts, aBusy, aNewBegin, aNewEnd, aNewLength, aIsLeft_14, aAround_15, aWhole_16, aIsNeeded_17, aWereRanks_3, aWaitFrom, aWaitTo, aToldAt, aRisen, aUps, aTried, aRoutes])) X hT hq hG fp_X8_186 0 rfl rfl gu_M_iRanked (Nat.le_of_ble_eq_true rfl) rfl dX8_rank_39 (fun H locs hG => ?_)
    refine lv_iconst (v := 0) hx hb dX8_rank_42 (by decide) ?_
    refine lv_istore_n (lv' := [(1, .int 0), (0, .ref (q 0))]) hx hb dX8_rank_43 rfl hl (by decide) rfl (fun ls hl => ?_)
    refine lv_iconst (v := 0) hx hb dX8_rank_44 (by decide) ?_
    refine lv_istore_n (lv' := [(2, .int 0), (1, .int 0), (0, .ref (q 0))]) hx hb dX8_rank_45 rfl hl (by decide) rfl (fun ls hl => ?_)
    obtain ⟨x1_22, eL23, h⟩ := bnd1_some h
    have JX23 : ∀ (H : Heap) (locs : List Loc) (ls : Array Slot), GH D cI cZ layM q s ([iPageLength, iRoads, iRead, iAltered, iRanked_19, iStage, iFigures, iNewRoads, iTold, iRouted, iRouteSum], [jH], [aPage, aBeginOf, aEndOf, aLengthOf, aCosts, aRankOf_10, aRoadAt_11, aWorths_12, aMiddles_13, aLeasts, aBusy, aNewBegin, aNewEnd, aNewLength, aIsLeft_14, aAround_15, aWhole_16, aIsNeeded_17, aWereRanks_3, aWaitFrom, aWaitTo, aToldAt, aRisen, aUps, aTried, aRoutes]) H locs → lv_has ls 3 [(1, .int x1_22)] → W p l e R s m args below meth c H locs 0 0 Q (F0 m 83 ls []) := by
      intro H locs ls hG hl
      refine lv_iload_n hx hb dX8_rank_83 rfl (lv_at hl 0 rfl) ?_
      cases h
      rw [hQ]
      exact g_iret X hT hG hr hlk dX8_rank_84
    refine lpG_W (Wh := fun z => ∀ (H : Heap) (locs : List Loc) (ls : Array Slot), GH D cI cZ layM q s ([iPageLength, iRoads, iRead, iAltered, iRanked_19, iStage, iFigures, iNewRoads, iTold, iRouted, iRouteSum], [jH], [aPage, aBeginOf, aEndOf, aLengthOf, aCosts, aRankOf_10, aRoadAt_11, aWorths_12, aMiddles_13, aLeasts, aBusy, aNewBegin, aNewEnd, aNewLength, aIsLeft_14, aAround_15, aWhole_16, aIsNeeded_17, aWereRanks_3, aWaitFrom, aWaitTo, aToldAt, aRisen, aUps, aTried, aRoutes]) H locs → lv_has ls 3 [(0, .ref (q 0)), (1, .int (z.1)), (2, .int (z.2))] → W p l e R s m args below meth c H locs 0 0 Q (F0 m 46 ls [])) ?_ fu _ eL23 H locs ls hG (lv_sub hl [2, 1, 0] rfl)
    intro z rr23 hb23 hin23 hout23
    obtain ⟨x1_20, x2_21⟩ := z
    intro H locs ls hG hl
    have hb23 : f8_rank_b2 iRoads aWereRanks_3 aRankOf_10 x1_20 x2_21 = some rr23 := hb23
    have hG : GH D cI cZ layM q s ([iPageLength, iRoads, iRead, iAltered, iRanked_19, iStage, iFigures, iNewRoads, iTold, iRouted, iRouteSum], [jH], [aPage, aBeginOf, aEndOf, aLengthOf, aCosts, aRankOf_10, aRoadAt_11, aWorths_12, aMiddles_13, aLeasts, aBusy, aNewBegin, aNewEnd, aNewLength, aIsLeft_14, aAround_15, aWhole_16, aIsNeeded_17, aWereRanks_3, aWaitFrom, aWaitTo, aToldAt, aRisen, aUps, aTried, aRoutes]) H locs := hG
    have hl : lv_has ls 3 [(0, .ref (q 0)), (1, .int x1_20), (2, .int x2_21)] := hl
    unfold f8_rank_b2 at hb23
    refine lv_iload_n hx hb dX8_rank_46 rfl (lv_at hl 2 rfl) ?_
    refine lv_aload_n hx hb dX8_rank_47 rfl (lv_at hl 0 rfl) ?_
    refine g_get (v := .int iRoads) X hT hG fl_X8_120 0 rfl rfl rfl dX8_rank_48 ?_
    refine lv_icmp_ge (tgt := 83) hx hb dX8_rank_51 (by decide) (fun cb24 => ?_) (fun cb24 => ?_)
    · have hb23 := ite_t cb24 hb23
      have eo := hout23 _ (Option.some.inj hb23).symm
      cases eo
      exact JX23 H locs ls hG (lv_sub hl [1] rfl)
    · have hb23 := ite_f cb24 hb23
      refine lv_iload_n hx hb dX8_rank_54 rfl (lv_at hl 1 rfl) ?_
      refine lv_aload_n hx hb dX8_rank_55 rfl (lv_at hl 0 rfl) ?_
      refine g_get (v := .ref (q 19)) X hT hG fl_X8_65 0 rfl rfl rfl dX8_rank_56 ?_
      refine lv_iload_n hx hb dX8_rank_59 rfl (lv_at hl 2 rfl) ?_
      obtain ⟨hi25, hb23⟩ := ckin_some hb23
      refine g_ald (f := aWereRanks_3) X hT hG 19 rfl rfl hi25 dX8_rank_60 ?_
      refine lv_aload_n hx hb dX8_rank_61 rfl (lv_at hl 0 rfl) ?_
      refine g_get (v := .ref (q 6)) X hT hG fl_X8_25 0 rfl rfl rfl dX8_rank_62 ?_
      refine lv_iload_n hx hb dX8_rank_65 rfl (lv_at hl 2 rfl) ?_
      obtain ⟨hi26, hb23⟩ := ckin_some hb23
      refine g_ald (f := aRankOf_10) X hT hG 6 rfl rfl hi26 dX8_rank_66 ?_
      obtain ⟨y_27, er28, hb23⟩ := bnd1_some hb23
      have J28 : ∀ (H : Heap) (locs : List Loc) (ls : Array Slot), GH D cI cZ layM q s ([iPageLength, iRoads, iRead, iAltered, iRanked_19, iStage, iFigures, iNewRoads, iTold, iRouted, iRouteSum], [jH], [aPage, aBeginOf, aEndOf, aLengthOf, aCosts, aRankOf_10, aRoadAt_11, aWorths_12, aMiddles_13, aLeasts, aBusy, aNewBegin, aNewEnd, aNewLength, aIsLeft_14, aAround_15, aWhole_16, aIsNeeded_17, aWereRanks_3, aWaitFrom, aWaitTo, aToldAt, aRisen, aUps, aTried, aRoutes]) H locs → lv_has ls 3 [(0, .ref (q 0)), (2, .int x2_21)] → W p l e R s m args below meth c H locs 0 0 Q (F0 m 75 ls [.int y_27, .int x1_20]) := by
        intro H locs ls hG hl
        refine lv_iadd hx hb dX8_rank_75 ?_
        refine lv_topi (fun x1_30 ex1_30 => ?_)
        have hb23 := bd_e ex1_30 hb23
        refine lv_istore_n (lv' := [(1, .int x1_30), (0, .ref (q 0)), (2, .int x2_21)]) hx hb dX8_rank_76 rfl hl (by decide) rfl (fun ls hl => ?_)
        obtain ⟨x2_31, ex2_31⟩ : ∃ z : Int32, z = x2_21 + 1 := ⟨_, rfl⟩
        have hb23 := bd_e ex2_31 hb23
        refine lv_iinc (v := x2_31) (lv' := [(2, .int x2_31), (1, .int x1_30), (0, .ref (q 0))]) hx hb dX8_rank_77 hl (k := 2) rfl (by rw [ex2_31]; rfl) (by decide) rfl (fun ls hl => ?_)
        refine lv_goto (tgt := 46) hx hb dX8_rank_80 (by decide) ?_
        exact hin23 _ (Option.some.inj hb23).symm H locs ls hG (lv_sub hl [2, 1, 0] rfl)
      refine lv_icmp_ne (tgt := 74) hx hb dX8_rank_67 (by decide) (fun cb29 => ?_) (fun cb29 => ?_)
      · have er28 := ite_f cb29 er28
        refine lv_iconst (v := 1) hx hb dX8_rank_74 (by decide) ?_
        cases er28
        exact J28 H locs ls hG (lv_sub hl [0, 2] rfl)
      · have er28 := ite_t cb29 er28
        refine lv_iconst (v := 0) hx hb dX8_rank_70 (by decide) ?_
        refine lv_goto (tgt := 75) hx hb dX8_rank_71 (by decide) ?_
        cases er28
        exact J28 H locs ls hG (lv_sub hl [0, 2] rfl)
  refine lpG_W (Wh := fun z => ∀ (H : Heap) (locs : List Loc) (ls : Array Slot), GH D cI cZ layM q s ([iPageLength, iRoads, iRead, iAltered, iRanked, iStage, iFigures, iNewRoads, iTold, iRouted, iRouteSum], [jH], [aPage, aBeginOf, aEndOf, aLengthOf, aCosts, aRankOf, aRoadAt, aWorths, aMiddles, aLeasts, aBusy, aNewBegin, aNewEnd, aNewLength, aIsLeft, aAround, aWhole, aIsNeeded, z.2, aWaitFrom, aWaitTo, aToldAt, aRisen, aUps, aTried, aRoutes]) H locs → lv_has ls 3 [(0, .ref (q 0)), (1, .int (z.1))] → W p l e R s m args below meth c H locs 0 0 Q (F0 m 2 ls [])) ?_ fu _ eL4 H locs ls hG (lv_sub hl [1, 0] rfl)
  intro z rr4 hb4 hin4 hout4
  obtain ⟨x1_1, aWereRanks_2⟩ := z
  intro H locs ls hG hl
  have hb4 : f8_rank_b1 iRoads aRankOf x1_1 aWereRanks_2 = some rr4 := hb4
  have hG : GH D cI cZ layM q s ([iPageLength, iRoads, iRead, iAltered, iRanked, iStage, iFigures, iNewRoads, iTold, iRouted, iRouteSum], [jH], [aPage, aBeginOf, aEndOf, aLengthOf, aCosts, aRankOf, aRoadAt, aWorths, aMiddles, aLeasts, aBusy, aNewBegin, aNewEnd, aNewLength, aIsLeft, aAround, aWhole, aIsNeeded, aWereRanks_2, aWaitFrom, aWaitTo, aToldAt, aRisen, aUps, aTried, aRoutes]) H locs := hG
  have hl : lv_has ls 3 [(0, .ref (q 0)), (1, .int x1_1)] := hl
  unfold f8_rank_b1 at hb4
  refine lv_iload_n hx hb dX8_rank_2 rfl (lv_at hl 1 rfl) ?_
  refine lv_aload_n hx hb dX8_rank_3 rfl (lv_at hl 0 rfl) ?_
  refine g_get (v := .int iRoads) X hT hG fl_X8_120 0 rfl rfl rfl dX8_rank_4 ?_
  refine lv_icmp_ge (tgt := 28) hx hb dX8_rank_7 (by decide) (fun cb5 => ?_) (fun cb5 => ?_)
  · have hb4 := ite_t cb5 hb4
    have eo := hout4 _ (Option.some.inj hb4).symm
    cases eo
    exact JX4 H locs ls hG (lv_sub hl [0] rfl)
  · have hb4 := ite_f cb5 hb4
    refine lv_aload_n hx hb dX8_rank_10 rfl (lv_at hl 0 rfl) ?_
    refine g_get (v := .ref (q 19)) X hT hG fl_X8_65 0 rfl rfl rfl dX8_rank_11 ?_
    refine lv_iload_n hx hb dX8_rank_14 rfl (lv_at hl 1 rfl) ?_
    refine lv_aload_n hx hb dX8_rank_15 rfl (lv_at hl 0 rfl) ?_
    refine g_get (v := .ref (q 6)) X hT hG fl_X8_25 0 rfl rfl rfl dX8_rank_16 ?_
    refine lv_iload_n hx hb dX8_rank_19 rfl (lv_at hl 1 rfl) ?_
    obtain ⟨hi6, hb4⟩ := ckin_some hb4
    refine g_ald (f := aRankOf) X hT hG 6 rfl rfl hi6 dX8_rank_20 ?_
    obtain ⟨hi7, hb4⟩ := ckin_some hb4
    obtain ⟨aWereRanks_8, eaWereRanks_8⟩ : ∃ z : Nat → Int32, z = upd aWereRanks_2 x1_1.toNatClampNeg (aRankOf x1_1.toNatClampNeg) := ⟨_, rfl⟩
    have hb4 := bd_e eaWereRanks_8 hb4
    refine g_ast (w' := ([iPageLength, iRoads, iRead, iAltered, iRanked, iStage, iFigures, iNewRoads, iTold, iRouted, iRouteSum], [jH], [aPage, aBeginOf, aEndOf, aLengthOf, aCosts, aRankOf, aRoadAt, aWorths, aMiddles, aLeasts, aBusy, aNewBegin, aNewEnd, aNewLength, aIsLeft, aAround, aWhole, aIsNeeded, aWereRanks_8, aWaitFrom, aWaitTo, aToldAt, aRisen, aUps, aTried, aRoutes])) X hT hq hG 19 rfl ga_M_aWereRanks (Nat.le_of_ble_eq_true rfl) hi7 (by subst eaWereRanks_8; rfl) dX8_rank_21 (fun H locs hG => ?_)
    obtain ⟨x1_9, ex1_9⟩ : ∃ z : Int32, z = x1_1 + 1 := ⟨_, rfl⟩
    have hb4 := bd_e ex1_9 hb4
    refine lv_iinc (v := x1_9) (lv' := [(1, .int x1_9), (0, .ref (q 0))]) hx hb dX8_rank_22 hl (k := 1) rfl (by rw [ex1_9]; rfl) (by decide) rfl (fun ls hl => ?_)
    refine lv_goto (tgt := 2) hx hb dX8_rank_25 (by decide) ?_
    exact hin4 _ (Option.some.inj hb4).symm H locs ls hG (lv_sub hl [1, 0] rfl)
def f8_middleOf_b1 (iRoads : Int32) (aWorths : (Nat → Int32)) (aMiddles : (Nat → Int32)) (p1 : Int32) (x2_1 : Int32) (x3_2 : Int32) : Option ((Int32 × Int32) ⊕ (Int32)) :=
  if (iRoads * iRoads) ≤ x3_2 then (some (.inr x2_1)) else ckz iRoads (ckz iRoads (bd (((12 * (x3_2 / iRoads)) + (x3_2 - x3_2 / iRoads * iRoads))) fun x4_8 => ckin x4_8 144 (bnd1 (if 268435456 ≤ (aWorths x4_8.toNatClampNeg) then (some 0) else ckin x4_8 144 (if (aMiddles x4_8.toNatClampNeg) = p1 then (some 1) else some 0)) fun (y_10 : Int32) => bd ((x2_1 + y_10)) fun x2_15 => bd (x3_2 + 1) fun x3_16 => some (.inl (x2_15, x3_16)))))
def f8_middleOf (fu : Nat) (iRoads : Int32) (aWorths : (Nat → Int32)) (aMiddles : (Nat → Int32)) (p1 : Int32) : Option (Int32) :=
  bnd1 (lpG (fun z => f8_middleOf_b1 iRoads aWorths aMiddles p1 z.1 z.2) fu ((0 : Int32), (0 : Int32))) fun (x2_3 : Int32) => some x2_3
set_option maxHeartbeats 4000000 in
set_option maxRecDepth 100000 in
theorem c_X8_middleOf (hq : gJ layM q) {fu : Nat} {p1 : Int32} {o_r : Int32} (h : f8_middleOf fu iRoads aWorths aMiddles p1 = some o_r) :
    GM l yX8_middleOf cX8_middleOf 5 (some .int) 0 0 D cI cZ layM q [.ref (q 0), .int p1] ([iPageLength, iRoads, iRead, iAltered, iRanked, iStage, iFigures, iNewRoads, iTold, iRouted, iRouteSum], [jH], [aPage, aBeginOf, aEndOf, aLengthOf, aCosts, aRankOf, aRoadAt, aWorths, aMiddles, aLeasts, aBusy, aNewBegin, aNewEnd, aNewLength, aIsLeft, aAround, aWhole, aIsNeeded, aWereRanks, aWaitFrom, aWaitTo, aToldAt, aRisen, aUps, aTried, aRoutes]) (some (.int o_r)) ([iPageLength, iRoads, iRead, iAltered, iRanked, iStage, iFigures, iNewRoads, iTold, iRouted, iRouteSum], [jH], [aPage, aBeginOf, aEndOf, aLengthOf, aCosts, aRankOf, aRoadAt, aWorths, aMiddles, aLeasts, aBusy, aNewBegin, aNewEnd, aNewLength, aIsLeft, aAround, aWhole, aIsNeeded, aWereRanks, aWaitFrom, aWaitTo, aToldAt, aRisen, aUps, aTried, aRoutes]) := by
  refine GM.go RX8 (by decide) rfl (Nat.le_of_ble_eq_true rfl) ?_
  intro p e s m args below meth c ls R Q H locs X hr hlk hT hG hl hR hQ
  have hx := X.1
  have hb := X.2.1
  have hl : lv_has ls 5 [(0, .ref (q 0)), (1, .int p1)] := hl
  unfold f8_middleOf at h
  refine lv_iconst (v := 0) hx hb dX8_middleOf_0 (by decide) ?_
  refine lv_istore_n (lv' := [(2, .int 0), (0, .ref (q 0)), (1, .int p1)]) hx hb dX8_middleOf_1 rfl hl (by decide) rfl (fun ls hl => ?_)
  refine lv_iconst (v := 0) hx hb dX8_middleOf_2 (by decide) ?_
  refine lv_istore_n (lv' := [(3, .int 0), (2, .int 0), (0, .ref (q 0)), (1, .int p1)]) hx hb dX8_middleOf_3 rfl hl (by decide) rfl (fun ls hl => ?_)
  obtain ⟨x2_3, eL4, h⟩ := bnd1_some h
  have JX4 : ∀ (H : Heap) (locs : List Loc) (ls : Array Slot), GH D cI cZ layM q s ([iPageLength, iRoads, iRead, iAltered, iRanked, iStage, iFigures, iNewRoads, iTold, iRouted, iRouteSum], [jH], [aPage, aBeginOf, aEndOf, aLengthOf, aCosts, aRankOf, aRoadAt, aWorths, aMiddles, aLeasts, aBusy, aNewBegin, aNewEnd, aNewLength, aIsLeft, aAround, aWhole, aIsNeeded, aWereRanks, aWaitFrom, aWaitTo, aToldAt, aRisen, aUps, aTried, aRoutes]) H locs → lv_has ls 5 [(2, .int x2_3)] → W p l e R s m args below meth c H locs 0 0 Q (F0 m 72 ls []) := by
    intro H locs ls hG hl
    refine lv_iload_n hx hb dX8_middleOf_72 rfl (lv_at hl 0 rfl) ?_
    cases h
    rw [hQ]
    exact g_iret X hT hG hr hlk dX8_middleOf_73
  refine lpG_W (Wh := fun z => ∀ (H : Heap) (locs : List Loc) (ls : Array Slot), GH D cI cZ layM q s ([iPageLength, iRoads, iRead, iAltered, iRanked, iStage, iFigures, iNewRoads, iTold, iRouted, iRouteSum], [jH], [aPage, aBeginOf, aEndOf, aLengthOf, aCosts, aRankOf, aRoadAt, aWorths, aMiddles, aLeasts, aBusy, aNewBegin, aNewEnd, aNewLength, aIsLeft, aAround, aWhole, aIsNeeded, aWereRanks, aWaitFrom, aWaitTo, aToldAt, aRisen, aUps, aTried, aRoutes]) H locs → lv_has ls 5 [(0, .ref (q 0)), (1, .int p1), (2, .int (z.1)), (3, .int (z.2))] → W p l e R s m args below meth c H locs 0 0 Q (F0 m 4 ls [])) ?_ fu _ eL4 H locs ls hG (lv_sub hl [2, 3, 1, 0] rfl)
  intro z rr4 hb4 hin4 hout4
  obtain ⟨x2_1, x3_2⟩ := z
  intro H locs ls hG hl
  have hb4 : f8_middleOf_b1 iRoads aWorths aMiddles p1 x2_1 x3_2 = some rr4 := hb4
  have hG : GH D cI cZ layM q s ([iPageLength, iRoads, iRead, iAltered, iRanked, iStage, iFigures, iNewRoads, iTold, iRouted, iRouteSum], [jH], [aPage, aBeginOf, aEndOf, aLengthOf, aCosts, aRankOf, aRoadAt, aWorths, aMiddles, aLeasts, aBusy, aNewBegin, aNewEnd, aNewLength, aIsLeft, aAround, aWhole, aIsNeeded, aWereRanks, aWaitFrom, aWaitTo, aToldAt, aRisen, aUps, aTried, aRoutes]) H locs := hG
  have hl : lv_has ls 5 [(0, .ref (q 0)), (1, .int p1), (2, .int x2_1), (3, .int x3_2)] := hl
  unfold f8_middleOf_b1 at hb4
  refine lv_iload_n hx hb dX8_middleOf_4 rfl (lv_at hl 3 rfl) ?_
  refine lv_aload_n hx hb dX8_middleOf_5 rfl (lv_at hl 0 rfl) ?_
  refine g_get (v := .int iRoads) X hT hG fl_X8_120 0 rfl rfl rfl dX8_middleOf_6 ?_
  refine lv_aload_n hx hb dX8_middleOf_9 rfl (lv_at hl 0 rfl) ?_
  refine g_get (v := .int iRoads) X hT hG fl_X8_120 0 rfl rfl rfl dX8_middleOf_10 ?_
  refine lv_imul hx hb dX8_middleOf_13 ?_
  refine lv_icmp_ge (tgt := 72) hx hb dX8_middleOf_14 (by decide) (fun cb5 => ?_) (fun cb5 => ?_)
  · have hb4 := ite_t cb5 hb4
    have eo := hout4 _ (Option.some.inj hb4).symm
    cases eo
    exact JX4 H locs ls hG (lv_sub hl [2] rfl)
  · have hb4 := ite_f cb5 hb4
    refine lv_bipush (v := 12) hx hb dX8_middleOf_17 (by decide) ?_
    refine lv_iload_n hx hb dX8_middleOf_19 rfl (lv_at hl 3 rfl) ?_
    refine lv_aload_n hx hb dX8_middleOf_20 rfl (lv_at hl 0 rfl) ?_
    refine g_get (v := .int iRoads) X hT hG fl_X8_120 0 rfl rfl rfl dX8_middleOf_21 ?_
    obtain ⟨hz6, hb4⟩ := ckz_some hb4
    refine lv_idiv hx hb dX8_middleOf_24 hz6 ?_
    refine lv_imul hx hb dX8_middleOf_25 ?_
    refine lv_iload_n hx hb dX8_middleOf_26 rfl (lv_at hl 3 rfl) ?_
    refine lv_aload_n hx hb dX8_middleOf_27 rfl (lv_at hl 0 rfl) ?_
    refine g_get (v := .int iRoads) X hT hG fl_X8_120 0 rfl rfl rfl dX8_middleOf_28 ?_
    obtain ⟨hz7, hb4⟩ := ckz_some hb4
    refine lv_irem hx hb dX8_middleOf_31 hz7 ?_
    refine lv_iadd hx hb dX8_middleOf_32 ?_
    refine lv_topi (fun x4_8 ex4_8 => ?_)
    have hb4 := bd_e ex4_8 hb4
    refine lv_istore (lv' := [(4, .int x4_8), (0, .ref (q 0)), (1, .int p1), (2, .int x2_1), (3, .int x3_2)]) hx hb dX8_middleOf_33 hl (by decide) rfl (fun ls hl => ?_)
    refine lv_iload_n hx hb dX8_middleOf_35 rfl (lv_at hl 3 rfl) ?_
    refine lv_aload_n hx hb dX8_middleOf_36 rfl (lv_at hl 1 rfl) ?_
    refine g_get (v := .ref (q 8)) X hT hG fl_X8_31 0 rfl rfl rfl dX8_middleOf_37 ?_
    refine lv_iload hx hb dX8_middleOf_40 (lv_at hl 0 rfl) ?_
    obtain ⟨hi9, hb4⟩ := ckin_some hb4
    refine g_ald (f := aWorths) X hT hG 8 rfl rfl hi9 dX8_middleOf_42 ?_
    refine lv_ldc (v := 268435456) hx hb X.2.2.2.1 (X.2.2.2.2 _ cn_X8_136) dX8_middleOf_43 ?_
    obtain ⟨y_10, er11, hb4⟩ := bnd1_some hb4
    have J11 : ∀ (H : Heap) (locs : List Loc) (ls : Array Slot), GH D cI cZ layM q s ([iPageLength, iRoads, iRead, iAltered, iRanked, iStage, iFigures, iNewRoads, iTold, iRouted, iRouteSum], [jH], [aPage, aBeginOf, aEndOf, aLengthOf, aCosts, aRankOf, aRoadAt, aWorths, aMiddles, aLeasts, aBusy, aNewBegin, aNewEnd, aNewLength, aIsLeft, aAround, aWhole, aIsNeeded, aWereRanks, aWaitFrom, aWaitTo, aToldAt, aRisen, aUps, aTried, aRoutes]) H locs → lv_has ls 5 [(0, .ref (q 0)), (1, .int p1), (3, .int x3_2)] → W p l e R s m args below meth c H locs 0 0 Q (F0 m 64 ls [.int y_10, .int x2_1]) := by
      intro H locs ls hG hl
      refine lv_iadd hx hb dX8_middleOf_64 ?_
      refine lv_topi (fun x2_15 ex2_15 => ?_)
      have hb4 := bd_e ex2_15 hb4
      refine lv_istore_n (lv' := [(2, .int x2_15), (0, .ref (q 0)), (1, .int p1), (3, .int x3_2)]) hx hb dX8_middleOf_65 rfl hl (by decide) rfl (fun ls hl => ?_)
      obtain ⟨x3_16, ex3_16⟩ : ∃ z : Int32, z = x3_2 + 1 := ⟨_, rfl⟩
      have hb4 := bd_e ex3_16 hb4
      refine lv_iinc (v := x3_16) (lv' := [(3, .int x3_16), (2, .int x2_15), (0, .ref (q 0)), (1, .int p1)]) hx hb dX8_middleOf_66 hl (k := 3) rfl (by rw [ex3_16]; rfl) (by decide) rfl (fun ls hl => ?_)
      refine lv_goto (tgt := 4) hx hb dX8_middleOf_69 (by decide) ?_
      exact hin4 _ (Option.some.inj hb4).symm H locs ls hG (lv_sub hl [2, 3, 1, 0] rfl)
    refine lv_icmp_ge (tgt := 63) hx hb dX8_middleOf_45 (by decide) (fun cb12 => ?_) (fun cb12 => ?_)
    · have er11 := ite_t cb12 er11
      refine lv_iconst (v := 0) hx hb dX8_middleOf_63 (by decide) ?_
      cases er11
      exact J11 H locs ls hG (lv_sub hl [1, 2, 4] rfl)
    · have er11 := ite_f cb12 er11
      refine lv_aload_n hx hb dX8_middleOf_48 rfl (lv_at hl 1 rfl) ?_
      refine g_get (v := .ref (q 9)) X hT hG fl_X8_34 0 rfl rfl rfl dX8_middleOf_49 ?_
      refine lv_iload hx hb dX8_middleOf_52 (lv_at hl 0 rfl) ?_
      obtain ⟨hi13, er11⟩ := ckin_some er11
      refine g_ald (f := aMiddles) X hT hG 9 rfl rfl hi13 dX8_middleOf_54 ?_
      refine lv_iload_n hx hb dX8_middleOf_55 rfl (lv_at hl 2 rfl) ?_
      refine lv_icmp_ne (tgt := 63) hx hb dX8_middleOf_56 (by decide) (fun cb14 => ?_) (fun cb14 => ?_)
      · have er11 := ite_f cb14 er11
        refine lv_iconst (v := 0) hx hb dX8_middleOf_63 (by decide) ?_
        cases er11
        exact J11 H locs ls hG (lv_sub hl [1, 2, 4] rfl)
      · have er11 := ite_t cb14 er11
        refine lv_iconst (v := 1) hx hb dX8_middleOf_59 (by decide) ?_
        refine lv_goto (tgt := 64) hx hb dX8_middleOf_60 (by decide) ?_
        cases er11
        exact J11 H locs ls hG (lv_sub hl [1, 2, 4] rfl)
def f8_roadNow (fu : Nat) (p2 : Int32) (p1 : Int32) (aBeginOf : (Nat → Int32)) (aEndOf : (Nat → Int32)) (aLengthOf : (Nat → Int32)) (aRankOf : (Nat → Int32)) (iRoads : Int32) (aWorths : (Nat → Int32)) (aMiddles : (Nat → Int32)) (aBusy : (Nat → Int32)) : Option (Int32) :=
  if p2 = 0 then (ckin p1 12 (some (aBeginOf p1.toNatClampNeg))) else if p2 = 1 then (ckin p1 12 (some (aEndOf p1.toNatClampNeg))) else if p2 = 2 then (ckin p1 12 (some (aLengthOf p1.toNatClampNeg))) else if p2 = 3 then (ckin p1 12 (some (aRankOf p1.toNatClampNeg))) else if p2 = 4 then (bnd1 (f8_middleOf fu iRoads aWorths aMiddles p1) fun (r_10 : Int32) => some r_10) else ckin p1 12 (some (aBusy p1.toNatClampNeg))
set_option maxHeartbeats 4000000 in
set_option maxRecDepth 100000 in
theorem c_X8_roadNow (hq : gJ layM q) {fu : Nat} {p1 : Int32} {p2 : Int32} {o_r : Int32} (h : f8_roadNow fu p2 p1 aBeginOf aEndOf aLengthOf aRankOf iRoads aWorths aMiddles aBusy = some o_r) :
    GM l yX8_roadNow cX8_roadNow 3 (some .int) 1 24 D cI cZ layM q [.ref (q 0), .int p1, .int p2] ([iPageLength, iRoads, iRead, iAltered, iRanked, iStage, iFigures, iNewRoads, iTold, iRouted, iRouteSum], [jH], [aPage, aBeginOf, aEndOf, aLengthOf, aCosts, aRankOf, aRoadAt, aWorths, aMiddles, aLeasts, aBusy, aNewBegin, aNewEnd, aNewLength, aIsLeft, aAround, aWhole, aIsNeeded, aWereRanks, aWaitFrom, aWaitTo, aToldAt, aRisen, aUps, aTried, aRoutes]) (some (.int o_r)) ([iPageLength, iRoads, iRead, iAltered, iRanked, iStage, iFigures, iNewRoads, iTold, iRouted, iRouteSum], [jH], [aPage, aBeginOf, aEndOf, aLengthOf, aCosts, aRankOf, aRoadAt, aWorths, aMiddles, aLeasts, aBusy, aNewBegin, aNewEnd, aNewLength, aIsLeft, aAround, aWhole, aIsNeeded, aWereRanks, aWaitFrom, aWaitTo, aToldAt, aRisen, aUps, aTried, aRoutes]) := by
  refine GM.go RX8 (by decide) rfl (Nat.le_of_ble_eq_true rfl) ?_
  intro p e s m args below meth c ls R Q H locs X hr hlk hT hG hl hR hQ
  have hx := X.1
  have hb := X.2.1
  have hl : lv_has ls 3 [(0, .ref (q 0)), (1, .int p1), (2, .int p2)] := hl
  unfold f8_roadNow at h
  refine lv_iload_n hx hb dX8_roadNow_0 rfl (lv_at hl 2 rfl) ?_
  by_cases cs1 : p2 = 0
  · have h := ite_t cs1 h
    refine g_eqi cs1 ?_
    refine lv_tableIn (x := 0) hx hb dX8_roadNow_1 (by decide) (by decide) (off := 35) rfl (tgt := 36) (by decide) ?_
    refine lv_aload_n hx hb dX8_roadNow_36 rfl (lv_at hl 0 rfl) ?_
    refine g_get (v := .ref (q 2)) X hT hG fl_X8_13 0 rfl rfl rfl dX8_roadNow_37 ?_
    refine lv_iload_n hx hb dX8_roadNow_40 rfl (lv_at hl 1 rfl) ?_
    obtain ⟨hi2, h⟩ := ckin_some h
    refine g_ald (f := aBeginOf) X hT hG 2 rfl rfl hi2 dX8_roadNow_41 ?_
    cases h
    rw [hQ]
    exact g_iret X hT hG hr hlk dX8_roadNow_42
  · have h := ite_f cs1 h
    by_cases cs3 : p2 = 1
    · have h := ite_t cs3 h
      refine g_eqi cs3 ?_
      refine lv_tableIn (x := 1) hx hb dX8_roadNow_1 (by decide) (by decide) (off := 42) rfl (tgt := 43) (by decide) ?_
      refine lv_aload_n hx hb dX8_roadNow_43 rfl (lv_at hl 0 rfl) ?_
      refine g_get (v := .ref (q 3)) X hT hG fl_X8_16 0 rfl rfl rfl dX8_roadNow_44 ?_
      refine lv_iload_n hx hb dX8_roadNow_47 rfl (lv_at hl 1 rfl) ?_
      obtain ⟨hi4, h⟩ := ckin_some h
      refine g_ald (f := aEndOf) X hT hG 3 rfl rfl hi4 dX8_roadNow_48 ?_
      cases h
      rw [hQ]
      exact g_iret X hT hG hr hlk dX8_roadNow_49
    · have h := ite_f cs3 h
      by_cases cs5 : p2 = 2
      · have h := ite_t cs5 h
        refine g_eqi cs5 ?_
        refine lv_tableIn (x := 2) hx hb dX8_roadNow_1 (by decide) (by decide) (off := 49) rfl (tgt := 50) (by decide) ?_
        refine lv_aload_n hx hb dX8_roadNow_50 rfl (lv_at hl 0 rfl) ?_
        refine g_get (v := .ref (q 4)) X hT hG fl_X8_19 0 rfl rfl rfl dX8_roadNow_51 ?_
        refine lv_iload_n hx hb dX8_roadNow_54 rfl (lv_at hl 1 rfl) ?_
        obtain ⟨hi6, h⟩ := ckin_some h
        refine g_ald (f := aLengthOf) X hT hG 4 rfl rfl hi6 dX8_roadNow_55 ?_
        cases h
        rw [hQ]
        exact g_iret X hT hG hr hlk dX8_roadNow_56
      · have h := ite_f cs5 h
        by_cases cs7 : p2 = 3
        · have h := ite_t cs7 h
          refine g_eqi cs7 ?_
          refine lv_tableIn (x := 3) hx hb dX8_roadNow_1 (by decide) (by decide) (off := 56) rfl (tgt := 57) (by decide) ?_
          refine lv_aload_n hx hb dX8_roadNow_57 rfl (lv_at hl 0 rfl) ?_
          refine g_get (v := .ref (q 6)) X hT hG fl_X8_25 0 rfl rfl rfl dX8_roadNow_58 ?_
          refine lv_iload_n hx hb dX8_roadNow_61 rfl (lv_at hl 1 rfl) ?_
          obtain ⟨hi8, h⟩ := ckin_some h
          refine g_ald (f := aRankOf) X hT hG 6 rfl rfl hi8 dX8_roadNow_62 ?_
          cases h
          rw [hQ]
          exact g_iret X hT hG hr hlk dX8_roadNow_63
        · have h := ite_f cs7 h
          by_cases cs9 : p2 = 4
          · have h := ite_t cs9 h
            refine g_eqi cs9 ?_
            refine lv_tableIn (x := 4) hx hb dX8_roadNow_1 (by decide) (by decide) (off := 63) rfl (tgt := 64) (by decide) ?_
            refine lv_aload_n hx hb dX8_roadNow_64 rfl (lv_at hl 0 rfl) ?_
            refine lv_iload_n hx hb dX8_roadNow_65 rfl (lv_at hl 1 rfl) ?_
            obtain ⟨r_10, ec11, h⟩ := bnd1_some h
            refine g_callVr [.int p1] [] 0 X hT hG ml_X8_189 (c_X8_middleOf hq ec11) rfl rfl rfl rfl rfl hl.1 (Nat.le_of_ble_eq_true rfl) (by rw [hR]; exact ⟨Nat.le_of_ble_eq_true rfl, Nat.le_of_ble_eq_true rfl⟩) dX8_roadNow_66 (fun H locs hG => ?_)
            cases h
            rw [hQ]
            exact g_iret X hT hG hr hlk dX8_roadNow_69
          · have h := ite_f cs9 h
            refine lv_tableOut hx hb dX8_roadNow_1 (sw_out (n := 5) (Nat.le_of_ble_eq_true rfl) (fun k hk => by match k, hk with | 0, _ => exact cs1 | 1, _ => exact cs3 | 2, _ => exact cs5 | 3, _ => exact cs7 | 4, _ => exact cs9 | k + 5, hk => omega)) (tgt := 70) (by decide) ?_
            refine lv_aload_n hx hb dX8_roadNow_70 rfl (lv_at hl 0 rfl) ?_
            refine g_get (v := .ref (q 11)) X hT hG fl_X8_40 0 rfl rfl rfl dX8_roadNow_71 ?_
            refine lv_iload_n hx hb dX8_roadNow_74 rfl (lv_at hl 1 rfl) ?_
            obtain ⟨hi12, h⟩ := ckin_some h
            refine g_ald (f := aBusy) X hT hG 11 rfl rfl hi12 dX8_roadNow_75 ?_
            cases h
            rw [hQ]
            exact g_iret X hT hG hr hlk dX8_roadNow_76
def f8_road (fu : Nat) (p1 : Int32) (iRoads : Int32) (p2 : Int32) (aBeginOf : (Nat → Int32)) (aEndOf : (Nat → Int32)) (aLengthOf : (Nat → Int32)) (aRankOf : (Nat → Int32)) (aWorths : (Nat → Int32)) (aMiddles : (Nat → Int32)) (aBusy : (Nat → Int32)) : Option (Int32) :=
  bnd1 (f8_isRoad p1 iRoads) fun (r_1 : Int32) => if r_1 = 0 then (some (-101)) else bnd1 (f8_within p2 0 5) fun (r_4 : Int32) => bnd1 (if r_4 = 0 then (some (-102)) else bnd1 (f8_roadNow fu p2 p1 aBeginOf aEndOf aLengthOf aRankOf iRoads aWorths aMiddles aBusy) fun (r_9 : Int32) => some r_9) fun (y_6 : Int32) => some y_6
set_option maxHeartbeats 4000000 in
set_option maxRecDepth 100000 in
theorem c_X8_road (hq : gJ layM q) {fu : Nat} {p1 : Int32} {p2 : Int32} {o_r : Int32} (h : f8_road fu p1 iRoads p2 aBeginOf aEndOf aLengthOf aRankOf aWorths aMiddles aBusy = some o_r) :
    GM l yX8_road cX8_road 3 (some .int) 2 46 D cI cZ layM q [.ref (q 0), .int p1, .int p2] ([iPageLength, iRoads, iRead, iAltered, iRanked, iStage, iFigures, iNewRoads, iTold, iRouted, iRouteSum], [jH], [aPage, aBeginOf, aEndOf, aLengthOf, aCosts, aRankOf, aRoadAt, aWorths, aMiddles, aLeasts, aBusy, aNewBegin, aNewEnd, aNewLength, aIsLeft, aAround, aWhole, aIsNeeded, aWereRanks, aWaitFrom, aWaitTo, aToldAt, aRisen, aUps, aTried, aRoutes]) (some (.int o_r)) ([iPageLength, iRoads, iRead, iAltered, iRanked, iStage, iFigures, iNewRoads, iTold, iRouted, iRouteSum], [jH], [aPage, aBeginOf, aEndOf, aLengthOf, aCosts, aRankOf, aRoadAt, aWorths, aMiddles, aLeasts, aBusy, aNewBegin, aNewEnd, aNewLength, aIsLeft, aAround, aWhole, aIsNeeded, aWereRanks, aWaitFrom, aWaitTo, aToldAt, aRisen, aUps, aTried, aRoutes]) := by
  refine GM.go RX8 (by decide) rfl (Nat.le_of_ble_eq_true rfl) ?_
  intro p e s m args below meth c ls R Q H locs X hr hlk hT hG hl hR hQ
  have hx := X.1
  have hb := X.2.1
  have hl : lv_has ls 3 [(0, .ref (q 0)), (1, .int p1), (2, .int p2)] := hl
  unfold f8_road at h
  refine lv_aload_n hx hb dX8_road_0 rfl (lv_at hl 0 rfl) ?_
  refine lv_iload_n hx hb dX8_road_1 rfl (lv_at hl 1 rfl) ?_
  obtain ⟨r_1, ec2, h⟩ := bnd1_some h
  refine g_callVr [.int p1] [] 0 X hT hG ml_X8_168 (c_X8_isRoad hq ec2) rfl rfl rfl rfl rfl hl.1 (Nat.le_of_ble_eq_true rfl) (by rw [hR]; exact ⟨Nat.le_of_ble_eq_true rfl, Nat.le_of_ble_eq_true rfl⟩) dX8_road_2 (fun H locs hG => ?_)
  refine lv_if_ne (tgt := 11) hx hb dX8_road_5 (by decide) (fun cb3 => ?_) (fun cb3 => ?_)
  · have h := ite_f cb3 h
    refine lv_iload_n hx hb dX8_road_11 rfl (lv_at hl 2 rfl) ?_
    refine lv_iconst (v := 0) hx hb dX8_road_12 (by decide) ?_
    refine lv_iconst (v := 5) hx hb dX8_road_13 (by decide) ?_
    obtain ⟨r_4, ec5, h⟩ := bnd1_some h
    refine g_callSr [.int p2, .int 0, .int 5] [] X hT hG ml_X8_89 (c_X8_within hq ec5) rfl rfl hl.1 (Nat.le_of_ble_eq_true rfl) (by rw [hR]; exact ⟨Nat.le_of_ble_eq_true rfl, Nat.le_of_ble_eq_true rfl⟩) dX8_road_14 (fun H locs hG => ?_)
    obtain ⟨y_6, er7, h⟩ := bnd1_some h
    have J7 : ∀ (H : Heap) (locs : List Loc) (ls : Array Slot), GH D cI cZ layM q s ([iPageLength, iRoads, iRead, iAltered, iRanked, iStage, iFigures, iNewRoads, iTold, iRouted, iRouteSum], [jH], [aPage, aBeginOf, aEndOf, aLengthOf, aCosts, aRankOf, aRoadAt, aWorths, aMiddles, aLeasts, aBusy, aNewBegin, aNewEnd, aNewLength, aIsLeft, aAround, aWhole, aIsNeeded, aWereRanks, aWaitFrom, aWaitTo, aToldAt, aRisen, aUps, aTried, aRoutes]) H locs → lv_has ls 3 [] → W p l e R s m args below meth c H locs 0 0 Q (F0 m 31 ls [.int y_6]) := by
      intro H locs ls hG hl
      cases h
      rw [hQ]
      exact g_iret X hT hG hr hlk dX8_road_31
    refine lv_if_eq (tgt := 29) hx hb dX8_road_17 (by decide) (fun cb8 => ?_) (fun cb8 => ?_)
    · have er7 := ite_t cb8 er7
      refine lv_bipush (v := (-102)) hx hb dX8_road_29 (by decide) ?_
      cases er7
      exact J7 H locs ls hG (lv_sub hl [] rfl)
    · have er7 := ite_f cb8 er7
      refine lv_aload_n hx hb dX8_road_20 rfl (lv_at hl 0 rfl) ?_
      refine lv_iload_n hx hb dX8_road_21 rfl (lv_at hl 1 rfl) ?_
      refine lv_iload_n hx hb dX8_road_22 rfl (lv_at hl 2 rfl) ?_
      obtain ⟨r_9, ec10, er7⟩ := bnd1_some er7
      refine g_callVr [.int p1, .int p2] [] 0 X hT hG ml_X8_192 (c_X8_roadNow hq ec10) rfl rfl rfl rfl rfl hl.1 (Nat.le_of_ble_eq_true rfl) (by rw [hR]; exact ⟨Nat.le_of_ble_eq_true rfl, Nat.le_of_ble_eq_true rfl⟩) dX8_road_23 (fun H locs hG => ?_)
      refine lv_goto (tgt := 31) hx hb dX8_road_26 (by decide) ?_
      cases er7
      exact J7 H locs ls hG (lv_sub hl [] rfl)
  · have h := ite_t cb3 h
    refine lv_bipush (v := (-101)) hx hb dX8_road_8 (by decide) ?_
    cases h
    rw [hQ]
    exact g_iret X hT hG hr hlk dX8_road_10
def f8_cost (p1 : Int32) (iRoads : Int32) (p2 : Int32) (aEndOf : (Nat → Int32)) (aBeginOf : (Nat → Int32)) (aCosts : (Nat → Int32)) : Option (Int32) :=
  bnd1 (f8_areRoads p1 iRoads p2) fun (r_1 : Int32) => if r_1 = 0 then (some (-101)) else bnd1 (f8_isTurn p1 p2 aEndOf aBeginOf) fun (r_4 : Int32) => bnd1 (if r_4 = 0 then (some (-103)) else ckin ((12 * p1) + p2) 144 (some (aCosts ((12 * p1) + p2).toNatClampNeg))) fun (y_6 : Int32) => some y_6
set_option maxHeartbeats 4000000 in
set_option maxRecDepth 100000 in
theorem c_X8_cost (hq : gJ layM q) {p1 : Int32} {p2 : Int32} {o_r : Int32} (h : f8_cost p1 iRoads p2 aEndOf aBeginOf aCosts = some o_r) :
    GM l yX8_cost cX8_cost 3 (some .int) 3 65 D cI cZ layM q [.ref (q 0), .int p1, .int p2] ([iPageLength, iRoads, iRead, iAltered, iRanked, iStage, iFigures, iNewRoads, iTold, iRouted, iRouteSum], [jH], [aPage, aBeginOf, aEndOf, aLengthOf, aCosts, aRankOf, aRoadAt, aWorths, aMiddles, aLeasts, aBusy, aNewBegin, aNewEnd, aNewLength, aIsLeft, aAround, aWhole, aIsNeeded, aWereRanks, aWaitFrom, aWaitTo, aToldAt, aRisen, aUps, aTried, aRoutes]) (some (.int o_r)) ([iPageLength, iRoads, iRead, iAltered, iRanked, iStage, iFigures, iNewRoads, iTold, iRouted, iRouteSum], [jH], [aPage, aBeginOf, aEndOf, aLengthOf, aCosts, aRankOf, aRoadAt, aWorths, aMiddles, aLeasts, aBusy, aNewBegin, aNewEnd, aNewLength, aIsLeft, aAround, aWhole, aIsNeeded, aWereRanks, aWaitFrom, aWaitTo, aToldAt, aRisen, aUps, aTried, aRoutes]) := by
  refine GM.go RX8 (by decide) rfl (Nat.le_of_ble_eq_true rfl) ?_
  intro p e s m args below meth c ls R Q H locs X hr hlk hT hG hl hR hQ
  have hx := X.1
  have hb := X.2.1
  have hl : lv_has ls 3 [(0, .ref (q 0)), (1, .int p1), (2, .int p2)] := hl
  unfold f8_cost at h
  refine lv_aload_n hx hb dX8_cost_0 rfl (lv_at hl 0 rfl) ?_
  refine lv_iload_n hx hb dX8_cost_1 rfl (lv_at hl 1 rfl) ?_
  refine lv_iload_n hx hb dX8_cost_2 rfl (lv_at hl 2 rfl) ?_
  obtain ⟨r_1, ec2, h⟩ := bnd1_some h
  refine g_callVr [.int p1, .int p2] [] 0 X hT hG ml_X8_180 (c_X8_areRoads hq ec2) rfl rfl rfl rfl rfl hl.1 (Nat.le_of_ble_eq_true rfl) (by rw [hR]; exact ⟨Nat.le_of_ble_eq_true rfl, Nat.le_of_ble_eq_true rfl⟩) dX8_cost_3 (fun H locs hG => ?_)
  refine lv_if_ne (tgt := 12) hx hb dX8_cost_6 (by decide) (fun cb3 => ?_) (fun cb3 => ?_)
  · have h := ite_f cb3 h
    refine lv_aload_n hx hb dX8_cost_12 rfl (lv_at hl 0 rfl) ?_
    refine lv_iload_n hx hb dX8_cost_13 rfl (lv_at hl 1 rfl) ?_
    refine lv_iload_n hx hb dX8_cost_14 rfl (lv_at hl 2 rfl) ?_
    obtain ⟨r_4, ec5, h⟩ := bnd1_some h
    refine g_callVr [.int p1, .int p2] [] 0 X hT hG ml_X8_183 (c_X8_isTurn hq ec5) rfl rfl rfl rfl rfl hl.1 (Nat.le_of_ble_eq_true rfl) (by rw [hR]; exact ⟨Nat.le_of_ble_eq_true rfl, Nat.le_of_ble_eq_true rfl⟩) dX8_cost_15 (fun H locs hG => ?_)
    obtain ⟨y_6, er7, h⟩ := bnd1_some h
    have J7 : ∀ (H : Heap) (locs : List Loc) (ls : Array Slot), GH D cI cZ layM q s ([iPageLength, iRoads, iRead, iAltered, iRanked, iStage, iFigures, iNewRoads, iTold, iRouted, iRouteSum], [jH], [aPage, aBeginOf, aEndOf, aLengthOf, aCosts, aRankOf, aRoadAt, aWorths, aMiddles, aLeasts, aBusy, aNewBegin, aNewEnd, aNewLength, aIsLeft, aAround, aWhole, aIsNeeded, aWereRanks, aWaitFrom, aWaitTo, aToldAt, aRisen, aUps, aTried, aRoutes]) H locs → lv_has ls 3 [] → W p l e R s m args below meth c H locs 0 0 Q (F0 m 37 ls [.int y_6]) := by
      intro H locs ls hG hl
      cases h
      rw [hQ]
      exact g_iret X hT hG hr hlk dX8_cost_37
    refine lv_if_eq (tgt := 35) hx hb dX8_cost_18 (by decide) (fun cb8 => ?_) (fun cb8 => ?_)
    · have er7 := ite_t cb8 er7
      refine lv_bipush (v := (-103)) hx hb dX8_cost_35 (by decide) ?_
      cases er7
      exact J7 H locs ls hG (lv_sub hl [] rfl)
    · have er7 := ite_f cb8 er7
      refine lv_aload_n hx hb dX8_cost_21 rfl (lv_at hl 0 rfl) ?_
      refine g_get (v := .ref (q 5)) X hT hG fl_X8_22 0 rfl rfl rfl dX8_cost_22 ?_
      refine lv_bipush (v := 12) hx hb dX8_cost_25 (by decide) ?_
      refine lv_iload_n hx hb dX8_cost_27 rfl (lv_at hl 1 rfl) ?_
      refine lv_imul hx hb dX8_cost_28 ?_
      refine lv_iload_n hx hb dX8_cost_29 rfl (lv_at hl 2 rfl) ?_
      refine lv_iadd hx hb dX8_cost_30 ?_
      obtain ⟨hi9, er7⟩ := ckin_some er7
      refine g_ald (f := aCosts) X hT hG 5 rfl rfl hi9 dX8_cost_31 ?_
      refine lv_goto (tgt := 37) hx hb dX8_cost_32 (by decide) ?_
      cases er7
      exact J7 H locs ls hG (lv_sub hl [] rfl)
  · have h := ite_t cb3 h
    refine lv_bipush (v := (-101)) hx hb dX8_cost_9 (by decide) ?_
    cases h
    rw [hQ]
    exact g_iret X hT hG hr hlk dX8_cost_11
def f8_order (p1 : Int32) (iRoads : Int32) (aRoadAt : (Nat → Int32)) : Option (Int32) :=
  bnd1 (f8_isRoad p1 iRoads) fun (r_1 : Int32) => bnd1 (if r_1 = 0 then (some (-101)) else ckin p1 12 (some (aRoadAt p1.toNatClampNeg))) fun (y_3 : Int32) => some y_3
set_option maxHeartbeats 4000000 in
set_option maxRecDepth 100000 in
theorem c_X8_order (hq : gJ layM q) {p1 : Int32} {o_r : Int32} (h : f8_order p1 iRoads aRoadAt = some o_r) :
    GM l yX8_order cX8_order 2 (some .int) 2 43 D cI cZ layM q [.ref (q 0), .int p1] ([iPageLength, iRoads, iRead, iAltered, iRanked, iStage, iFigures, iNewRoads, iTold, iRouted, iRouteSum], [jH], [aPage, aBeginOf, aEndOf, aLengthOf, aCosts, aRankOf, aRoadAt, aWorths, aMiddles, aLeasts, aBusy, aNewBegin, aNewEnd, aNewLength, aIsLeft, aAround, aWhole, aIsNeeded, aWereRanks, aWaitFrom, aWaitTo, aToldAt, aRisen, aUps, aTried, aRoutes]) (some (.int o_r)) ([iPageLength, iRoads, iRead, iAltered, iRanked, iStage, iFigures, iNewRoads, iTold, iRouted, iRouteSum], [jH], [aPage, aBeginOf, aEndOf, aLengthOf, aCosts, aRankOf, aRoadAt, aWorths, aMiddles, aLeasts, aBusy, aNewBegin, aNewEnd, aNewLength, aIsLeft, aAround, aWhole, aIsNeeded, aWereRanks, aWaitFrom, aWaitTo, aToldAt, aRisen, aUps, aTried, aRoutes]) := by
  refine GM.go RX8 (by decide) rfl (Nat.le_of_ble_eq_true rfl) ?_
  intro p e s m args below meth c ls R Q H locs X hr hlk hT hG hl hR hQ
  have hx := X.1
  have hb := X.2.1
  have hl : lv_has ls 2 [(0, .ref (q 0)), (1, .int p1)] := hl
  unfold f8_order at h
  refine lv_aload_n hx hb dX8_order_0 rfl (lv_at hl 0 rfl) ?_
  refine lv_iload_n hx hb dX8_order_1 rfl (lv_at hl 1 rfl) ?_
  obtain ⟨r_1, ec2, h⟩ := bnd1_some h
  refine g_callVr [.int p1] [] 0 X hT hG ml_X8_168 (c_X8_isRoad hq ec2) rfl rfl rfl rfl rfl hl.1 (Nat.le_of_ble_eq_true rfl) (by rw [hR]; exact ⟨Nat.le_of_ble_eq_true rfl, Nat.le_of_ble_eq_true rfl⟩) dX8_order_2 (fun H locs hG => ?_)
  obtain ⟨y_3, er4, h⟩ := bnd1_some h
  have J4 : ∀ (H : Heap) (locs : List Loc) (ls : Array Slot), GH D cI cZ layM q s ([iPageLength, iRoads, iRead, iAltered, iRanked, iStage, iFigures, iNewRoads, iTold, iRouted, iRouteSum], [jH], [aPage, aBeginOf, aEndOf, aLengthOf, aCosts, aRankOf, aRoadAt, aWorths, aMiddles, aLeasts, aBusy, aNewBegin, aNewEnd, aNewLength, aIsLeft, aAround, aWhole, aIsNeeded, aWereRanks, aWaitFrom, aWaitTo, aToldAt, aRisen, aUps, aTried, aRoutes]) H locs → lv_has ls 2 [] → W p l e R s m args below meth c H locs 0 0 Q (F0 m 19 ls [.int y_3]) := by
    intro H locs ls hG hl
    cases h
    rw [hQ]
    exact g_iret X hT hG hr hlk dX8_order_19
  refine lv_if_eq (tgt := 17) hx hb dX8_order_5 (by decide) (fun cb5 => ?_) (fun cb5 => ?_)
  · have er4 := ite_t cb5 er4
    refine lv_bipush (v := (-101)) hx hb dX8_order_17 (by decide) ?_
    cases er4
    exact J4 H locs ls hG (lv_sub hl [] rfl)
  · have er4 := ite_f cb5 er4
    refine lv_aload_n hx hb dX8_order_8 rfl (lv_at hl 0 rfl) ?_
    refine g_get (v := .ref (q 7)) X hT hG fl_X8_28 0 rfl rfl rfl dX8_order_9 ?_
    refine lv_iload_n hx hb dX8_order_12 rfl (lv_at hl 1 rfl) ?_
    obtain ⟨hi6, er4⟩ := ckin_some er4
    refine g_ald (f := aRoadAt) X hT hG 7 rfl rfl hi6 dX8_order_13 ?_
    refine lv_goto (tgt := 19) hx hb dX8_order_14 (by decide) ?_
    cases er4
    exact J4 H locs ls hG (lv_sub hl [] rfl)
def f8_leastNow (p1 : Int32) (p2 : Int32) (aLeasts : (Nat → Int32)) : Option (Int32) :=
  ckin ((12 * p1) + p2) 144 (bd ((aLeasts ((12 * p1) + p2).toNatClampNeg)) fun x3_2 => bnd1 (if x3_2 < 268435456 then (some (x3_2 / 16)) else some (-1)) fun (y_3 : Int32) => some y_3)
set_option maxHeartbeats 4000000 in
set_option maxRecDepth 100000 in
theorem c_X8_leastNow (hq : gJ layM q) {p1 : Int32} {p2 : Int32} {o_r : Int32} (h : f8_leastNow p1 p2 aLeasts = some o_r) :
    GM l yX8_leastNow cX8_leastNow 4 (some .int) 0 0 D cI cZ layM q [.ref (q 0), .int p1, .int p2] ([iPageLength, iRoads, iRead, iAltered, iRanked, iStage, iFigures, iNewRoads, iTold, iRouted, iRouteSum], [jH], [aPage, aBeginOf, aEndOf, aLengthOf, aCosts, aRankOf, aRoadAt, aWorths, aMiddles, aLeasts, aBusy, aNewBegin, aNewEnd, aNewLength, aIsLeft, aAround, aWhole, aIsNeeded, aWereRanks, aWaitFrom, aWaitTo, aToldAt, aRisen, aUps, aTried, aRoutes]) (some (.int o_r)) ([iPageLength, iRoads, iRead, iAltered, iRanked, iStage, iFigures, iNewRoads, iTold, iRouted, iRouteSum], [jH], [aPage, aBeginOf, aEndOf, aLengthOf, aCosts, aRankOf, aRoadAt, aWorths, aMiddles, aLeasts, aBusy, aNewBegin, aNewEnd, aNewLength, aIsLeft, aAround, aWhole, aIsNeeded, aWereRanks, aWaitFrom, aWaitTo, aToldAt, aRisen, aUps, aTried, aRoutes]) := by
  refine GM.go RX8 (by decide) rfl (Nat.le_of_ble_eq_true rfl) ?_
  intro p e s m args below meth c ls R Q H locs X hr hlk hT hG hl hR hQ
  have hx := X.1
  have hb := X.2.1
  have hl : lv_has ls 4 [(0, .ref (q 0)), (1, .int p1), (2, .int p2)] := hl
  unfold f8_leastNow at h
  refine lv_aload_n hx hb dX8_leastNow_0 rfl (lv_at hl 0 rfl) ?_
  refine g_get (v := .ref (q 10)) X hT hG fl_X8_37 0 rfl rfl rfl dX8_leastNow_1 ?_
  refine lv_bipush (v := 12) hx hb dX8_leastNow_4 (by decide) ?_
  refine lv_iload_n hx hb dX8_leastNow_6 rfl (lv_at hl 1 rfl) ?_
  refine lv_imul hx hb dX8_leastNow_7 ?_
  refine lv_iload_n hx hb dX8_leastNow_8 rfl (lv_at hl 2 rfl) ?_
  refine lv_iadd hx hb dX8_leastNow_9 ?_
  obtain ⟨hi1, h⟩ := ckin_some h
  refine g_ald (f := aLeasts) X hT hG 10 rfl rfl hi1 dX8_leastNow_10 ?_
  refine lv_topi (fun x3_2 ex3_2 => ?_)
  have h := bd_e ex3_2 h
  refine lv_istore_n (lv' := [(3, .int x3_2), (0, .ref (q 0)), (1, .int p1), (2, .int p2)]) hx hb dX8_leastNow_11 rfl hl (by decide) rfl (fun ls hl => ?_)
  refine lv_iload_n hx hb dX8_leastNow_12 rfl (lv_at hl 0 rfl) ?_
  refine lv_ldc (v := 268435456) hx hb X.2.2.2.1 (X.2.2.2.2 _ cn_X8_136) dX8_leastNow_13 ?_
  obtain ⟨y_3, er4, h⟩ := bnd1_some h
  have J4 : ∀ (H : Heap) (locs : List Loc) (ls : Array Slot), GH D cI cZ layM q s ([iPageLength, iRoads, iRead, iAltered, iRanked, iStage, iFigures, iNewRoads, iTold, iRouted, iRouteSum], [jH], [aPage, aBeginOf, aEndOf, aLengthOf, aCosts, aRankOf, aRoadAt, aWorths, aMiddles, aLeasts, aBusy, aNewBegin, aNewEnd, aNewLength, aIsLeft, aAround, aWhole, aIsNeeded, aWereRanks, aWaitFrom, aWaitTo, aToldAt, aRisen, aUps, aTried, aRoutes]) H locs → lv_has ls 4 [] → W p l e R s m args below meth c H locs 0 0 Q (F0 m 26 ls [.int y_3]) := by
    intro H locs ls hG hl
    cases h
    rw [hQ]
    exact g_iret X hT hG hr hlk dX8_leastNow_26
  refine lv_icmp_lt (tgt := 22) hx hb dX8_leastNow_15 (by decide) (fun cb5 => ?_) (fun cb5 => ?_)
  · have er4 := ite_t cb5 er4
    refine lv_iload_n hx hb dX8_leastNow_22 rfl (lv_at hl 0 rfl) ?_
    refine lv_bipush (v := 16) hx hb dX8_leastNow_23 (by decide) ?_
    refine lv_idiv hx hb dX8_leastNow_25 (by decide) ?_
    cases er4
    exact J4 H locs ls hG (lv_sub hl [] rfl)
  · have er4 := ite_f cb5 er4
    refine lv_iconst (v := (-1)) hx hb dX8_leastNow_18 (by decide) ?_
    refine lv_goto (tgt := 26) hx hb dX8_leastNow_19 (by decide) ?_
    cases er4
    exact J4 H locs ls hG (lv_sub hl [] rfl)
def f8_least (p1 : Int32) (iRoads : Int32) (p2 : Int32) (aLeasts : (Nat → Int32)) : Option (Int32) :=
  bnd1 (f8_areRoads p1 iRoads p2) fun (r_1 : Int32) => bnd1 (if r_1 = 0 then (some (-101)) else bnd1 (f8_leastNow p1 p2 aLeasts) fun (r_6 : Int32) => some r_6) fun (y_3 : Int32) => some y_3
set_option maxHeartbeats 4000000 in
set_option maxRecDepth 100000 in
theorem c_X8_least (hq : gJ layM q) {p1 : Int32} {p2 : Int32} {o_r : Int32} (h : f8_least p1 iRoads p2 aLeasts = some o_r) :
    GM l yX8_least cX8_least 3 (some .int) 3 65 D cI cZ layM q [.ref (q 0), .int p1, .int p2] ([iPageLength, iRoads, iRead, iAltered, iRanked, iStage, iFigures, iNewRoads, iTold, iRouted, iRouteSum], [jH], [aPage, aBeginOf, aEndOf, aLengthOf, aCosts, aRankOf, aRoadAt, aWorths, aMiddles, aLeasts, aBusy, aNewBegin, aNewEnd, aNewLength, aIsLeft, aAround, aWhole, aIsNeeded, aWereRanks, aWaitFrom, aWaitTo, aToldAt, aRisen, aUps, aTried, aRoutes]) (some (.int o_r)) ([iPageLength, iRoads, iRead, iAltered, iRanked, iStage, iFigures, iNewRoads, iTold, iRouted, iRouteSum], [jH], [aPage, aBeginOf, aEndOf, aLengthOf, aCosts, aRankOf, aRoadAt, aWorths, aMiddles, aLeasts, aBusy, aNewBegin, aNewEnd, aNewLength, aIsLeft, aAround, aWhole, aIsNeeded, aWereRanks, aWaitFrom, aWaitTo, aToldAt, aRisen, aUps, aTried, aRoutes]) := by
  refine GM.go RX8 (by decide) rfl (Nat.le_of_ble_eq_true rfl) ?_
  intro p e s m args below meth c ls R Q H locs X hr hlk hT hG hl hR hQ
  have hx := X.1
  have hb := X.2.1
  have hl : lv_has ls 3 [(0, .ref (q 0)), (1, .int p1), (2, .int p2)] := hl
  unfold f8_least at h
  refine lv_aload_n hx hb dX8_least_0 rfl (lv_at hl 0 rfl) ?_
  refine lv_iload_n hx hb dX8_least_1 rfl (lv_at hl 1 rfl) ?_
  refine lv_iload_n hx hb dX8_least_2 rfl (lv_at hl 2 rfl) ?_
  obtain ⟨r_1, ec2, h⟩ := bnd1_some h
  refine g_callVr [.int p1, .int p2] [] 0 X hT hG ml_X8_180 (c_X8_areRoads hq ec2) rfl rfl rfl rfl rfl hl.1 (Nat.le_of_ble_eq_true rfl) (by rw [hR]; exact ⟨Nat.le_of_ble_eq_true rfl, Nat.le_of_ble_eq_true rfl⟩) dX8_least_3 (fun H locs hG => ?_)
  obtain ⟨y_3, er4, h⟩ := bnd1_some h
  have J4 : ∀ (H : Heap) (locs : List Loc) (ls : Array Slot), GH D cI cZ layM q s ([iPageLength, iRoads, iRead, iAltered, iRanked, iStage, iFigures, iNewRoads, iTold, iRouted, iRouteSum], [jH], [aPage, aBeginOf, aEndOf, aLengthOf, aCosts, aRankOf, aRoadAt, aWorths, aMiddles, aLeasts, aBusy, aNewBegin, aNewEnd, aNewLength, aIsLeft, aAround, aWhole, aIsNeeded, aWereRanks, aWaitFrom, aWaitTo, aToldAt, aRisen, aUps, aTried, aRoutes]) H locs → lv_has ls 3 [] → W p l e R s m args below meth c H locs 0 0 Q (F0 m 20 ls [.int y_3]) := by
    intro H locs ls hG hl
    cases h
    rw [hQ]
    exact g_iret X hT hG hr hlk dX8_least_20
  refine lv_if_eq (tgt := 18) hx hb dX8_least_6 (by decide) (fun cb5 => ?_) (fun cb5 => ?_)
  · have er4 := ite_t cb5 er4
    refine lv_bipush (v := (-101)) hx hb dX8_least_18 (by decide) ?_
    cases er4
    exact J4 H locs ls hG (lv_sub hl [] rfl)
  · have er4 := ite_f cb5 er4
    refine lv_aload_n hx hb dX8_least_9 rfl (lv_at hl 0 rfl) ?_
    refine lv_iload_n hx hb dX8_least_10 rfl (lv_at hl 1 rfl) ?_
    refine lv_iload_n hx hb dX8_least_11 rfl (lv_at hl 2 rfl) ?_
    obtain ⟨r_6, ec7, er4⟩ := bnd1_some er4
    refine g_callVr [.int p1, .int p2] [] 0 X hT hG ml_X8_195 (c_X8_leastNow hq ec7) rfl rfl rfl rfl rfl hl.1 (Nat.le_of_ble_eq_true rfl) (by rw [hR]; exact ⟨Nat.le_of_ble_eq_true rfl, Nat.le_of_ble_eq_true rfl⟩) dX8_least_12 (fun H locs hG => ?_)
    refine lv_goto (tgt := 20) hx hb dX8_least_15 (by decide) ?_
    cases er4
    exact J4 H locs ls hG (lv_sub hl [] rfl)
def f8_way_b1 (fu : Nat) (p3 : Int32) (aCosts : (Nat → Int32)) (p2 : Int32) (aLengthOf : (Nat → Int32)) (aLeasts : (Nat → Int32)) (x5_10 : Int32) (x6_11 : Int32) : Option ((Int32 × Int32) ⊕ (Int32)) :=
  if p3 ≤ x6_11 then (some (.inr x5_10)) else bnd1 (f8_nextOn fu x5_10 aCosts p2 aLengthOf aLeasts) fun (r_15 : Int32) => bd (x6_11 + 1) fun x6_17 => some (.inl (r_15, x6_17))
def f8_way (fu : Nat) (p1 : Int32) (iRoads : Int32) (p2 : Int32) (aLeasts : (Nat → Int32)) (p3 : Int32) (aCosts : (Nat → Int32)) (aLengthOf : (Nat → Int32)) : Option (Int32) :=
  bnd1 (f8_areRoads p1 iRoads p2) fun (r_1 : Int32) => if r_1 = 0 then (some (-101)) else ckin ((12 * p1) + p2) 144 (bd ((aLeasts ((12 * p1) + p2).toNatClampNeg)) fun x4_5 => if 268435456 ≤ x4_5 then (some (-1)) else bnd1 (f8_within p3 0 (x4_5 - x4_5 / 16 * 16)) fun (r_7 : Int32) => if r_7 = 0 then (some (-1)) else bnd1 (lpG (fun z => f8_way_b1 fu p3 aCosts p2 aLengthOf aLeasts z.1 z.2) fu (p1, (0 : Int32))) fun (x5_12 : Int32) => some x5_12)
set_option maxHeartbeats 4000000 in
set_option maxRecDepth 100000 in
theorem c_X8_way (hq : gJ layM q) {fu : Nat} {p1 : Int32} {p2 : Int32} {p3 : Int32} {o_r : Int32} (h : f8_way fu p1 iRoads p2 aLeasts p3 aCosts aLengthOf = some o_r) :
    GM l yX8_way cX8_way 7 (some .int) 3 65 D cI cZ layM q [.ref (q 0), .int p1, .int p2, .int p3] ([iPageLength, iRoads, iRead, iAltered, iRanked, iStage, iFigures, iNewRoads, iTold, iRouted, iRouteSum], [jH], [aPage, aBeginOf, aEndOf, aLengthOf, aCosts, aRankOf, aRoadAt, aWorths, aMiddles, aLeasts, aBusy, aNewBegin, aNewEnd, aNewLength, aIsLeft, aAround, aWhole, aIsNeeded, aWereRanks, aWaitFrom, aWaitTo, aToldAt, aRisen, aUps, aTried, aRoutes]) (some (.int o_r)) ([iPageLength, iRoads, iRead, iAltered, iRanked, iStage, iFigures, iNewRoads, iTold, iRouted, iRouteSum], [jH], [aPage, aBeginOf, aEndOf, aLengthOf, aCosts, aRankOf, aRoadAt, aWorths, aMiddles, aLeasts, aBusy, aNewBegin, aNewEnd, aNewLength, aIsLeft, aAround, aWhole, aIsNeeded, aWereRanks, aWaitFrom, aWaitTo, aToldAt, aRisen, aUps, aTried, aRoutes]) := by
  refine GM.go RX8 (by decide) rfl (Nat.le_of_ble_eq_true rfl) ?_
  intro p e s m args below meth c ls R Q H locs X hr hlk hT hG hl hR hQ
  have hx := X.1
  have hb := X.2.1
  have hl : lv_has ls 7 [(0, .ref (q 0)), (1, .int p1), (2, .int p2), (3, .int p3)] := hl
  unfold f8_way at h
  refine lv_aload_n hx hb dX8_way_0 rfl (lv_at hl 0 rfl) ?_
  refine lv_iload_n hx hb dX8_way_1 rfl (lv_at hl 1 rfl) ?_
  refine lv_iload_n hx hb dX8_way_2 rfl (lv_at hl 2 rfl) ?_
  obtain ⟨r_1, ec2, h⟩ := bnd1_some h
  refine g_callVr [.int p1, .int p2] [] 0 X hT hG ml_X8_180 (c_X8_areRoads hq ec2) rfl rfl rfl rfl rfl hl.1 (Nat.le_of_ble_eq_true rfl) (by rw [hR]; exact ⟨Nat.le_of_ble_eq_true rfl, Nat.le_of_ble_eq_true rfl⟩) dX8_way_3 (fun H locs hG => ?_)
  refine lv_if_ne (tgt := 12) hx hb dX8_way_6 (by decide) (fun cb3 => ?_) (fun cb3 => ?_)
  · have h := ite_f cb3 h
    refine lv_aload_n hx hb dX8_way_12 rfl (lv_at hl 0 rfl) ?_
    refine g_get (v := .ref (q 10)) X hT hG fl_X8_37 0 rfl rfl rfl dX8_way_13 ?_
    refine lv_bipush (v := 12) hx hb dX8_way_16 (by decide) ?_
    refine lv_iload_n hx hb dX8_way_18 rfl (lv_at hl 1 rfl) ?_
    refine lv_imul hx hb dX8_way_19 ?_
    refine lv_iload_n hx hb dX8_way_20 rfl (lv_at hl 2 rfl) ?_
    refine lv_iadd hx hb dX8_way_21 ?_
    obtain ⟨hi4, h⟩ := ckin_some h
    refine g_ald (f := aLeasts) X hT hG 10 rfl rfl hi4 dX8_way_22 ?_
    refine lv_topi (fun x4_5 ex4_5 => ?_)
    have h := bd_e ex4_5 h
    refine lv_istore (lv' := [(4, .int x4_5), (0, .ref (q 0)), (1, .int p1), (2, .int p2), (3, .int p3)]) hx hb dX8_way_23 hl (by decide) rfl (fun ls hl => ?_)
    refine lv_iload hx hb dX8_way_25 (lv_at hl 0 rfl) ?_
    refine lv_ldc (v := 268435456) hx hb X.2.2.2.1 (X.2.2.2.2 _ cn_X8_136) dX8_way_27 ?_
    refine lv_icmp_ge (tgt := 45) hx hb dX8_way_29 (by decide) (fun cb6 => ?_) (fun cb6 => ?_)
    · have h := ite_t cb6 h
      refine lv_iconst (v := (-1)) hx hb dX8_way_45 (by decide) ?_
      cases h
      rw [hQ]
      exact g_iret X hT hG hr hlk dX8_way_46
    · have h := ite_f cb6 h
      refine lv_iload_n hx hb dX8_way_32 rfl (lv_at hl 4 rfl) ?_
      refine lv_iconst (v := 0) hx hb dX8_way_33 (by decide) ?_
      refine lv_iload hx hb dX8_way_34 (lv_at hl 0 rfl) ?_
      refine lv_bipush (v := 16) hx hb dX8_way_36 (by decide) ?_
      refine lv_irem hx hb dX8_way_38 (by decide) ?_
      obtain ⟨r_7, ec8, h⟩ := bnd1_some h
      refine g_callSr [.int p3, .int 0, .int (x4_5 - x4_5 / 16 * 16)] [] X hT hG ml_X8_89 (c_X8_within hq ec8) rfl rfl hl.1 (Nat.le_of_ble_eq_true rfl) (by rw [hR]; exact ⟨Nat.le_of_ble_eq_true rfl, Nat.le_of_ble_eq_true rfl⟩) dX8_way_39 (fun H locs hG => ?_)
      refine lv_if_ne (tgt := 47) hx hb dX8_way_42 (by decide) (fun cb9 => ?_) (fun cb9 => ?_)
      · have h := ite_f cb9 h
        refine lv_iload_n hx hb dX8_way_47 rfl (lv_at hl 2 rfl) ?_
        refine lv_istore (lv' := [(5, .int p1), (4, .int x4_5), (0, .ref (q 0)), (1, .int p1), (2, .int p2), (3, .int p3)]) hx hb dX8_way_48 hl (by decide) rfl (fun ls hl => ?_)
        refine lv_iconst (v := 0) hx hb dX8_way_50 (by decide) ?_
        refine lv_istore (lv' := [(6, .int 0), (5, .int p1), (4, .int x4_5), (0, .ref (q 0)), (1, .int p1), (2, .int p2), (3, .int p3)]) hx hb dX8_way_51 hl (by decide) rfl (fun ls hl => ?_)
        obtain ⟨x5_12, eL13, h⟩ := bnd1_some h
        have JX13 : ∀ (H : Heap) (locs : List Loc) (ls : Array Slot), GH D cI cZ layM q s ([iPageLength, iRoads, iRead, iAltered, iRanked, iStage, iFigures, iNewRoads, iTold, iRouted, iRouteSum], [jH], [aPage, aBeginOf, aEndOf, aLengthOf, aCosts, aRankOf, aRoadAt, aWorths, aMiddles, aLeasts, aBusy, aNewBegin, aNewEnd, aNewLength, aIsLeft, aAround, aWhole, aIsNeeded, aWereRanks, aWaitFrom, aWaitTo, aToldAt, aRisen, aUps, aTried, aRoutes]) H locs → lv_has ls 7 [(5, .int x5_12)] → W p l e R s m args below meth c H locs 0 0 Q (F0 m 74 ls []) := by
          intro H locs ls hG hl
          refine lv_iload hx hb dX8_way_74 (lv_at hl 0 rfl) ?_
          cases h
          rw [hQ]
          exact g_iret X hT hG hr hlk dX8_way_76
        refine lpG_W (Wh := fun z => ∀ (H : Heap) (locs : List Loc) (ls : Array Slot), GH D cI cZ layM q s ([iPageLength, iRoads, iRead, iAltered, iRanked, iStage, iFigures, iNewRoads, iTold, iRouted, iRouteSum], [jH], [aPage, aBeginOf, aEndOf, aLengthOf, aCosts, aRankOf, aRoadAt, aWorths, aMiddles, aLeasts, aBusy, aNewBegin, aNewEnd, aNewLength, aIsLeft, aAround, aWhole, aIsNeeded, aWereRanks, aWaitFrom, aWaitTo, aToldAt, aRisen, aUps, aTried, aRoutes]) H locs → lv_has ls 7 [(0, .ref (q 0)), (2, .int p2), (3, .int p3), (5, .int (z.1)), (6, .int (z.2))] → W p l e R s m args below meth c H locs 0 0 Q (F0 m 53 ls [])) ?_ fu _ eL13 H locs ls hG (lv_sub hl [3, 5, 6, 1, 0] rfl)
        intro z rr13 hb13 hin13 hout13
        obtain ⟨x5_10, x6_11⟩ := z
        intro H locs ls hG hl
        have hb13 : f8_way_b1 fu p3 aCosts p2 aLengthOf aLeasts x5_10 x6_11 = some rr13 := hb13
        have hG : GH D cI cZ layM q s ([iPageLength, iRoads, iRead, iAltered, iRanked, iStage, iFigures, iNewRoads, iTold, iRouted, iRouteSum], [jH], [aPage, aBeginOf, aEndOf, aLengthOf, aCosts, aRankOf, aRoadAt, aWorths, aMiddles, aLeasts, aBusy, aNewBegin, aNewEnd, aNewLength, aIsLeft, aAround, aWhole, aIsNeeded, aWereRanks, aWaitFrom, aWaitTo, aToldAt, aRisen, aUps, aTried, aRoutes]) H locs := hG
        have hl : lv_has ls 7 [(0, .ref (q 0)), (2, .int p2), (3, .int p3), (5, .int x5_10), (6, .int x6_11)] := hl
        unfold f8_way_b1 at hb13
        refine lv_iload hx hb dX8_way_53 (lv_at hl 4 rfl) ?_
        refine lv_iload_n hx hb dX8_way_55 rfl (lv_at hl 2 rfl) ?_
        refine lv_icmp_ge (tgt := 74) hx hb dX8_way_56 (by decide) (fun cb14 => ?_) (fun cb14 => ?_)
        · have hb13 := ite_t cb14 hb13
          have eo := hout13 _ (Option.some.inj hb13).symm
          cases eo
          exact JX13 H locs ls hG (lv_sub hl [3] rfl)
        · have hb13 := ite_f cb14 hb13
          refine lv_aload_n hx hb dX8_way_59 rfl (lv_at hl 0 rfl) ?_
          refine lv_iload hx hb dX8_way_60 (lv_at hl 3 rfl) ?_
          refine lv_iload_n hx hb dX8_way_62 rfl (lv_at hl 1 rfl) ?_
          obtain ⟨r_15, ec16, hb13⟩ := bnd1_some hb13
          refine g_callVr [.int x5_10, .int p2] [] 0 X hT hG ml_X8_164 (c_X8_nextOn hq ec16) rfl rfl rfl rfl rfl hl.1 (Nat.le_of_ble_eq_true rfl) (by rw [hR]; exact ⟨Nat.le_of_ble_eq_true rfl, Nat.le_of_ble_eq_true rfl⟩) dX8_way_63 (fun H locs hG => ?_)
          refine lv_istore (lv' := [(5, .int r_15), (0, .ref (q 0)), (2, .int p2), (3, .int p3), (6, .int x6_11)]) hx hb dX8_way_66 hl (by decide) rfl (fun ls hl => ?_)
          obtain ⟨x6_17, ex6_17⟩ : ∃ z : Int32, z = x6_11 + 1 := ⟨_, rfl⟩
          have hb13 := bd_e ex6_17 hb13
          refine lv_iinc (v := x6_17) (lv' := [(6, .int x6_17), (5, .int r_15), (0, .ref (q 0)), (2, .int p2), (3, .int p3)]) hx hb dX8_way_68 hl (k := 4) rfl (by rw [ex6_17]; rfl) (by decide) rfl (fun ls hl => ?_)
          refine lv_goto (tgt := 53) hx hb dX8_way_71 (by decide) ?_
          exact hin13 _ (Option.some.inj hb13).symm H locs ls hG (lv_sub hl [2, 3, 4, 1, 0] rfl)
      · have h := ite_t cb9 h
        refine lv_iconst (v := (-1)) hx hb dX8_way_45 (by decide) ?_
        cases h
        rw [hQ]
        exact g_iret X hT hG hr hlk dX8_way_46
  · have h := ite_t cb3 h
    refine lv_bipush (v := (-101)) hx hb dX8_way_9 (by decide) ?_
    cases h
    rw [hQ]
    exact g_iret X hT hG hr hlk dX8_way_11
def f8_layUnpacked_b1 (aMiddles : (Nat → Int32)) (x3_7 : Int32) (iTold_8 : Int32) (aWaitFrom_9 : (Nat → Int32)) (aWaitTo_10 : (Nat → Int32)) (aToldAt_11 : (Nat → Int32)) : Option ((Int32 × Int32 × (Nat → Int32) × (Nat → Int32) × (Nat → Int32)) ⊕ (Int32 × (Nat → Int32) × (Nat → Int32) × (Nat → Int32))) :=
  if x3_7 ≤ 0 then (some (.inr (iTold_8, aWaitFrom_9, aWaitTo_10, aToldAt_11))) else bd (x3_7 + (-1)) fun x3_18 => ckin x3_18 64 (bd ((aWaitFrom_9 x3_18.toNatClampNeg)) fun x4_20 => ckin x3_18 64 (bd ((aWaitTo_10 x3_18.toNatClampNeg)) fun x5_22 => ckin ((12 * x4_20) + x5_22) 144 (bd ((aMiddles ((12 * x4_20) + x5_22).toNatClampNeg)) fun x6_24 => bnd5 (if x6_24 = (-1) then (ckin iTold_8 64 (bd (upd aToldAt_11 iTold_8.toNatClampNeg x5_22) fun aToldAt_42 => bd ((iTold_8 + 1)) fun iTold_43 => some (x3_18, iTold_43, aWaitFrom_9, aWaitTo_10, aToldAt_42))) else ckin x3_18 64 (bd (upd aWaitFrom_9 x3_18.toNatClampNeg x6_24) fun aWaitFrom_33 => ckin x3_18 64 (bd (upd aWaitTo_10 x3_18.toNatClampNeg x5_22) fun aWaitTo_35 => ckin (x3_18 + 1) 64 (bd (upd aWaitFrom_33 (x3_18 + 1).toNatClampNeg x4_20) fun aWaitFrom_37 => ckin (x3_18 + 1) 64 (bd (upd aWaitTo_35 (x3_18 + 1).toNatClampNeg x6_24) fun aWaitTo_39 => bd (x3_18 + 2) fun x3_40 => some (x3_40, iTold_8, aWaitFrom_37, aWaitTo_39, aToldAt_11)))))) fun (x3_25 : Int32) (iTold_26 : Int32) (aWaitFrom_27 : (Nat → Int32)) (aWaitTo_28 : (Nat → Int32)) (aToldAt_29 : (Nat → Int32)) => some (.inl (x3_25, iTold_26, aWaitFrom_27, aWaitTo_28, aToldAt_29)))))
def f8_layUnpacked (fu : Nat) (aToldAt : (Nat → Int32)) (p1 : Int32) (aWaitFrom : (Nat → Int32)) (aWaitTo : (Nat → Int32)) (p2 : Int32) (aMiddles : (Nat → Int32)) : Option (Int32 × (Nat → Int32) × (Nat → Int32) × (Nat → Int32)) :=
  ckin 0 64 (bd (upd aToldAt (0 : Int32).toNatClampNeg p1) fun aToldAt_2 => ckin 0 64 (bd (upd aWaitFrom (0 : Int32).toNatClampNeg p1) fun aWaitFrom_4 => ckin 0 64 (bd (upd aWaitTo (0 : Int32).toNatClampNeg p2) fun aWaitTo_6 => bnd4 (lpG (fun z => f8_layUnpacked_b1 aMiddles z.1 z.2.1 z.2.2.1 z.2.2.2.1 z.2.2.2.2) fu ((1 : Int32), (1 : Int32), aWaitFrom_4, aWaitTo_6, aToldAt_2)) fun (iTold_12 : Int32) (aWaitFrom_13 : (Nat → Int32)) (aWaitTo_14 : (Nat → Int32)) (aToldAt_15 : (Nat → Int32)) => some (iTold_12, aWaitFrom_13, aWaitTo_14, aToldAt_15))))
set_option maxHeartbeats 4000000 in
set_option maxRecDepth 100000 in
theorem c_X8_layUnpacked (hq : gJ layM q) {fu : Nat} {p1 : Int32} {p2 : Int32} {o_iTold : Int32} {o_aWaitFrom : (Nat → Int32)} {o_aWaitTo : (Nat → Int32)} {o_aToldAt : (Nat → Int32)} (h : f8_layUnpacked fu aToldAt p1 aWaitFrom aWaitTo p2 aMiddles = some (o_iTold, o_aWaitFrom, o_aWaitTo, o_aToldAt)) :
    GM l yX8_layUnpacked cX8_layUnpacked 7 none 0 0 D cI cZ layM q [.ref (q 0), .int p1, .int p2] ([iPageLength, iRoads, iRead, iAltered, iRanked, iStage, iFigures, iNewRoads, iTold, iRouted, iRouteSum], [jH], [aPage, aBeginOf, aEndOf, aLengthOf, aCosts, aRankOf, aRoadAt, aWorths, aMiddles, aLeasts, aBusy, aNewBegin, aNewEnd, aNewLength, aIsLeft, aAround, aWhole, aIsNeeded, aWereRanks, aWaitFrom, aWaitTo, aToldAt, aRisen, aUps, aTried, aRoutes]) none ([iPageLength, iRoads, iRead, iAltered, iRanked, iStage, iFigures, iNewRoads, o_iTold, iRouted, iRouteSum], [jH], [aPage, aBeginOf, aEndOf, aLengthOf, aCosts, aRankOf, aRoadAt, aWorths, aMiddles, aLeasts, aBusy, aNewBegin, aNewEnd, aNewLength, aIsLeft, aAround, aWhole, aIsNeeded, aWereRanks, o_aWaitFrom, o_aWaitTo, o_aToldAt, aRisen, aUps, aTried, aRoutes]) := by
  refine GM.go RX8 (by decide) rfl (Nat.le_of_ble_eq_true rfl) ?_
  intro p e s m args below meth c ls R Q H locs X hr hlk hT hG hl hR hQ
  have hx := X.1
  have hb := X.2.1
  have hl : lv_has ls 7 [(0, .ref (q 0)), (1, .int p1), (2, .int p2)] := hl
  unfold f8_layUnpacked at h
  refine lv_aload_n hx hb dX8_layUnpacked_0 rfl (lv_at hl 0 rfl) ?_
  refine g_get (v := .ref (q 22)) X hT hG fl_X8_74 0 rfl rfl rfl dX8_layUnpacked_1 ?_
  refine lv_iconst (v := 0) hx hb dX8_layUnpacked_4 (by decide) ?_
  refine lv_iload_n hx hb dX8_layUnpacked_5 rfl (lv_at hl 1 rfl) ?_
  obtain ⟨hi1, h⟩ := ckin_some h
  obtain ⟨aToldAt_2, eaToldAt_2⟩ : ∃ z : Nat → Int32, z = upd aToldAt (0 : Int32).toNatClampNeg p1 := ⟨_, rfl⟩
  have h := bd_e eaToldAt_2 h
  refine g_ast (w' := ([iPageLength, iRoads, iRead, iAltered, iRanked, iStage, iFigures, iNewRoads, iTold, iRouted, iRouteSum], [jH], [aPage, aBeginOf, aEndOf, aLengthOf, aCosts, aRankOf, aRoadAt, aWorths, aMiddles, aLeasts, aBusy, aNewBegin, aNewEnd, aNewLength, aIsLeft, aAround, aWhole, aIsNeeded, aWereRanks, aWaitFrom, aWaitTo, aToldAt_2, aRisen, aUps, aTried, aRoutes])) X hT hq hG 22 rfl ga_M_aToldAt (Nat.le_of_ble_eq_true rfl) hi1 (by subst eaToldAt_2; rfl) dX8_layUnpacked_6 (fun H locs hG => ?_)
  refine lv_aload_n hx hb dX8_layUnpacked_7 rfl (lv_at hl 0 rfl) ?_
  refine lv_iconst (v := 1) hx hb dX8_layUnpacked_8 (by decide) ?_
  refine g_putI (w' := ([iPageLength, iRoads, iRead, iAltered, iRanked, iStage, iFigures, iNewRoads, 1, iRouted, iRouteSum], [jH], [aPage, aBeginOf, aEndOf, aLengthOf, aCosts, aRankOf, aRoadAt, aWorths, aMiddles, aLeasts, aBusy, aNewBegin, aNewEnd, aNewLength, aIsLeft, aAround, aWhole, aIsNeeded, aWereRanks, aWaitFrom, aWaitTo, aToldAt_2, aRisen, aUps, aTried, aRoutes])) X hT hq hG fp_X8_198 0 rfl rfl gu_M_iTold (Nat.le_of_ble_eq_true rfl) rfl dX8_layUnpacked_9 (fun H locs hG => ?_)
  refine lv_aload_n hx hb dX8_layUnpacked_12 rfl (lv_at hl 0 rfl) ?_
  refine g_get (v := .ref (q 20)) X hT hG fl_X8_68 0 rfl rfl rfl dX8_layUnpacked_13 ?_
  refine lv_iconst (v := 0) hx hb dX8_layUnpacked_16 (by decide) ?_
  refine lv_iload_n hx hb dX8_layUnpacked_17 rfl (lv_at hl 1 rfl) ?_
  obtain ⟨hi3, h⟩ := ckin_some h
  obtain ⟨aWaitFrom_4, eaWaitFrom_4⟩ : ∃ z : Nat → Int32, z = upd aWaitFrom (0 : Int32).toNatClampNeg p1 := ⟨_, rfl⟩
  have h := bd_e eaWaitFrom_4 h
  refine g_ast (w' := ([iPageLength, iRoads, iRead, iAltered, iRanked, iStage, iFigures, iNewRoads, 1, iRouted, iRouteSum], [jH], [aPage, aBeginOf, aEndOf, aLengthOf, aCosts, aRankOf, aRoadAt, aWorths, aMiddles, aLeasts, aBusy, aNewBegin, aNewEnd, aNewLength, aIsLeft, aAround, aWhole, aIsNeeded, aWereRanks, aWaitFrom_4, aWaitTo, aToldAt_2, aRisen, aUps, aTried, aRoutes])) X hT hq hG 20 rfl ga_M_aWaitFrom (Nat.le_of_ble_eq_true rfl) hi3 (by subst eaWaitFrom_4; rfl) dX8_layUnpacked_18 (fun H locs hG => ?_)
  refine lv_aload_n hx hb dX8_layUnpacked_19 rfl (lv_at hl 0 rfl) ?_
  refine g_get (v := .ref (q 21)) X hT hG fl_X8_71 0 rfl rfl rfl dX8_layUnpacked_20 ?_
  refine lv_iconst (v := 0) hx hb dX8_layUnpacked_23 (by decide) ?_
  refine lv_iload_n hx hb dX8_layUnpacked_24 rfl (lv_at hl 2 rfl) ?_
  obtain ⟨hi5, h⟩ := ckin_some h
  obtain ⟨aWaitTo_6, eaWaitTo_6⟩ : ∃ z : Nat → Int32, z = upd aWaitTo (0 : Int32).toNatClampNeg p2 := ⟨_, rfl⟩
  have h := bd_e eaWaitTo_6 h
  refine g_ast (w' := ([iPageLength, iRoads, iRead, iAltered, iRanked, iStage, iFigures, iNewRoads, 1, iRouted, iRouteSum], [jH], [aPage, aBeginOf, aEndOf, aLengthOf, aCosts, aRankOf, aRoadAt, aWorths, aMiddles, aLeasts, aBusy, aNewBegin, aNewEnd, aNewLength, aIsLeft, aAround, aWhole, aIsNeeded, aWereRanks, aWaitFrom_4, aWaitTo_6, aToldAt_2, aRisen, aUps, aTried, aRoutes])) X hT hq hG 21 rfl ga_M_aWaitTo (Nat.le_of_ble_eq_true rfl) hi5 (by subst eaWaitTo_6; rfl) dX8_layUnpacked_25 (fun H locs hG => ?_)
  refine lv_iconst (v := 1) hx hb dX8_layUnpacked_26 (by decide) ?_
  refine lv_istore_n (lv' := [(3, .int 1), (0, .ref (q 0)), (1, .int p1), (2, .int p2)]) hx hb dX8_layUnpacked_27 rfl hl (by decide) rfl (fun ls hl => ?_)
  obtain ⟨iTold_12, aWaitFrom_13, aWaitTo_14, aToldAt_15, eL16, h⟩ := bnd4_some h
  have JX16 : ∀ (H : Heap) (locs : List Loc) (ls : Array Slot), GH D cI cZ layM q s ([iPageLength, iRoads, iRead, iAltered, iRanked, iStage, iFigures, iNewRoads, iTold_12, iRouted, iRouteSum], [jH], [aPage, aBeginOf, aEndOf, aLengthOf, aCosts, aRankOf, aRoadAt, aWorths, aMiddles, aLeasts, aBusy, aNewBegin, aNewEnd, aNewLength, aIsLeft, aAround, aWhole, aIsNeeded, aWereRanks, aWaitFrom_13, aWaitTo_14, aToldAt_15, aRisen, aUps, aTried, aRoutes]) H locs → lv_has ls 7 [] → W p l e R s m args below meth c H locs 0 0 Q (F0 m 138 ls []) := by
    intro H locs ls hG hl
    cases h
    rw [hQ]
    exact g_vret X hT hG hr hlk dX8_layUnpacked_138
  refine lpG_W (Wh := fun z => ∀ (H : Heap) (locs : List Loc) (ls : Array Slot), GH D cI cZ layM q s ([iPageLength, iRoads, iRead, iAltered, iRanked, iStage, iFigures, iNewRoads, z.2.1, iRouted, iRouteSum], [jH], [aPage, aBeginOf, aEndOf, aLengthOf, aCosts, aRankOf, aRoadAt, aWorths, aMiddles, aLeasts, aBusy, aNewBegin, aNewEnd, aNewLength, aIsLeft, aAround, aWhole, aIsNeeded, aWereRanks, z.2.2.1, z.2.2.2.1, z.2.2.2.2, aRisen, aUps, aTried, aRoutes]) H locs → lv_has ls 7 [(0, .ref (q 0)), (3, .int (z.1))] → W p l e R s m args below meth c H locs 0 0 Q (F0 m 28 ls [])) ?_ fu _ eL16 H locs ls hG (lv_sub hl [1, 0] rfl)
  intro z rr16 hb16 hin16 hout16
  obtain ⟨x3_7, iTold_8, aWaitFrom_9, aWaitTo_10, aToldAt_11⟩ := z
  intro H locs ls hG hl
  have hb16 : f8_layUnpacked_b1 aMiddles x3_7 iTold_8 aWaitFrom_9 aWaitTo_10 aToldAt_11 = some rr16 := hb16
  have hG : GH D cI cZ layM q s ([iPageLength, iRoads, iRead, iAltered, iRanked, iStage, iFigures, iNewRoads, iTold_8, iRouted, iRouteSum], [jH], [aPage, aBeginOf, aEndOf, aLengthOf, aCosts, aRankOf, aRoadAt, aWorths, aMiddles, aLeasts, aBusy, aNewBegin, aNewEnd, aNewLength, aIsLeft, aAround, aWhole, aIsNeeded, aWereRanks, aWaitFrom_9, aWaitTo_10, aToldAt_11, aRisen, aUps, aTried, aRoutes]) H locs := hG
  have hl : lv_has ls 7 [(0, .ref (q 0)), (3, .int x3_7)] := hl
  unfold f8_layUnpacked_b1 at hb16
  refine lv_iload_n hx hb dX8_layUnpacked_28 rfl (lv_at hl 1 rfl) ?_
  refine lv_if_le (tgt := 138) hx hb dX8_layUnpacked_29 (by decide) (fun cb17 => ?_) (fun cb17 => ?_)
  · have hb16 := ite_t cb17 hb16
    have eo := hout16 _ (Option.some.inj hb16).symm
    cases eo
    exact JX16 H locs ls hG (lv_sub hl [] rfl)
  · have hb16 := ite_f cb17 hb16
    obtain ⟨x3_18, ex3_18⟩ : ∃ z : Int32, z = x3_7 + (-1) := ⟨_, rfl⟩
    have hb16 := bd_e ex3_18 hb16
    refine lv_iinc (v := x3_18) (lv' := [(3, .int x3_18), (0, .ref (q 0))]) hx hb dX8_layUnpacked_32 hl (k := 1) rfl (by rw [ex3_18]; rfl) (by decide) rfl (fun ls hl => ?_)
    refine lv_aload_n hx hb dX8_layUnpacked_35 rfl (lv_at hl 1 rfl) ?_
    refine g_get (v := .ref (q 20)) X hT hG fl_X8_68 0 rfl rfl rfl dX8_layUnpacked_36 ?_
    refine lv_iload_n hx hb dX8_layUnpacked_39 rfl (lv_at hl 0 rfl) ?_
    obtain ⟨hi19, hb16⟩ := ckin_some hb16
    refine g_ald (f := aWaitFrom_9) X hT hG 20 rfl rfl hi19 dX8_layUnpacked_40 ?_
    refine lv_topi (fun x4_20 ex4_20 => ?_)
    have hb16 := bd_e ex4_20 hb16
    refine lv_istore (lv' := [(4, .int x4_20), (3, .int x3_18), (0, .ref (q 0))]) hx hb dX8_layUnpacked_41 hl (by decide) rfl (fun ls hl => ?_)
    refine lv_aload_n hx hb dX8_layUnpacked_43 rfl (lv_at hl 2 rfl) ?_
    refine g_get (v := .ref (q 21)) X hT hG fl_X8_71 0 rfl rfl rfl dX8_layUnpacked_44 ?_
    refine lv_iload_n hx hb dX8_layUnpacked_47 rfl (lv_at hl 1 rfl) ?_
    obtain ⟨hi21, hb16⟩ := ckin_some hb16
    refine g_ald (f := aWaitTo_10) X hT hG 21 rfl rfl hi21 dX8_layUnpacked_48 ?_
    refine lv_topi (fun x5_22 ex5_22 => ?_)
    have hb16 := bd_e ex5_22 hb16
    refine lv_istore (lv' := [(5, .int x5_22), (4, .int x4_20), (3, .int x3_18), (0, .ref (q 0))]) hx hb dX8_layUnpacked_49 hl (by decide) rfl (fun ls hl => ?_)
    refine lv_aload_n hx hb dX8_layUnpacked_51 rfl (lv_at hl 3 rfl) ?_
    refine g_get (v := .ref (q 9)) X hT hG fl_X8_34 0 rfl rfl rfl dX8_layUnpacked_52 ?_
    refine lv_bipush (v := 12) hx hb dX8_layUnpacked_55 (by decide) ?_
    refine lv_iload hx hb dX8_layUnpacked_57 (lv_at hl 1 rfl) ?_
    refine lv_imul hx hb dX8_layUnpacked_59 ?_
    refine lv_iload hx hb dX8_layUnpacked_60 (lv_at hl 0 rfl) ?_
    refine lv_iadd hx hb dX8_layUnpacked_62 ?_
    obtain ⟨hi23, hb16⟩ := ckin_some hb16
    refine g_ald (f := aMiddles) X hT hG 9 rfl rfl hi23 dX8_layUnpacked_63 ?_
    refine lv_topi (fun x6_24 ex6_24 => ?_)
    have hb16 := bd_e ex6_24 hb16
    refine lv_istore (lv' := [(6, .int x6_24), (5, .int x5_22), (4, .int x4_20), (3, .int x3_18), (0, .ref (q 0))]) hx hb dX8_layUnpacked_64 hl (by decide) rfl (fun ls hl => ?_)
    refine lv_iload hx hb dX8_layUnpacked_66 (lv_at hl 0 rfl) ?_
    refine lv_iconst (v := (-1)) hx hb dX8_layUnpacked_68 (by decide) ?_
    obtain ⟨x3_25, iTold_26, aWaitFrom_27, aWaitTo_28, aToldAt_29, er30, hb16⟩ := bnd5_some hb16
    have J30 : ∀ (H : Heap) (locs : List Loc) (ls : Array Slot), GH D cI cZ layM q s ([iPageLength, iRoads, iRead, iAltered, iRanked, iStage, iFigures, iNewRoads, iTold_26, iRouted, iRouteSum], [jH], [aPage, aBeginOf, aEndOf, aLengthOf, aCosts, aRankOf, aRoadAt, aWorths, aMiddles, aLeasts, aBusy, aNewBegin, aNewEnd, aNewLength, aIsLeft, aAround, aWhole, aIsNeeded, aWereRanks, aWaitFrom_27, aWaitTo_28, aToldAt_29, aRisen, aUps, aTried, aRoutes]) H locs → lv_has ls 7 [(0, .ref (q 0)), (3, .int x3_25)] → W p l e R s m args below meth c H locs 0 0 Q (F0 m 135 ls []) := by
      intro H locs ls hG hl
      refine lv_goto (tgt := 28) hx hb dX8_layUnpacked_135 (by decide) ?_
      exact hin16 _ (Option.some.inj hb16).symm H locs ls hG (lv_sub hl [0, 1] rfl)
    refine lv_icmp_ne (tgt := 96) hx hb dX8_layUnpacked_69 (by decide) (fun cb31 => ?_) (fun cb31 => ?_)
    · have er30 := ite_f cb31 er30
      refine lv_aload_n hx hb dX8_layUnpacked_96 rfl (lv_at hl 4 rfl) ?_
      refine g_get (v := .ref (q 20)) X hT hG fl_X8_68 0 rfl rfl rfl dX8_layUnpacked_97 ?_
      refine lv_iload_n hx hb dX8_layUnpacked_100 rfl (lv_at hl 3 rfl) ?_
      refine lv_iload hx hb dX8_layUnpacked_101 (lv_at hl 0 rfl) ?_
      obtain ⟨hi32, er30⟩ := ckin_some er30
      obtain ⟨aWaitFrom_33, eaWaitFrom_33⟩ : ∃ z : Nat → Int32, z = upd aWaitFrom_9 x3_18.toNatClampNeg x6_24 := ⟨_, rfl⟩
      have er30 := bd_e eaWaitFrom_33 er30
      refine g_ast (w' := ([iPageLength, iRoads, iRead, iAltered, iRanked, iStage, iFigures, iNewRoads, iTold_8, iRouted, iRouteSum], [jH], [aPage, aBeginOf, aEndOf, aLengthOf, aCosts, aRankOf, aRoadAt, aWorths, aMiddles, aLeasts, aBusy, aNewBegin, aNewEnd, aNewLength, aIsLeft, aAround, aWhole, aIsNeeded, aWereRanks, aWaitFrom_33, aWaitTo_10, aToldAt_11, aRisen, aUps, aTried, aRoutes])) X hT hq hG 20 rfl ga_M_aWaitFrom (Nat.le_of_ble_eq_true rfl) hi32 (by subst eaWaitFrom_33; rfl) dX8_layUnpacked_103 (fun H locs hG => ?_)
      refine lv_aload_n hx hb dX8_layUnpacked_104 rfl (lv_at hl 4 rfl) ?_
      refine g_get (v := .ref (q 21)) X hT hG fl_X8_71 0 rfl rfl rfl dX8_layUnpacked_105 ?_
      refine lv_iload_n hx hb dX8_layUnpacked_108 rfl (lv_at hl 3 rfl) ?_
      refine lv_iload hx hb dX8_layUnpacked_109 (lv_at hl 1 rfl) ?_
      obtain ⟨hi34, er30⟩ := ckin_some er30
      obtain ⟨aWaitTo_35, eaWaitTo_35⟩ : ∃ z : Nat → Int32, z = upd aWaitTo_10 x3_18.toNatClampNeg x5_22 := ⟨_, rfl⟩
      have er30 := bd_e eaWaitTo_35 er30
      refine g_ast (w' := ([iPageLength, iRoads, iRead, iAltered, iRanked, iStage, iFigures, iNewRoads, iTold_8, iRouted, iRouteSum], [jH], [aPage, aBeginOf, aEndOf, aLengthOf, aCosts, aRankOf, aRoadAt, aWorths, aMiddles, aLeasts, aBusy, aNewBegin, aNewEnd, aNewLength, aIsLeft, aAround, aWhole, aIsNeeded, aWereRanks, aWaitFrom_33, aWaitTo_35, aToldAt_11, aRisen, aUps, aTried, aRoutes])) X hT hq hG 21 rfl ga_M_aWaitTo (Nat.le_of_ble_eq_true rfl) hi34 (by subst eaWaitTo_35; rfl) dX8_layUnpacked_111 (fun H locs hG => ?_)
      refine lv_aload_n hx hb dX8_layUnpacked_112 rfl (lv_at hl 4 rfl) ?_
      refine g_get (v := .ref (q 20)) X hT hG fl_X8_68 0 rfl rfl rfl dX8_layUnpacked_113 ?_
      refine lv_iload_n hx hb dX8_layUnpacked_116 rfl (lv_at hl 3 rfl) ?_
      refine lv_iconst (v := 1) hx hb dX8_layUnpacked_117 (by decide) ?_
      refine lv_iadd hx hb dX8_layUnpacked_118 ?_
      refine lv_iload hx hb dX8_layUnpacked_119 (lv_at hl 2 rfl) ?_
      obtain ⟨hi36, er30⟩ := ckin_some er30
      obtain ⟨aWaitFrom_37, eaWaitFrom_37⟩ : ∃ z : Nat → Int32, z = upd aWaitFrom_33 (x3_18 + 1).toNatClampNeg x4_20 := ⟨_, rfl⟩
      have er30 := bd_e eaWaitFrom_37 er30
      refine g_ast (w' := ([iPageLength, iRoads, iRead, iAltered, iRanked, iStage, iFigures, iNewRoads, iTold_8, iRouted, iRouteSum], [jH], [aPage, aBeginOf, aEndOf, aLengthOf, aCosts, aRankOf, aRoadAt, aWorths, aMiddles, aLeasts, aBusy, aNewBegin, aNewEnd, aNewLength, aIsLeft, aAround, aWhole, aIsNeeded, aWereRanks, aWaitFrom_37, aWaitTo_35, aToldAt_11, aRisen, aUps, aTried, aRoutes])) X hT hq hG 20 rfl ga_M_aWaitFrom (Nat.le_of_ble_eq_true rfl) hi36 (by subst eaWaitFrom_37; rfl) dX8_layUnpacked_121 (fun H locs hG => ?_)
      refine lv_aload_n hx hb dX8_layUnpacked_122 rfl (lv_at hl 4 rfl) ?_
      refine g_get (v := .ref (q 21)) X hT hG fl_X8_71 0 rfl rfl rfl dX8_layUnpacked_123 ?_
      refine lv_iload_n hx hb dX8_layUnpacked_126 rfl (lv_at hl 3 rfl) ?_
      refine lv_iconst (v := 1) hx hb dX8_layUnpacked_127 (by decide) ?_
      refine lv_iadd hx hb dX8_layUnpacked_128 ?_
      refine lv_iload hx hb dX8_layUnpacked_129 (lv_at hl 0 rfl) ?_
      obtain ⟨hi38, er30⟩ := ckin_some er30
      obtain ⟨aWaitTo_39, eaWaitTo_39⟩ : ∃ z : Nat → Int32, z = upd aWaitTo_35 (x3_18 + 1).toNatClampNeg x6_24 := ⟨_, rfl⟩
      have er30 := bd_e eaWaitTo_39 er30
      refine g_ast (w' := ([iPageLength, iRoads, iRead, iAltered, iRanked, iStage, iFigures, iNewRoads, iTold_8, iRouted, iRouteSum], [jH], [aPage, aBeginOf, aEndOf, aLengthOf, aCosts, aRankOf, aRoadAt, aWorths, aMiddles, aLeasts, aBusy, aNewBegin, aNewEnd, aNewLength, aIsLeft, aAround, aWhole, aIsNeeded, aWereRanks, aWaitFrom_37, aWaitTo_39, aToldAt_11, aRisen, aUps, aTried, aRoutes])) X hT hq hG 21 rfl ga_M_aWaitTo (Nat.le_of_ble_eq_true rfl) hi38 (by subst eaWaitTo_39; rfl) dX8_layUnpacked_131 (fun H locs hG => ?_)
      obtain ⟨x3_40, ex3_40⟩ : ∃ z : Int32, z = x3_18 + 2 := ⟨_, rfl⟩
      have er30 := bd_e ex3_40 er30
      refine lv_iinc (v := x3_40) (lv' := [(3, .int x3_40), (6, .int x6_24), (5, .int x5_22), (4, .int x4_20), (0, .ref (q 0))]) hx hb dX8_layUnpacked_132 hl (k := 3) rfl (by rw [ex3_40]; rfl) (by decide) rfl (fun ls hl => ?_)
      cases er30
      exact J30 H locs ls hG (lv_sub hl [4, 0] rfl)
    · have er30 := ite_t cb31 er30
      refine lv_aload_n hx hb dX8_layUnpacked_72 rfl (lv_at hl 4 rfl) ?_
      refine g_get (v := .ref (q 22)) X hT hG fl_X8_74 0 rfl rfl rfl dX8_layUnpacked_73 ?_
      refine lv_aload_n hx hb dX8_layUnpacked_76 rfl (lv_at hl 4 rfl) ?_
      refine g_get (v := .int iTold_8) X hT hG fl_X8_198 0 rfl rfl rfl dX8_layUnpacked_77 ?_
      refine lv_iload hx hb dX8_layUnpacked_80 (lv_at hl 1 rfl) ?_
      obtain ⟨hi41, er30⟩ := ckin_some er30
      obtain ⟨aToldAt_42, eaToldAt_42⟩ : ∃ z : Nat → Int32, z = upd aToldAt_11 iTold_8.toNatClampNeg x5_22 := ⟨_, rfl⟩
      have er30 := bd_e eaToldAt_42 er30
      refine g_ast (w' := ([iPageLength, iRoads, iRead, iAltered, iRanked, iStage, iFigures, iNewRoads, iTold_8, iRouted, iRouteSum], [jH], [aPage, aBeginOf, aEndOf, aLengthOf, aCosts, aRankOf, aRoadAt, aWorths, aMiddles, aLeasts, aBusy, aNewBegin, aNewEnd, aNewLength, aIsLeft, aAround, aWhole, aIsNeeded, aWereRanks, aWaitFrom_9, aWaitTo_10, aToldAt_42, aRisen, aUps, aTried, aRoutes])) X hT hq hG 22 rfl ga_M_aToldAt (Nat.le_of_ble_eq_true rfl) hi41 (by subst eaToldAt_42; rfl) dX8_layUnpacked_82 (fun H locs hG => ?_)
      refine lv_aload_n hx hb dX8_layUnpacked_83 rfl (lv_at hl 4 rfl) ?_
      refine lv_dup hx hb dX8_layUnpacked_84 rfl ?_
      refine g_get (v := .int iTold_8) X hT hG fl_X8_198 0 rfl rfl rfl dX8_layUnpacked_85 ?_
      refine lv_iconst (v := 1) hx hb dX8_layUnpacked_88 (by decide) ?_
      refine lv_iadd hx hb dX8_layUnpacked_89 ?_
      refine lv_topi (fun iTold_43 eiTold_43 => ?_)
      have er30 := bd_e eiTold_43 er30
      refine g_putI (w' := ([iPageLength, iRoads, iRead, iAltered, iRanked, iStage, iFigures, iNewRoads, iTold_43, iRouted, iRouteSum], [jH], [aPage, aBeginOf, aEndOf, aLengthOf, aCosts, aRankOf, aRoadAt, aWorths, aMiddles, aLeasts, aBusy, aNewBegin, aNewEnd, aNewLength, aIsLeft, aAround, aWhole, aIsNeeded, aWereRanks, aWaitFrom_9, aWaitTo_10, aToldAt_42, aRisen, aUps, aTried, aRoutes])) X hT hq hG fp_X8_198 0 rfl rfl gu_M_iTold (Nat.le_of_ble_eq_true rfl) rfl dX8_layUnpacked_90 (fun H locs hG => ?_)
      refine lv_goto (tgt := 135) hx hb dX8_layUnpacked_93 (by decide) ?_
      cases er30
      exact J30 H locs ls hG (lv_sub hl [4, 3] rfl)
end
