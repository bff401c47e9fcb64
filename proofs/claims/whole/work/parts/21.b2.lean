section
variable {l : Launch} {D : va_G} {cI cZ : ClassId} {q : Nat → Nat} {iReadings iAlterations iRankings iLetters iCurrent iDue iSize iLsize : Int32} {gCosts gWorths gMiddles gApart gApartWithout gNeeded gUps gDowns gKeys gNexts gShutKeys aCodes aPbegins aPends aPlengths aBegins aEnds aLengths aRanks aRoadsByRank aRow aRanksBefore aBusy aOpen aShut : Nat → Int32}
set_option maxHeartbeats 4000000 in
set_option maxRecDepth 100000 in
theorem c_X1_set_7 (hq : gJ layB q) {p1 : Int32} {p2 : Int32} {p3 : Int32} {o_gDowns : (Nat → Int32)} (h : f1_set p1 p2 gDowns p3 = some o_gDowns) :
    GM l yX1_set cX1_set 4 none 0 0 D cI cZ layB q [.ref (q 7), .int p1, .int p2, .int p3] ([iReadings, iAlterations, iRankings, iLetters, iCurrent, iDue, iSize, iLsize], [], [gCosts, gWorths, gMiddles, gApart, gApartWithout, gNeeded, gUps, gDowns, gKeys, gNexts, gShutKeys, aCodes, aPbegins, aPends, aPlengths, aBegins, aEnds, aLengths, aRanks, aRoadsByRank, aRow, aRanksBefore, aBusy, aOpen, aShut]) none ([iReadings, iAlterations, iRankings, iLetters, iCurrent, iDue, iSize, iLsize], [], [gCosts, gWorths, gMiddles, gApart, gApartWithout, gNeeded, gUps, o_gDowns, gKeys, gNexts, gShutKeys, aCodes, aPbegins, aPends, aPlengths, aBegins, aEnds, aLengths, aRanks, aRoadsByRank, aRow, aRanksBefore, aBusy, aOpen, aShut]) := by
  refine GM.go RX1 (by decide) rfl (Nat.le_of_ble_eq_true rfl) ?_
  intro p e s m args below meth c ls R Q H locs X hr hlk hT hG hl hR hQ
  have hx := X.1
  have hb := X.2.1
  have hl : lv_has ls 4 [(0, .ref (q 7)), (1, .int p1), (2, .int p2), (3, .int p3)] := hl
  unfold f1_set at h
  refine lv_aload_n hx hb dX1_set_0 rfl (lv_at hl 0 rfl) ?_
  refine g_get (v := .ref (q 18)) X hT hG fl_X1_9 7 rfl rfl rfl dX1_set_1 ?_
  refine lv_iload_n hx hb dX1_set_4 rfl (lv_at hl 1 rfl) ?_
  refine lv_bipush (v := 12) hx hb dX1_set_5 (by decide) ?_
  refine lv_imul hx hb dX1_set_7 ?_
  refine lv_iload_n hx hb dX1_set_8 rfl (lv_at hl 2 rfl) ?_
  refine lv_iadd hx hb dX1_set_9 ?_
  refine lv_iload_n hx hb dX1_set_10 rfl (lv_at hl 3 rfl) ?_
  obtain ⟨hi1, h⟩ := ckin_some h
  obtain ⟨gDowns_2, egDowns_2⟩ : ∃ z : Nat → Int32, z = upd gDowns ((p1 * 12) + p2).toNatClampNeg p3 := ⟨_, rfl⟩
  have h := bd_e egDowns_2 h
  refine g_ast (w' := ([iReadings, iAlterations, iRankings, iLetters, iCurrent, iDue, iSize, iLsize], [], [gCosts, gWorths, gMiddles, gApart, gApartWithout, gNeeded, gUps, gDowns_2, gKeys, gNexts, gShutKeys, aCodes, aPbegins, aPends, aPlengths, aBegins, aEnds, aLengths, aRanks, aRoadsByRank, aRow, aRanksBefore, aBusy, aOpen, aShut])) X hT hq hG 18 rfl ga_B_gDowns (Nat.le_of_ble_eq_true rfl) hi1 (by subst egDowns_2; rfl) dX1_set_11 (fun H locs hG => ?_)
  cases h
  rw [hQ]
  exact g_vret X hT hG hr hlk dX1_set_12
set_option maxHeartbeats 4000000 in
set_option maxRecDepth 100000 in
theorem c_X1_get_6 (hq : gJ layB q) {p1 : Int32} {p2 : Int32} {o_r : Int32} (h : f1_get p1 p2 gUps = some o_r) :
    GM l yX1_get cX1_get 3 (some .int) 0 0 D cI cZ layB q [.ref (q 6), .int p1, .int p2] ([iReadings, iAlterations, iRankings, iLetters, iCurrent, iDue, iSize, iLsize], [], [gCosts, gWorths, gMiddles, gApart, gApartWithout, gNeeded, gUps, gDowns, gKeys, gNexts, gShutKeys, aCodes, aPbegins, aPends, aPlengths, aBegins, aEnds, aLengths, aRanks, aRoadsByRank, aRow, aRanksBefore, aBusy, aOpen, aShut]) (some (.int o_r)) ([iReadings, iAlterations, iRankings, iLetters, iCurrent, iDue, iSize, iLsize], [], [gCosts, gWorths, gMiddles, gApart, gApartWithout, gNeeded, gUps, gDowns, gKeys, gNexts, gShutKeys, aCodes, aPbegins, aPends, aPlengths, aBegins, aEnds, aLengths, aRanks, aRoadsByRank, aRow, aRanksBefore, aBusy, aOpen, aShut]) := by
  refine GM.go RX1 (by decide) rfl (Nat.le_of_ble_eq_true rfl) ?_
  intro p e s m args below meth c ls R Q H locs X hr hlk hT hG hl hR hQ
  have hx := X.1
  have hb := X.2.1
  have hl : lv_has ls 3 [(0, .ref (q 6)), (1, .int p1), (2, .int p2)] := hl
  unfold f1_get at h
  refine lv_aload_n hx hb dX1_get_0 rfl (lv_at hl 0 rfl) ?_
  refine g_get (v := .ref (q 17)) X hT hG fl_X1_9 6 rfl rfl rfl dX1_get_1 ?_
  refine lv_iload_n hx hb dX1_get_4 rfl (lv_at hl 1 rfl) ?_
  refine lv_bipush (v := 12) hx hb dX1_get_5 (by decide) ?_
  refine lv_imul hx hb dX1_get_7 ?_
  refine lv_iload_n hx hb dX1_get_8 rfl (lv_at hl 2 rfl) ?_
  refine lv_iadd hx hb dX1_get_9 ?_
  obtain ⟨hi1, h⟩ := ckin_some h
  refine g_ald (f := gUps) X hT hG 17 rfl rfl hi1 dX1_get_10 ?_
  cases h
  rw [hQ]
  exact g_iret X hT hG hr hlk dX1_get_11
set_option maxHeartbeats 4000000 in
set_option maxRecDepth 100000 in
theorem c_X1_shortenRow_6 (hq : gJ layB q) {fu : Nat} {p1 : Int32} {p2 : Int32} {p3 : Int32} {p4 : Int32} {o_gUps : (Nat → Int32)} (h : f1_shortenRow fu p1 p2 p4 p3 gUps = some o_gUps) :
    GM l yX1_shortenRow cX1_shortenRow 9 none 0 0 D cI cZ layB q [.ref (q 6), .int p1, .int p2, .int p3, .int p4] ([iReadings, iAlterations, iRankings, iLetters, iCurrent, iDue, iSize, iLsize], [], [gCosts, gWorths, gMiddles, gApart, gApartWithout, gNeeded, gUps, gDowns, gKeys, gNexts, gShutKeys, aCodes, aPbegins, aPends, aPlengths, aBegins, aEnds, aLengths, aRanks, aRoadsByRank, aRow, aRanksBefore, aBusy, aOpen, aShut]) none ([iReadings, iAlterations, iRankings, iLetters, iCurrent, iDue, iSize, iLsize], [], [gCosts, gWorths, gMiddles, gApart, gApartWithout, gNeeded, o_gUps, gDowns, gKeys, gNexts, gShutKeys, aCodes, aPbegins, aPends, aPlengths, aBegins, aEnds, aLengths, aRanks, aRoadsByRank, aRow, aRanksBefore, aBusy, aOpen, aShut]) := by
  refine GM.go RX1 (by decide) rfl (Nat.le_of_ble_eq_true rfl) ?_
  intro p e s m args below meth c ls R Q H locs X hr hlk hT hG hl hR hQ
  have hx := X.1
  have hb := X.2.1
  have hl : lv_has ls 9 [(0, .ref (q 6)), (1, .int p1), (2, .int p2), (3, .int p3), (4, .int p4)] := hl
  unfold f1_shortenRow at h
  refine lv_iload_n hx hb dX1_shortenRow_0 rfl (lv_at hl 1 rfl) ?_
  refine lv_bipush (v := 12) hx hb dX1_shortenRow_1 (by decide) ?_
  refine lv_imul hx hb dX1_shortenRow_3 ?_
  refine lv_topi (fun x5_1 ex5_1 => ?_)
  have h := bd_e ex5_1 h
  refine lv_istore (lv' := [(5, .int x5_1), (0, .ref (q 6)), (1, .int p1), (2, .int p2), (3, .int p3), (4, .int p4)]) hx hb dX1_shortenRow_4 hl (by decide) rfl (fun ls hl => ?_)
  refine lv_iload_n hx hb dX1_shortenRow_6 rfl (lv_at hl 3 rfl) ?_
  refine lv_bipush (v := 12) hx hb dX1_shortenRow_7 (by decide) ?_
  refine lv_imul hx hb dX1_shortenRow_9 ?_
  refine lv_topi (fun x6_2 ex6_2 => ?_)
  have h := bd_e ex6_2 h
  refine lv_istore (lv' := [(6, .int x6_2), (5, .int x5_1), (0, .ref (q 6)), (1, .int p1), (2, .int p2), (3, .int p3), (4, .int p4)]) hx hb dX1_shortenRow_10 hl (by decide) rfl (fun ls hl => ?_)
  refine lv_iconst (v := 0) hx hb dX1_shortenRow_12 (by decide) ?_
  refine lv_istore (lv' := [(7, .int 0), (6, .int x6_2), (5, .int x5_1), (0, .ref (q 6)), (1, .int p1), (2, .int p2), (3, .int p3), (4, .int p4)]) hx hb dX1_shortenRow_13 hl (by decide) rfl (fun ls hl => ?_)
  obtain ⟨gUps_5, eL6, h⟩ := bnd1_some h
  have JX6 : ∀ (H : Heap) (locs : List Loc) (ls : Array Slot), GH D cI cZ layB q s ([iReadings, iAlterations, iRankings, iLetters, iCurrent, iDue, iSize, iLsize], [], [gCosts, gWorths, gMiddles, gApart, gApartWithout, gNeeded, gUps_5, gDowns, gKeys, gNexts, gShutKeys, aCodes, aPbegins, aPends, aPlengths, aBegins, aEnds, aLengths, aRanks, aRoadsByRank, aRow, aRanksBefore, aBusy, aOpen, aShut]) H locs → lv_has ls 9 [] → W p l e R s m args below meth c H locs 0 0 Q (F0 m 69 ls []) := by
    intro H locs ls hG hl
    cases h
    rw [hQ]
    exact g_vret X hT hG hr hlk dX1_shortenRow_69
  refine lpG_W (Wh := fun z => ∀ (H : Heap) (locs : List Loc) (ls : Array Slot), GH D cI cZ layB q s ([iReadings, iAlterations, iRankings, iLetters, iCurrent, iDue, iSize, iLsize], [], [gCosts, gWorths, gMiddles, gApart, gApartWithout, gNeeded, z.2, gDowns, gKeys, gNexts, gShutKeys, aCodes, aPbegins, aPends, aPlengths, aBegins, aEnds, aLengths, aRanks, aRoadsByRank, aRow, aRanksBefore, aBusy, aOpen, aShut]) H locs → lv_has ls 9 [(0, .ref (q 6)), (3, .int p3), (4, .int p4), (5, .int x5_1), (6, .int x6_2), (7, .int (z.1))] → W p l e R s m args below meth c H locs 0 0 Q (F0 m 15 ls [])) ?_ fu _ eL6 H locs ls hG (lv_sub hl [3, 6, 7, 2, 1, 0] rfl)
  intro z rr6 hb6 hin6 hout6
  obtain ⟨x7_3, gUps_4⟩ := z
  intro H locs ls hG hl
  have hb6 : f1_shortenRow_b1 p4 x6_2 p3 x5_1 x7_3 gUps_4 = some rr6 := hb6
  have hG : GH D cI cZ layB q s ([iReadings, iAlterations, iRankings, iLetters, iCurrent, iDue, iSize, iLsize], [], [gCosts, gWorths, gMiddles, gApart, gApartWithout, gNeeded, gUps_4, gDowns, gKeys, gNexts, gShutKeys, aCodes, aPbegins, aPends, aPlengths, aBegins, aEnds, aLengths, aRanks, aRoadsByRank, aRow, aRanksBefore, aBusy, aOpen, aShut]) H locs := hG
  have hl : lv_has ls 9 [(0, .ref (q 6)), (3, .int p3), (4, .int p4), (5, .int x5_1), (6, .int x6_2), (7, .int x7_3)] := hl
  unfold f1_shortenRow_b1 at hb6
  refine lv_iload hx hb dX1_shortenRow_15 (lv_at hl 5 rfl) ?_
  refine lv_iload hx hb dX1_shortenRow_17 (lv_at hl 2 rfl) ?_
  refine lv_icmp_ge (tgt := 69) hx hb dX1_shortenRow_19 (by decide) (fun cb7 => ?_) (fun cb7 => ?_)
  · have hb6 := ite_t cb7 hb6
    have eo := hout6 _ (Option.some.inj hb6).symm
    cases eo
    exact JX6 H locs ls hG (lv_sub hl [] rfl)
  · have hb6 := ite_f cb7 hb6
    refine lv_iload_n hx hb dX1_shortenRow_22 rfl (lv_at hl 1 rfl) ?_
    refine lv_aload_n hx hb dX1_shortenRow_23 rfl (lv_at hl 0 rfl) ?_
    refine g_get (v := .ref (q 17)) X hT hG fl_X1_9 6 rfl rfl rfl dX1_shortenRow_24 ?_
    refine lv_iload hx hb dX1_shortenRow_27 (lv_at hl 4 rfl) ?_
    refine lv_iload hx hb dX1_shortenRow_29 (lv_at hl 5 rfl) ?_
    refine lv_iadd hx hb dX1_shortenRow_31 ?_
    obtain ⟨hi8, hb6⟩ := ckin_some hb6
    refine g_ald (f := gUps_4) X hT hG 17 rfl rfl hi8 dX1_shortenRow_32 ?_
    refine lv_iadd hx hb dX1_shortenRow_33 ?_
    refine lv_topi (fun x8_9 ex8_9 => ?_)
    have hb6 := bd_e ex8_9 hb6
    refine lv_istore (lv' := [(8, .int x8_9), (0, .ref (q 6)), (3, .int p3), (4, .int p4), (5, .int x5_1), (6, .int x6_2), (7, .int x7_3)]) hx hb dX1_shortenRow_34 hl (by decide) rfl (fun ls hl => ?_)
    refine lv_iload hx hb dX1_shortenRow_36 (lv_at hl 0 rfl) ?_
    refine lv_aload_n hx hb dX1_shortenRow_38 rfl (lv_at hl 1 rfl) ?_
    refine g_get (v := .ref (q 17)) X hT hG fl_X1_9 6 rfl rfl rfl dX1_shortenRow_39 ?_
    refine lv_iload hx hb dX1_shortenRow_42 (lv_at hl 4 rfl) ?_
    refine lv_iload hx hb dX1_shortenRow_44 (lv_at hl 6 rfl) ?_
    refine lv_iadd hx hb dX1_shortenRow_46 ?_
    obtain ⟨hi10, hb6⟩ := ckin_some hb6
    refine g_ald (f := gUps_4) X hT hG 17 rfl rfl hi10 dX1_shortenRow_47 ?_
    obtain ⟨gUps_11, er12, hb6⟩ := bnd1_some hb6
    have J12 : ∀ (H : Heap) (locs : List Loc) (ls : Array Slot), GH D cI cZ layB q s ([iReadings, iAlterations, iRankings, iLetters, iCurrent, iDue, iSize, iLsize], [], [gCosts, gWorths, gMiddles, gApart, gApartWithout, gNeeded, gUps_11, gDowns, gKeys, gNexts, gShutKeys, aCodes, aPbegins, aPends, aPlengths, aBegins, aEnds, aLengths, aRanks, aRoadsByRank, aRow, aRanksBefore, aBusy, aOpen, aShut]) H locs → lv_has ls 9 [(0, .ref (q 6)), (3, .int p3), (4, .int p4), (5, .int x5_1), (6, .int x6_2), (7, .int x7_3)] → W p l e R s m args below meth c H locs 0 0 Q (F0 m 63 ls []) := by
      intro H locs ls hG hl
      obtain ⟨x7_16, ex7_16⟩ : ∃ z : Int32, z = x7_3 + 1 := ⟨_, rfl⟩
      have hb6 := bd_e ex7_16 hb6
      refine lv_iinc (v := x7_16) (lv' := [(7, .int x7_16), (0, .ref (q 6)), (3, .int p3), (4, .int p4), (5, .int x5_1), (6, .int x6_2)]) hx hb dX1_shortenRow_63 hl (k := 5) rfl (by rw [ex7_16]; rfl) (by decide) rfl (fun ls hl => ?_)
      refine lv_goto (tgt := 15) hx hb dX1_shortenRow_66 (by decide) ?_
      exact hin6 _ (Option.some.inj hb6).symm H locs ls hG (lv_sub hl [1, 2, 3, 4, 5, 0] rfl)
    refine lv_icmp_ge (tgt := 63) hx hb dX1_shortenRow_48 (by decide) (fun cb13 => ?_) (fun cb13 => ?_)
    · have er12 := ite_t cb13 er12
      cases er12
      exact J12 H locs ls hG (lv_sub hl [1, 2, 3, 4, 5, 6] rfl)
    · have er12 := ite_f cb13 er12
      refine lv_aload_n hx hb dX1_shortenRow_51 rfl (lv_at hl 1 rfl) ?_
      refine g_get (v := .ref (q 17)) X hT hG fl_X1_9 6 rfl rfl rfl dX1_shortenRow_52 ?_
      refine lv_iload hx hb dX1_shortenRow_55 (lv_at hl 4 rfl) ?_
      refine lv_iload hx hb dX1_shortenRow_57 (lv_at hl 6 rfl) ?_
      refine lv_iadd hx hb dX1_shortenRow_59 ?_
      refine lv_iload hx hb dX1_shortenRow_60 (lv_at hl 0 rfl) ?_
      obtain ⟨hi14, er12⟩ := ckin_some er12
      obtain ⟨gUps_15, egUps_15⟩ : ∃ z : Nat → Int32, z = upd gUps_4 (x5_1 + x7_3).toNatClampNeg x8_9 := ⟨_, rfl⟩
      have er12 := bd_e egUps_15 er12
      refine g_ast (w' := ([iReadings, iAlterations, iRankings, iLetters, iCurrent, iDue, iSize, iLsize], [], [gCosts, gWorths, gMiddles, gApart, gApartWithout, gNeeded, gUps_15, gDowns, gKeys, gNexts, gShutKeys, aCodes, aPbegins, aPends, aPlengths, aBegins, aEnds, aLengths, aRanks, aRoadsByRank, aRow, aRanksBefore, aBusy, aOpen, aShut])) X hT hq hG 17 rfl ga_B_gUps (Nat.le_of_ble_eq_true rfl) hi14 (by subst egUps_15; rfl) dX1_shortenRow_62 (fun H locs hG => ?_)
      cases er12
      exact J12 H locs ls hG (lv_sub hl [1, 2, 3, 4, 5, 6] rfl)
set_option maxHeartbeats 4000000 in
set_option maxRecDepth 100000 in
theorem c_X1_shorten_6 (hq : gJ layB q) {fu : Nat} {p1 : Int32} {o_gUps : (Nat → Int32)} (h : f1_shorten fu p1 gUps = some o_gUps) :
    GM l yX1_shorten cX1_shorten 5 none 1 28 D cI cZ layB q [.ref (q 6), .int p1] ([iReadings, iAlterations, iRankings, iLetters, iCurrent, iDue, iSize, iLsize], [], [gCosts, gWorths, gMiddles, gApart, gApartWithout, gNeeded, gUps, gDowns, gKeys, gNexts, gShutKeys, aCodes, aPbegins, aPends, aPlengths, aBegins, aEnds, aLengths, aRanks, aRoadsByRank, aRow, aRanksBefore, aBusy, aOpen, aShut]) none ([iReadings, iAlterations, iRankings, iLetters, iCurrent, iDue, iSize, iLsize], [], [gCosts, gWorths, gMiddles, gApart, gApartWithout, gNeeded, o_gUps, gDowns, gKeys, gNexts, gShutKeys, aCodes, aPbegins, aPends, aPlengths, aBegins, aEnds, aLengths, aRanks, aRoadsByRank, aRow, aRanksBefore, aBusy, aOpen, aShut]) := by
  refine GM.go RX1 (by decide) rfl (Nat.le_of_ble_eq_true rfl) ?_
  intro p e s m args below meth c ls R Q H locs X hr hlk hT hG hl hR hQ
  have hx := X.1
  have hb := X.2.1
  have hl : lv_has ls 5 [(0, .ref (q 6)), (1, .int p1)] := hl
  unfold f1_shorten at h
  refine lv_iconst (v := 0) hx hb dX1_shorten_0 (by decide) ?_
  refine lv_istore_n (lv' := [(2, .int 0), (0, .ref (q 6)), (1, .int p1)]) hx hb dX1_shorten_1 rfl hl (by decide) rfl (fun ls hl => ?_)
  obtain ⟨gUps_3, eL4, h⟩ := bnd1_some h
  have JX4 : ∀ (H : Heap) (locs : List Loc) (ls : Array Slot), GH D cI cZ layB q s ([iReadings, iAlterations, iRankings, iLetters, iCurrent, iDue, iSize, iLsize], [], [gCosts, gWorths, gMiddles, gApart, gApartWithout, gNeeded, gUps_3, gDowns, gKeys, gNexts, gShutKeys, aCodes, aPbegins, aPends, aPlengths, aBegins, aEnds, aLengths, aRanks, aRoadsByRank, aRow, aRanksBefore, aBusy, aOpen, aShut]) H locs → lv_has ls 5 [] → W p l e R s m args below meth c H locs 0 0 Q (F0 m 50 ls []) := by
    intro H locs ls hG hl
    cases h
    rw [hQ]
    exact g_vret X hT hG hr hlk dX1_shorten_50
  refine lpG_W (Wh := fun z => ∀ (H : Heap) (locs : List Loc) (ls : Array Slot), GH D cI cZ layB q s ([iReadings, iAlterations, iRankings, iLetters, iCurrent, iDue, iSize, iLsize], [], [gCosts, gWorths, gMiddles, gApart, gApartWithout, gNeeded, z.2, gDowns, gKeys, gNexts, gShutKeys, aCodes, aPbegins, aPends, aPlengths, aBegins, aEnds, aLengths, aRanks, aRoadsByRank, aRow, aRanksBefore, aBusy, aOpen, aShut]) H locs → lv_has ls 5 [(0, .ref (q 6)), (1, .int p1), (2, .int (z.1))] → W p l e R s m args below meth c H locs 0 0 Q (F0 m 2 ls [])) ?_ fu _ eL4 H locs ls hG (lv_sub hl [1, 2, 0] rfl)
  intro z rr4 hb4 hin4 hout4
  obtain ⟨x2_1, gUps_2⟩ := z
  intro H locs ls hG hl
  have hb4 : f1_shorten_b1 fu p1 x2_1 gUps_2 = some rr4 := hb4
  have hG : GH D cI cZ layB q s ([iReadings, iAlterations, iRankings, iLetters, iCurrent, iDue, iSize, iLsize], [], [gCosts, gWorths, gMiddles, gApart, gApartWithout, gNeeded, gUps_2, gDowns, gKeys, gNexts, gShutKeys, aCodes, aPbegins, aPends, aPlengths, aBegins, aEnds, aLengths, aRanks, aRoadsByRank, aRow, aRanksBefore, aBusy, aOpen, aShut]) H locs := hG
  have hl : lv_has ls 5 [(0, .ref (q 6)), (1, .int p1), (2, .int x2_1)] := hl
  unfold f1_shorten_b1 at hb4
  refine lv_iload_n hx hb dX1_shorten_2 rfl (lv_at hl 2 rfl) ?_
  refine lv_iload_n hx hb dX1_shorten_3 rfl (lv_at hl 1 rfl) ?_
  refine lv_icmp_ge (tgt := 50) hx hb dX1_shorten_4 (by decide) (fun cb5 => ?_) (fun cb5 => ?_)
  · have hb4 := ite_t cb5 hb4
    have eo := hout4 _ (Option.some.inj hb4).symm
    cases eo
    exact JX4 H locs ls hG (lv_sub hl [] rfl)
  · have hb4 := ite_f cb5 hb4
    refine lv_iconst (v := 0) hx hb dX1_shorten_7 (by decide) ?_
    refine lv_istore_n (lv' := [(3, .int 0), (0, .ref (q 6)), (1, .int p1), (2, .int x2_1)]) hx hb dX1_shorten_8 rfl hl (by decide) rfl (fun ls hl => ?_)
    obtain ⟨gUps_8, eL9, hb4⟩ := bnd1_some hb4
    have JX9 : ∀ (H : Heap) (locs : List Loc) (ls : Array Slot), GH D cI cZ layB q s ([iReadings, iAlterations, iRankings, iLetters, iCurrent, iDue, iSize, iLsize], [], [gCosts, gWorths, gMiddles, gApart, gApartWithout, gNeeded, gUps_8, gDowns, gKeys, gNexts, gShutKeys, aCodes, aPbegins, aPends, aPlengths, aBegins, aEnds, aLengths, aRanks, aRoadsByRank, aRow, aRanksBefore, aBusy, aOpen, aShut]) H locs → lv_has ls 5 [(0, .ref (q 6)), (1, .int p1), (2, .int x2_1)] → W p l e R s m args below meth c H locs 0 0 Q (F0 m 44 ls []) := by
      intro H locs ls hG hl
      obtain ⟨x2_19, ex2_19⟩ : ∃ z : Int32, z = x2_1 + 1 := ⟨_, rfl⟩
      have hb4 := bd_e ex2_19 hb4
      refine lv_iinc (v := x2_19) (lv' := [(2, .int x2_19), (0, .ref (q 6)), (1, .int p1)]) hx hb dX1_shorten_44 hl (k := 2) rfl (by rw [ex2_19]; rfl) (by decide) rfl (fun ls hl => ?_)
      refine lv_goto (tgt := 2) hx hb dX1_shorten_47 (by decide) ?_
      exact hin4 _ (Option.some.inj hb4).symm H locs ls hG (lv_sub hl [1, 2, 0] rfl)
    refine lpG_W (Wh := fun z => ∀ (H : Heap) (locs : List Loc) (ls : Array Slot), GH D cI cZ layB q s ([iReadings, iAlterations, iRankings, iLetters, iCurrent, iDue, iSize, iLsize], [], [gCosts, gWorths, gMiddles, gApart, gApartWithout, gNeeded, z.2, gDowns, gKeys, gNexts, gShutKeys, aCodes, aPbegins, aPends, aPlengths, aBegins, aEnds, aLengths, aRanks, aRoadsByRank, aRow, aRanksBefore, aBusy, aOpen, aShut]) H locs → lv_has ls 5 [(0, .ref (q 6)), (1, .int p1), (2, .int x2_1), (3, .int (z.1))] → W p l e R s m args below meth c H locs 0 0 Q (F0 m 9 ls [])) ?_ fu _ eL9 H locs ls hG (lv_sub hl [1, 2, 3, 0] rfl)
    intro z rr9 hb9 hin9 hout9
    obtain ⟨x3_6, gUps_7⟩ := z
    intro H locs ls hG hl
    have hb9 : f1_shorten_b2 fu p1 x2_1 x3_6 gUps_7 = some rr9 := hb9
    have hG : GH D cI cZ layB q s ([iReadings, iAlterations, iRankings, iLetters, iCurrent, iDue, iSize, iLsize], [], [gCosts, gWorths, gMiddles, gApart, gApartWithout, gNeeded, gUps_7, gDowns, gKeys, gNexts, gShutKeys, aCodes, aPbegins, aPends, aPlengths, aBegins, aEnds, aLengths, aRanks, aRoadsByRank, aRow, aRanksBefore, aBusy, aOpen, aShut]) H locs := hG
    have hl : lv_has ls 5 [(0, .ref (q 6)), (1, .int p1), (2, .int x2_1), (3, .int x3_6)] := hl
    unfold f1_shorten_b2 at hb9
    refine lv_iload_n hx hb dX1_shorten_9 rfl (lv_at hl 3 rfl) ?_
    refine lv_iload_n hx hb dX1_shorten_10 rfl (lv_at hl 1 rfl) ?_
    refine lv_icmp_ge (tgt := 44) hx hb dX1_shorten_11 (by decide) (fun cb10 => ?_) (fun cb10 => ?_)
    · have hb9 := ite_t cb10 hb9
      have eo := hout9 _ (Option.some.inj hb9).symm
      cases eo
      exact JX9 H locs ls hG (lv_sub hl [0, 1, 2] rfl)
    · have hb9 := ite_f cb10 hb9
      refine lv_aload_n hx hb dX1_shorten_14 rfl (lv_at hl 0 rfl) ?_
      refine lv_iload_n hx hb dX1_shorten_15 rfl (lv_at hl 3 rfl) ?_
      refine lv_iload_n hx hb dX1_shorten_16 rfl (lv_at hl 2 rfl) ?_
      obtain ⟨r_11, ec12, hb9⟩ := bnd1_some hb9
      refine g_callVr [.int x3_6, .int x2_1] [] 6 X hT hG ml_X1_15 (c_X1_get_6 hq ec12) rfl rfl rfl rfl rfl hl.1 (Nat.le_of_ble_eq_true rfl) (by rw [hR]; exact ⟨Nat.le_of_ble_eq_true rfl, Nat.le_of_ble_eq_true rfl⟩) dX1_shorten_17 (fun H locs hG => ?_)
      refine lv_istore (lv' := [(4, .int r_11), (0, .ref (q 6)), (1, .int p1), (2, .int x2_1), (3, .int x3_6)]) hx hb dX1_shorten_20 hl (by decide) rfl (fun ls hl => ?_)
      refine lv_iload hx hb dX1_shorten_22 (lv_at hl 0 rfl) ?_
      refine lv_ldc (v := 268435456) hx hb X.2.2.2.1 (X.2.2.2.2 _ cn_X1_19) dX1_shorten_24 ?_
      obtain ⟨gUps_13, er14, hb9⟩ := bnd1_some hb9
      have J14 : ∀ (H : Heap) (locs : List Loc) (ls : Array Slot), GH D cI cZ layB q s ([iReadings, iAlterations, iRankings, iLetters, iCurrent, iDue, iSize, iLsize], [], [gCosts, gWorths, gMiddles, gApart, gApartWithout, gNeeded, gUps_13, gDowns, gKeys, gNexts, gShutKeys, aCodes, aPbegins, aPends, aPlengths, aBegins, aEnds, aLengths, aRanks, aRoadsByRank, aRow, aRanksBefore, aBusy, aOpen, aShut]) H locs → lv_has ls 5 [(0, .ref (q 6)), (1, .int p1), (2, .int x2_1), (3, .int x3_6)] → W p l e R s m args below meth c H locs 0 0 Q (F0 m 38 ls []) := by
        intro H locs ls hG hl
        obtain ⟨x3_18, ex3_18⟩ : ∃ z : Int32, z = x3_6 + 1 := ⟨_, rfl⟩
        have hb9 := bd_e ex3_18 hb9
        refine lv_iinc (v := x3_18) (lv' := [(3, .int x3_18), (0, .ref (q 6)), (1, .int p1), (2, .int x2_1)]) hx hb dX1_shorten_38 hl (k := 3) rfl (by rw [ex3_18]; rfl) (by decide) rfl (fun ls hl => ?_)
        refine lv_goto (tgt := 9) hx hb dX1_shorten_41 (by decide) ?_
        exact hin9 _ (Option.some.inj hb9).symm H locs ls hG (lv_sub hl [1, 2, 3, 0] rfl)
      refine lv_icmp_ge (tgt := 38) hx hb dX1_shorten_26 (by decide) (fun cb15 => ?_) (fun cb15 => ?_)
      · have er14 := ite_t cb15 er14
        cases er14
        exact J14 H locs ls hG (lv_sub hl [1, 2, 3, 4] rfl)
      · have er14 := ite_f cb15 er14
        refine lv_aload_n hx hb dX1_shorten_29 rfl (lv_at hl 1 rfl) ?_
        refine lv_iload_n hx hb dX1_shorten_30 rfl (lv_at hl 4 rfl) ?_
        refine lv_iload_n hx hb dX1_shorten_31 rfl (lv_at hl 3 rfl) ?_
        refine lv_iload hx hb dX1_shorten_32 (lv_at hl 0 rfl) ?_
        refine lv_iload_n hx hb dX1_shorten_34 rfl (lv_at hl 2 rfl) ?_
        obtain ⟨gUps_16, ec17, er14⟩ := bnd1_some er14
        refine g_callVv [.int x3_6, .int x2_1, .int r_11, .int p1] [] 6 X hT hG ml_X1_20 (c_X1_shortenRow_6 hq ec17) rfl rfl rfl rfl rfl hl.1 (Nat.le_of_ble_eq_true rfl) (by rw [hR]; exact ⟨Nat.le_of_ble_eq_true rfl, Nat.le_of_ble_eq_true rfl⟩) dX1_shorten_35 (fun H locs hG => ?_)
        have hG : GH D cI cZ layB q s ([iReadings, iAlterations, iRankings, iLetters, iCurrent, iDue, iSize, iLsize], [], [gCosts, gWorths, gMiddles, gApart, gApartWithout, gNeeded, gUps_16, gDowns, gKeys, gNexts, gShutKeys, aCodes, aPbegins, aPends, aPlengths, aBegins, aEnds, aLengths, aRanks, aRoadsByRank, aRow, aRanksBefore, aBusy, aOpen, aShut]) H locs := hG
        cases er14
        exact J14 H locs ls hG (lv_sub hl [1, 2, 3, 4] rfl)
set_option maxHeartbeats 4000000 in
set_option maxRecDepth 100000 in
theorem c_X1_get_7 (hq : gJ layB q) {p1 : Int32} {p2 : Int32} {o_r : Int32} (h : f1_get p1 p2 gDowns = some o_r) :
    GM l yX1_get cX1_get 3 (some .int) 0 0 D cI cZ layB q [.ref (q 7), .int p1, .int p2] ([iReadings, iAlterations, iRankings, iLetters, iCurrent, iDue, iSize, iLsize], [], [gCosts, gWorths, gMiddles, gApart, gApartWithout, gNeeded, gUps, gDowns, gKeys, gNexts, gShutKeys, aCodes, aPbegins, aPends, aPlengths, aBegins, aEnds, aLengths, aRanks, aRoadsByRank, aRow, aRanksBefore, aBusy, aOpen, aShut]) (some (.int o_r)) ([iReadings, iAlterations, iRankings, iLetters, iCurrent, iDue, iSize, iLsize], [], [gCosts, gWorths, gMiddles, gApart, gApartWithout, gNeeded, gUps, gDowns, gKeys, gNexts, gShutKeys, aCodes, aPbegins, aPends, aPlengths, aBegins, aEnds, aLengths, aRanks, aRoadsByRank, aRow, aRanksBefore, aBusy, aOpen, aShut]) := by
  refine GM.go RX1 (by decide) rfl (Nat.le_of_ble_eq_true rfl) ?_
  intro p e s m args below meth c ls R Q H locs X hr hlk hT hG hl hR hQ
  have hx := X.1
  have hb := X.2.1
  have hl : lv_has ls 3 [(0, .ref (q 7)), (1, .int p1), (2, .int p2)] := hl
  unfold f1_get at h
  refine lv_aload_n hx hb dX1_get_0 rfl (lv_at hl 0 rfl) ?_
  refine g_get (v := .ref (q 18)) X hT hG fl_X1_9 7 rfl rfl rfl dX1_get_1 ?_
  refine lv_iload_n hx hb dX1_get_4 rfl (lv_at hl 1 rfl) ?_
  refine lv_bipush (v := 12) hx hb dX1_get_5 (by decide) ?_
  refine lv_imul hx hb dX1_get_7 ?_
  refine lv_iload_n hx hb dX1_get_8 rfl (lv_at hl 2 rfl) ?_
  refine lv_iadd hx hb dX1_get_9 ?_
  obtain ⟨hi1, h⟩ := ckin_some h
  refine g_ald (f := gDowns) X hT hG 18 rfl rfl hi1 dX1_get_10 ?_
  cases h
  rw [hQ]
  exact g_iret X hT hG hr hlk dX1_get_11
set_option maxHeartbeats 4000000 in
set_option maxRecDepth 100000 in
theorem c_X1_shortenRow_7 (hq : gJ layB q) {fu : Nat} {p1 : Int32} {p2 : Int32} {p3 : Int32} {p4 : Int32} {o_gDowns : (Nat → Int32)} (h : f1_shortenRow fu p1 p2 p4 p3 gDowns = some o_gDowns) :
    GM l yX1_shortenRow cX1_shortenRow 9 none 0 0 D cI cZ layB q [.ref (q 7), .int p1, .int p2, .int p3, .int p4] ([iReadings, iAlterations, iRankings, iLetters, iCurrent, iDue, iSize, iLsize], [], [gCosts, gWorths, gMiddles, gApart, gApartWithout, gNeeded, gUps, gDowns, gKeys, gNexts, gShutKeys, aCodes, aPbegins, aPends, aPlengths, aBegins, aEnds, aLengths, aRanks, aRoadsByRank, aRow, aRanksBefore, aBusy, aOpen, aShut]) none ([iReadings, iAlterations, iRankings, iLetters, iCurrent, iDue, iSize, iLsize], [], [gCosts, gWorths, gMiddles, gApart, gApartWithout, gNeeded, gUps, o_gDowns, gKeys, gNexts, gShutKeys, aCodes, aPbegins, aPends, aPlengths, aBegins, aEnds, aLengths, aRanks, aRoadsByRank, aRow, aRanksBefore, aBusy, aOpen, aShut]) := by
  refine GM.go RX1 (by decide) rfl (Nat.le_of_ble_eq_true rfl) ?_
  intro p e s m args below meth c ls R Q H locs X hr hlk hT hG hl hR hQ
  have hx := X.1
  have hb := X.2.1
  have hl : lv_has ls 9 [(0, .ref (q 7)), (1, .int p1), (2, .int p2), (3, .int p3), (4, .int p4)] := hl
  unfold f1_shortenRow at h
  refine lv_iload_n hx hb dX1_shortenRow_0 rfl (lv_at hl 1 rfl) ?_
  refine lv_bipush (v := 12) hx hb dX1_shortenRow_1 (by decide) ?_
  refine lv_imul hx hb dX1_shortenRow_3 ?_
  refine lv_topi (fun x5_1 ex5_1 => ?_)
  have h := bd_e ex5_1 h
  refine lv_istore (lv' := [(5, .int x5_1), (0, .ref (q 7)), (1, .int p1), (2, .int p2), (3, .int p3), (4, .int p4)]) hx hb dX1_shortenRow_4 hl (by decide) rfl (fun ls hl => ?_)
  refine lv_iload_n hx hb dX1_shortenRow_6 rfl (lv_at hl 3 rfl) ?_
  refine lv_bipush (v := 12) hx hb dX1_shortenRow_7 (by decide) ?_
  refine lv_imul hx hb dX1_shortenRow_9 ?_
  refine lv_topi (fun x6_2 ex6_2 => ?_)
  have h := bd_e ex6_2 h
  refine lv_istore (lv' := [(6, .int x6_2), (5, .int x5_1), (0, .ref (q 7)), (1, .int p1), (2, .int p2), (3, .int p3), (4, .int p4)]) hx hb dX1_shortenRow_10 hl (by decide) rfl (fun ls hl => ?_)
  refine lv_iconst (v := 0) hx hb dX1_shortenRow_12 (by decide) ?_
  refine lv_istore (lv' := [(7, .int 0), (6, .int x6_2), (5, .int x5_1), (0, .ref (q 7)), (1, .int p1), (2, .int p2), (3, .int p3), (4, .int p4)]) hx hb dX1_shortenRow_13 hl (by decide) rfl (fun ls hl => ?_)
  obtain ⟨gDowns_5, eL6, h⟩ := bnd1_some h
  have JX6 : ∀ (H : Heap) (locs : List Loc) (ls : Array Slot), GH D cI cZ layB q s ([iReadings, iAlterations, iRankings, iLetters, iCurrent, iDue, iSize, iLsize], [], [gCosts, gWorths, gMiddles, gApart, gApartWithout, gNeeded, gUps, gDowns_5, gKeys, gNexts, gShutKeys, aCodes, aPbegins, aPends, aPlengths, aBegins, aEnds, aLengths, aRanks, aRoadsByRank, aRow, aRanksBefore, aBusy, aOpen, aShut]) H locs → lv_has ls 9 [] → W p l e R s m args below meth c H locs 0 0 Q (F0 m 69 ls []) := by
    intro H locs ls hG hl
    cases h
    rw [hQ]
    exact g_vret X hT hG hr hlk dX1_shortenRow_69
  refine lpG_W (Wh := fun z => ∀ (H : Heap) (locs : List Loc) (ls : Array Slot), GH D cI cZ layB q s ([iReadings, iAlterations, iRankings, iLetters, iCurrent, iDue, iSize, iLsize], [], [gCosts, gWorths, gMiddles, gApart, gApartWithout, gNeeded, gUps, z.2, gKeys, gNexts, gShutKeys, aCodes, aPbegins, aPends, aPlengths, aBegins, aEnds, aLengths, aRanks, aRoadsByRank, aRow, aRanksBefore, aBusy, aOpen, aShut]) H locs → lv_has ls 9 [(0, .ref (q 7)), (3, .int p3), (4, .int p4), (5, .int x5_1), (6, .int x6_2), (7, .int (z.1))] → W p l e R s m args below meth c H locs 0 0 Q (F0 m 15 ls [])) ?_ fu _ eL6 H locs ls hG (lv_sub hl [3, 6, 7, 2, 1, 0] rfl)
  intro z rr6 hb6 hin6 hout6
  obtain ⟨x7_3, gDowns_4⟩ := z
  intro H locs ls hG hl
  have hb6 : f1_shortenRow_b1 p4 x6_2 p3 x5_1 x7_3 gDowns_4 = some rr6 := hb6
  have hG : GH D cI cZ layB q s ([iReadings, iAlterations, iRankings, iLetters, iCurrent, iDue, iSize, iLsize], [], [gCosts, gWorths, gMiddles, gApart, gApartWithout, gNeeded, gUps, gDowns_4, gKeys, gNexts, gShutKeys, aCodes, aPbegins, aPends, aPlengths, aBegins, aEnds, aLengths, aRanks, aRoadsByRank, aRow, aRanksBefore, aBusy, aOpen, aShut]) H locs := hG
  have hl : lv_has ls 9 [(0, .ref (q 7)), (3, .int p3), (4, .int p4), (5, .int x5_1), (6, .int x6_2), (7, .int x7_3)] := hl
  unfold f1_shortenRow_b1 at hb6
  refine lv_iload hx hb dX1_shortenRow_15 (lv_at hl 5 rfl) ?_
  refine lv_iload hx hb dX1_shortenRow_17 (lv_at hl 2 rfl) ?_
  refine lv_icmp_ge (tgt := 69) hx hb dX1_shortenRow_19 (by decide) (fun cb7 => ?_) (fun cb7 => ?_)
  · have hb6 := ite_t cb7 hb6
    have eo := hout6 _ (Option.some.inj hb6).symm
    cases eo
    exact JX6 H locs ls hG (lv_sub hl [] rfl)
  · have hb6 := ite_f cb7 hb6
    refine lv_iload_n hx hb dX1_shortenRow_22 rfl (lv_at hl 1 rfl) ?_
    refine lv_aload_n hx hb dX1_shortenRow_23 rfl (lv_at hl 0 rfl) ?_
    refine g_get (v := .ref (q 18)) X hT hG fl_X1_9 7 rfl rfl rfl dX1_shortenRow_24 ?_
    refine lv_iload hx hb dX1_shortenRow_27 (lv_at hl 4 rfl) ?_
    refine lv_iload hx hb dX1_shortenRow_29 (lv_at hl 5 rfl) ?_
    refine lv_iadd hx hb dX1_shortenRow_31 ?_
    obtain ⟨hi8, hb6⟩ := ckin_some hb6
    refine g_ald (f := gDowns_4) X hT hG 18 rfl rfl hi8 dX1_shortenRow_32 ?_
    refine lv_iadd hx hb dX1_shortenRow_33 ?_
    refine lv_topi (fun x8_9 ex8_9 => ?_)
    have hb6 := bd_e ex8_9 hb6
    refine lv_istore (lv' := [(8, .int x8_9), (0, .ref (q 7)), (3, .int p3), (4, .int p4), (5, .int x5_1), (6, .int x6_2), (7, .int x7_3)]) hx hb dX1_shortenRow_34 hl (by decide) rfl (fun ls hl => ?_)
    refine lv_iload hx hb dX1_shortenRow_36 (lv_at hl 0 rfl) ?_
    refine lv_aload_n hx hb dX1_shortenRow_38 rfl (lv_at hl 1 rfl) ?_
    refine g_get (v := .ref (q 18)) X hT hG fl_X1_9 7 rfl rfl rfl dX1_shortenRow_39 ?_
    refine lv_iload hx hb dX1_shortenRow_42 (lv_at hl 4 rfl) ?_
    refine lv_iload hx hb dX1_shortenRow_44 (lv_at hl 6 rfl) ?_
    refine lv_iadd hx hb dX1_shortenRow_46 ?_
    obtain ⟨hi10, hb6⟩ := ckin_some hb6
    refine g_ald (f := gDowns_4) X hT hG 18 rfl rfl hi10 dX1_shortenRow_47 ?_
    obtain ⟨gDowns_11, er12, hb6⟩ := bnd1_some hb6
    have J12 : ∀ (H : Heap) (locs : List Loc) (ls : Array Slot), GH D cI cZ layB q s ([iReadings, iAlterations, iRankings, iLetters, iCurrent, iDue, iSize, iLsize], [], [gCosts, gWorths, gMiddles, gApart, gApartWithout, gNeeded, gUps, gDowns_11, gKeys, gNexts, gShutKeys, aCodes, aPbegins, aPends, aPlengths, aBegins, aEnds, aLengths, aRanks, aRoadsByRank, aRow, aRanksBefore, aBusy, aOpen, aShut]) H locs → lv_has ls 9 [(0, .ref (q 7)), (3, .int p3), (4, .int p4), (5, .int x5_1), (6, .int x6_2), (7, .int x7_3)] → W p l e R s m args below meth c H locs 0 0 Q (F0 m 63 ls []) := by
      intro H locs ls hG hl
      obtain ⟨x7_16, ex7_16⟩ : ∃ z : Int32, z = x7_3 + 1 := ⟨_, rfl⟩
      have hb6 := bd_e ex7_16 hb6
      refine lv_iinc (v := x7_16) (lv' := [(7, .int x7_16), (0, .ref (q 7)), (3, .int p3), (4, .int p4), (5, .int x5_1), (6, .int x6_2)]) hx hb dX1_shortenRow_63 hl (k := 5) rfl (by rw [ex7_16]; rfl) (by decide) rfl (fun ls hl => ?_)
      refine lv_goto (tgt := 15) hx hb dX1_shortenRow_66 (by decide) ?_
      exact hin6 _ (Option.some.inj hb6).symm H locs ls hG (lv_sub hl [1, 2, 3, 4, 5, 0] rfl)
    refine lv_icmp_ge (tgt := 63) hx hb dX1_shortenRow_48 (by decide) (fun cb13 => ?_) (fun cb13 => ?_)
    · have er12 := ite_t cb13 er12
      cases er12
      exact J12 H locs ls hG (lv_sub hl [1, 2, 3, 4, 5, 6] rfl)
    · have er12 := ite_f cb13 er12
      refine lv_aload_n hx hb dX1_shortenRow_51 rfl (lv_at hl 1 rfl) ?_
      refine g_get (v := .ref (q 18)) X hT hG fl_X1_9 7 rfl rfl rfl dX1_shortenRow_52 ?_
      refine lv_iload hx hb dX1_shortenRow_55 (lv_at hl 4 rfl) ?_
      refine lv_iload hx hb dX1_shortenRow_57 (lv_at hl 6 rfl) ?_
      refine lv_iadd hx hb dX1_shortenRow_59 ?_
      refine lv_iload hx hb dX1_shortenRow_60 (lv_at hl 0 rfl) ?_
      obtain ⟨hi14, er12⟩ := ckin_some er12
      obtain ⟨gDowns_15, egDowns_15⟩ : ∃ z : Nat → Int32, z = upd gDowns_4 (x5_1 + x7_3).toNatClampNeg x8_9 := ⟨_, rfl⟩
      have er12 := bd_e egDowns_15 er12
      refine g_ast (w' := ([iReadings, iAlterations, iRankings, iLetters, iCurrent, iDue, iSize, iLsize], [], [gCosts, gWorths, gMiddles, gApart, gApartWithout, gNeeded, gUps, gDowns_15, gKeys, gNexts, gShutKeys, aCodes, aPbegins, aPends, aPlengths, aBegins, aEnds, aLengths, aRanks, aRoadsByRank, aRow, aRanksBefore, aBusy, aOpen, aShut])) X hT hq hG 18 rfl ga_B_gDowns (Nat.le_of_ble_eq_true rfl) hi14 (by subst egDowns_15; rfl) dX1_shortenRow_62 (fun H locs hG => ?_)
      cases er12
      exact J12 H locs ls hG (lv_sub hl [1, 2, 3, 4, 5, 6] rfl)
set_option maxHeartbeats 4000000 in
set_option maxRecDepth 100000 in
theorem c_X1_shorten_7 (hq : gJ layB q) {fu : Nat} {p1 : Int32} {o_gDowns : (Nat → Int32)} (h : f1_shorten fu p1 gDowns = some o_gDowns) :
    GM l yX1_shorten cX1_shorten 5 none 1 28 D cI cZ layB q [.ref (q 7), .int p1] ([iReadings, iAlterations, iRankings, iLetters, iCurrent, iDue, iSize, iLsize], [], [gCosts, gWorths, gMiddles, gApart, gApartWithout, gNeeded, gUps, gDowns, gKeys, gNexts, gShutKeys, aCodes, aPbegins, aPends, aPlengths, aBegins, aEnds, aLengths, aRanks, aRoadsByRank, aRow, aRanksBefore, aBusy, aOpen, aShut]) none ([iReadings, iAlterations, iRankings, iLetters, iCurrent, iDue, iSize, iLsize], [], [gCosts, gWorths, gMiddles, gApart, gApartWithout, gNeeded, gUps, o_gDowns, gKeys, gNexts, gShutKeys, aCodes, aPbegins, aPends, aPlengths, aBegins, aEnds, aLengths, aRanks, aRoadsByRank, aRow, aRanksBefore, aBusy, aOpen, aShut]) := by
  refine GM.go RX1 (by decide) rfl (Nat.le_of_ble_eq_true rfl) ?_
  intro p e s m args below meth c ls R Q H locs X hr hlk hT hG hl hR hQ
  have hx := X.1
  have hb := X.2.1
  have hl : lv_has ls 5 [(0, .ref (q 7)), (1, .int p1)] := hl
  unfold f1_shorten at h
  refine lv_iconst (v := 0) hx hb dX1_shorten_0 (by decide) ?_
  refine lv_istore_n (lv' := [(2, .int 0), (0, .ref (q 7)), (1, .int p1)]) hx hb dX1_shorten_1 rfl hl (by decide) rfl (fun ls hl => ?_)
  obtain ⟨gDowns_3, eL4, h⟩ := bnd1_some h
  have JX4 : ∀ (H : Heap) (locs : List Loc) (ls : Array Slot), GH D cI cZ layB q s ([iReadings, iAlterations, iRankings, iLetters, iCurrent, iDue, iSize, iLsize], [], [gCosts, gWorths, gMiddles, gApart, gApartWithout, gNeeded, gUps, gDowns_3, gKeys, gNexts, gShutKeys, aCodes, aPbegins, aPends, aPlengths, aBegins, aEnds, aLengths, aRanks, aRoadsByRank, aRow, aRanksBefore, aBusy, aOpen, aShut]) H locs → lv_has ls 5 [] → W p l e R s m args below meth c H locs 0 0 Q (F0 m 50 ls []) := by
    intro H locs ls hG hl
    cases h
    rw [hQ]
    exact g_vret X hT hG hr hlk dX1_shorten_50
  refine lpG_W (Wh := fun z => ∀ (H : Heap) (locs : List Loc) (ls : Array Slot), GH D cI cZ layB q s ([iReadings, iAlterations, iRankings, iLetters, iCurrent, iDue, iSize, iLsize], [], [gCosts, gWorths, gMiddles, gApart, gApartWithout, gNeeded, gUps, z.2, gKeys, gNexts, gShutKeys, aCodes, aPbegins, aPends, aPlengths, aBegins, aEnds, aLengths, aRanks, aRoadsByRank, aRow, aRanksBefore, aBusy, aOpen, aShut]) H locs → lv_has ls 5 [(0, .ref (q 7)), (1, .int p1), (2, .int (z.1))] → W p l e R s m args below meth c H locs 0 0 Q (F0 m 2 ls [])) ?_ fu _ eL4 H locs ls hG (lv_sub hl [1, 2, 0] rfl)
  intro z rr4 hb4 hin4 hout4
  obtain ⟨x2_1, gDowns_2⟩ := z
  intro H locs ls hG hl
  have hb4 : f1_shorten_b1 fu p1 x2_1 gDowns_2 = some rr4 := hb4
  have hG : GH D cI cZ layB q s ([iReadings, iAlterations, iRankings, iLetters, iCurrent, iDue, iSize, iLsize], [], [gCosts, gWorths, gMiddles, gApart, gApartWithout, gNeeded, gUps, gDowns_2, gKeys, gNexts, gShutKeys, aCodes, aPbegins, aPends, aPlengths, aBegins, aEnds, aLengths, aRanks, aRoadsByRank, aRow, aRanksBefore, aBusy, aOpen, aShut]) H locs := hG
  have hl : lv_has ls 5 [(0, .ref (q 7)), (1, .int p1), (2, .int x2_1)] := hl
  unfold f1_shorten_b1 at hb4
  refine lv_iload_n hx hb dX1_shorten_2 rfl (lv_at hl 2 rfl) ?_
  refine lv_iload_n hx hb dX1_shorten_3 rfl (lv_at hl 1 rfl) ?_
  refine lv_icmp_ge (tgt := 50) hx hb dX1_shorten_4 (by decide) (fun cb5 => ?_) (fun cb5 => ?_)
  · have hb4 := ite_t cb5 hb4
    have eo := hout4 _ (Option.some.inj hb4).symm
    cases eo
    exact JX4 H locs ls hG (lv_sub hl [] rfl)
  · have hb4 := ite_f cb5 hb4
    refine lv_iconst (v := 0) hx hb dX1_shorten_7 (by decide) ?_
    refine lv_istore_n (lv' := [(3, .int 0), (0, .ref (q 7)), (1, .int p1), (2, .int x2_1)]) hx hb dX1_shorten_8 rfl hl (by decide) rfl (fun ls hl => ?_)
    obtain ⟨gDowns_8, eL9, hb4⟩ := bnd1_some hb4
    have JX9 : ∀ (H : Heap) (locs : List Loc) (ls : Array Slot), GH D cI cZ layB q s ([iReadings, iAlterations, iRankings, iLetters, iCurrent, iDue, iSize, iLsize], [], [gCosts, gWorths, gMiddles, gApart, gApartWithout, gNeeded, gUps, gDowns_8, gKeys, gNexts, gShutKeys, aCodes, aPbegins, aPends, aPlengths, aBegins, aEnds, aLengths, aRanks, aRoadsByRank, aRow, aRanksBefore, aBusy, aOpen, aShut]) H locs → lv_has ls 5 [(0, .ref (q 7)), (1, .int p1), (2, .int x2_1)] → W p l e R s m args below meth c H locs 0 0 Q (F0 m 44 ls []) := by
      intro H locs ls hG hl
      obtain ⟨x2_19, ex2_19⟩ : ∃ z : Int32, z = x2_1 + 1 := ⟨_, rfl⟩
      have hb4 := bd_e ex2_19 hb4
      refine lv_iinc (v := x2_19) (lv' := [(2, .int x2_19), (0, .ref (q 7)), (1, .int p1)]) hx hb dX1_shorten_44 hl (k := 2) rfl (by rw [ex2_19]; rfl) (by decide) rfl (fun ls hl => ?_)
      refine lv_goto (tgt := 2) hx hb dX1_shorten_47 (by decide) ?_
      exact hin4 _ (Option.some.inj hb4).symm H locs ls hG (lv_sub hl [1, 2, 0] rfl)
    refine lpG_W (Wh := fun z => ∀ (H : Heap) (locs : List Loc) (ls : Array Slot), GH D cI cZ layB q s ([iReadings, iAlterations, iRankings, iLetters, iCurrent, iDue, iSize, iLsize], [], [gCosts, gWorths, gMiddles, gApart, gApartWithout, gNeeded, gUps, z.2, gKeys, gNexts, gShutKeys, aCodes, aPbegins, aPends, aPlengths, aBegins, aEnds, aLengths, aRanks, aRoadsByRank, aRow, aRanksBefore, aBusy, aOpen, aShut]) H locs → lv_has ls 5 [(0, .ref (q 7)), (1, .int p1), (2, .int x2_1), (3, .int (z.1))] → W p l e R s m args below meth c H locs 0 0 Q (F0 m 9 ls [])) ?_ fu _ eL9 H locs ls hG (lv_sub hl [1, 2, 3, 0] rfl)
    intro z rr9 hb9 hin9 hout9
    obtain ⟨x3_6, gDowns_7⟩ := z
    intro H locs ls hG hl
    have hb9 : f1_shorten_b2 fu p1 x2_1 x3_6 gDowns_7 = some rr9 := hb9
    have hG : GH D cI cZ layB q s ([iReadings, iAlterations, iRankings, iLetters, iCurrent, iDue, iSize, iLsize], [], [gCosts, gWorths, gMiddles, gApart, gApartWithout, gNeeded, gUps, gDowns_7, gKeys, gNexts, gShutKeys, aCodes, aPbegins, aPends, aPlengths, aBegins, aEnds, aLengths, aRanks, aRoadsByRank, aRow, aRanksBefore, aBusy, aOpen, aShut]) H locs := hG
    have hl : lv_has ls 5 [(0, .ref (q 7)), (1, .int p1), (2, .int x2_1), (3, .int x3_6)] := hl
    unfold f1_shorten_b2 at hb9
    refine lv_iload_n hx hb dX1_shorten_9 rfl (lv_at hl 3 rfl) ?_
    refine lv_iload_n hx hb dX1_shorten_10 rfl (lv_at hl 1 rfl) ?_
    refine lv_icmp_ge (tgt := 44) hx hb dX1_shorten_11 (by decide) (fun cb10 => ?_) (fun cb10 => ?_)
    · have hb9 := ite_t cb10 hb9
      have eo := hout9 _ (Option.some.inj hb9).symm
      cases eo
      exact JX9 H locs ls hG (lv_sub hl [0, 1, 2] rfl)
    · have hb9 := ite_f cb10 hb9
      refine lv_aload_n hx hb dX1_shorten_14 rfl (lv_at hl 0 rfl) ?_
      refine lv_iload_n hx hb dX1_shorten_15 rfl (lv_at hl 3 rfl) ?_
      refine lv_iload_n hx hb dX1_shorten_16 rfl (lv_at hl 2 rfl) ?_
      obtain ⟨r_11, ec12, hb9⟩ := bnd1_some hb9
      refine g_callVr [.int x3_6, .int x2_1] [] 7 X hT hG ml_X1_15 (c_X1_get_7 hq ec12) rfl rfl rfl rfl rfl hl.1 (Nat.le_of_ble_eq_true rfl) (by rw [hR]; exact ⟨Nat.le_of_ble_eq_true rfl, Nat.le_of_ble_eq_true rfl⟩) dX1_shorten_17 (fun H locs hG => ?_)
      refine lv_istore (lv' := [(4, .int r_11), (0, .ref (q 7)), (1, .int p1), (2, .int x2_1), (3, .int x3_6)]) hx hb dX1_shorten_20 hl (by decide) rfl (fun ls hl => ?_)
      refine lv_iload hx hb dX1_shorten_22 (lv_at hl 0 rfl) ?_
      refine lv_ldc (v := 268435456) hx hb X.2.2.2.1 (X.2.2.2.2 _ cn_X1_19) dX1_shorten_24 ?_
      obtain ⟨gDowns_13, er14, hb9⟩ := bnd1_some hb9
      have J14 : ∀ (H : Heap) (locs : List Loc) (ls : Array Slot), GH D cI cZ layB q s ([iReadings, iAlterations, iRankings, iLetters, iCurrent, iDue, iSize, iLsize], [], [gCosts, gWorths, gMiddles, gApart, gApartWithout, gNeeded, gUps, gDowns_13, gKeys, gNexts, gShutKeys, aCodes, aPbegins, aPends, aPlengths, aBegins, aEnds, aLengths, aRanks, aRoadsByRank, aRow, aRanksBefore, aBusy, aOpen, aShut]) H locs → lv_has ls 5 [(0, .ref (q 7)), (1, .int p1), (2, .int x2_1), (3, .int x3_6)] → W p l e R s m args below meth c H locs 0 0 Q (F0 m 38 ls []) := by
        intro H locs ls hG hl
        obtain ⟨x3_18, ex3_18⟩ : ∃ z : Int32, z = x3_6 + 1 := ⟨_, rfl⟩
        have hb9 := bd_e ex3_18 hb9
        refine lv_iinc (v := x3_18) (lv' := [(3, .int x3_18), (0, .ref (q 7)), (1, .int p1), (2, .int x2_1)]) hx hb dX1_shorten_38 hl (k := 3) rfl (by rw [ex3_18]; rfl) (by decide) rfl (fun ls hl => ?_)
        refine lv_goto (tgt := 9) hx hb dX1_shorten_41 (by decide) ?_
        exact hin9 _ (Option.some.inj hb9).symm H locs ls hG (lv_sub hl [1, 2, 3, 0] rfl)
      refine lv_icmp_ge (tgt := 38) hx hb dX1_shorten_26 (by decide) (fun cb15 => ?_) (fun cb15 => ?_)
      · have er14 := ite_t cb15 er14
        cases er14
        exact J14 H locs ls hG (lv_sub hl [1, 2, 3, 4] rfl)
      · have er14 := ite_f cb15 er14
        refine lv_aload_n hx hb dX1_shorten_29 rfl (lv_at hl 1 rfl) ?_
        refine lv_iload_n hx hb dX1_shorten_30 rfl (lv_at hl 4 rfl) ?_
        refine lv_iload_n hx hb dX1_shorten_31 rfl (lv_at hl 3 rfl) ?_
        refine lv_iload hx hb dX1_shorten_32 (lv_at hl 0 rfl) ?_
        refine lv_iload_n hx hb dX1_shorten_34 rfl (lv_at hl 2 rfl) ?_
        obtain ⟨gDowns_16, ec17, er14⟩ := bnd1_some er14
        refine g_callVv [.int x3_6, .int x2_1, .int r_11, .int p1] [] 7 X hT hG ml_X1_20 (c_X1_shortenRow_7 hq ec17) rfl rfl rfl rfl rfl hl.1 (Nat.le_of_ble_eq_true rfl) (by rw [hR]; exact ⟨Nat.le_of_ble_eq_true rfl, Nat.le_of_ble_eq_true rfl⟩) dX1_shorten_35 (fun H locs hG => ?_)
        have hG : GH D cI cZ layB q s ([iReadings, iAlterations, iRankings, iLetters, iCurrent, iDue, iSize, iLsize], [], [gCosts, gWorths, gMiddles, gApart, gApartWithout, gNeeded, gUps, gDowns_16, gKeys, gNexts, gShutKeys, aCodes, aPbegins, aPends, aPlengths, aBegins, aEnds, aLengths, aRanks, aRoadsByRank, aRow, aRanksBefore, aBusy, aOpen, aShut]) H locs := hG
        cases er14
        exact J14 H locs ls hG (lv_sub hl [1, 2, 3, 4] rfl)
def f0_measure_b2 (iLsize : Int32) (x2_1 : Int32) (gWorths : (Nat → Int32)) (aRanks : (Nat → Int32)) (x3_8 : Int32) (gUps_9 : (Nat → Int32)) (gDowns_10 : (Nat → Int32)) : Option ((Int32 × (Nat → Int32) × (Nat → Int32)) ⊕ ((Nat → Int32) × (Nat → Int32))) :=
  if iLsize ≤ x3_8 then (some (.inr (gUps_9, gDowns_10))) else bnd1 (f1_get x2_1 x3_8 gWorths) fun (r_15 : Int32) => bnd1 (f2_leadsUp x3_8 x2_1 aRanks) fun (r_17 : Int32) => bnd1 (if r_17 = 0 then (some 268435456) else some r_15) fun (y_19 : Int32) => bnd1 (f1_set x2_1 x3_8 gUps_9 y_19) fun (gUps_22 : (Nat → Int32)) => bnd1 (if r_17 = 0 then (some r_15) else some 268435456) fun (y_24 : Int32) => bnd1 (f1_set x2_1 x3_8 gDowns_10 y_24) fun (gDowns_27 : (Nat → Int32)) => bd (x3_8 + 1) fun x3_29 => some (.inl (x3_29, gUps_22, gDowns_27))
def f0_measure_b1 (fu : Nat) (iLsize : Int32) (gWorths : (Nat → Int32)) (aRanks : (Nat → Int32)) (x2_1 : Int32) (gUps_2 : (Nat → Int32)) (gDowns_3 : (Nat → Int32)) : Option ((Int32 × (Nat → Int32) × (Nat → Int32)) ⊕ ((Nat → Int32) × (Nat → Int32))) :=
  if iLsize ≤ x2_1 then (some (.inr (gUps_2, gDowns_3))) else bnd2 (lpG (fun z => f0_measure_b2 iLsize x2_1 gWorths aRanks z.1 z.2.1 z.2.2) fu ((0 : Int32), gUps_2, gDowns_3)) fun (gUps_11 : (Nat → Int32)) (gDowns_12 : (Nat → Int32)) => bnd1 (f1_set x2_1 x2_1 gUps_11 0) fun (gUps_30 : (Nat → Int32)) => bnd1 (f1_set x2_1 x2_1 gDowns_12 0) fun (gDowns_32 : (Nat → Int32)) => bd (x2_1 + 1) fun x2_34 => some (.inl (x2_34, gUps_30, gDowns_32))
def f0_measure (fu : Nat) (iLsize : Int32) (gWorths : (Nat → Int32)) (aRanks : (Nat → Int32)) (gUps : (Nat → Int32)) (gDowns : (Nat → Int32)) : Option ((Nat → Int32) × (Nat → Int32)) :=
  bnd2 (lpG (fun z => f0_measure_b1 fu iLsize gWorths aRanks z.1 z.2.1 z.2.2) fu ((0 : Int32), gUps, gDowns)) fun (gUps_4 : (Nat → Int32)) (gDowns_5 : (Nat → Int32)) => bnd1 (f1_shorten fu iLsize gUps_4) fun (gUps_35 : (Nat → Int32)) => bnd1 (f1_shorten fu iLsize gDowns_5) fun (gDowns_37 : (Nat → Int32)) => some (gUps_35, gDowns_37)
set_option maxHeartbeats 4000000 in
set_option maxRecDepth 100000 in
theorem c_X0_measure_26_25 (hq : gJ layB q) {fu : Nat} {o_gUps : (Nat → Int32)} {o_gDowns : (Nat → Int32)} (h : f0_measure fu iLsize gWorths aRanks gUps gDowns = some (o_gUps, o_gDowns)) :
    GM l yX0_measure cX0_measure 6 none 2 52 D cI cZ layB q [.ref (q 26), .ref (q 25)] ([iReadings, iAlterations, iRankings, iLetters, iCurrent, iDue, iSize, iLsize], [], [gCosts, gWorths, gMiddles, gApart, gApartWithout, gNeeded, gUps, gDowns, gKeys, gNexts, gShutKeys, aCodes, aPbegins, aPends, aPlengths, aBegins, aEnds, aLengths, aRanks, aRoadsByRank, aRow, aRanksBefore, aBusy, aOpen, aShut]) none ([iReadings, iAlterations, iRankings, iLetters, iCurrent, iDue, iSize, iLsize], [], [gCosts, gWorths, gMiddles, gApart, gApartWithout, gNeeded, o_gUps, o_gDowns, gKeys, gNexts, gShutKeys, aCodes, aPbegins, aPends, aPlengths, aBegins, aEnds, aLengths, aRanks, aRoadsByRank, aRow, aRanksBefore, aBusy, aOpen, aShut]) := by
  refine GM.go RX0 (by decide) rfl (Nat.le_of_ble_eq_true rfl) ?_
  intro p e s m args below meth c ls R Q H locs X hr hlk hT hG hl hR hQ
  have hx := X.1
  have hb := X.2.1
  have hl : lv_has ls 6 [(0, .ref (q 26)), (1, .ref (q 25))] := hl
  unfold f0_measure at h
  refine lv_iconst (v := 0) hx hb dX0_measure_0 (by decide) ?_
  refine lv_istore_n (lv' := [(2, .int 0), (0, .ref (q 26)), (1, .ref (q 25))]) hx hb dX0_measure_1 rfl hl (by decide) rfl (fun ls hl => ?_)
  obtain ⟨gUps_4, gDowns_5, eL6, h⟩ := bnd2_some h
  have JX6 : ∀ (H : Heap) (locs : List Loc) (ls : Array Slot), GH D cI cZ layB q s ([iReadings, iAlterations, iRankings, iLetters, iCurrent, iDue, iSize, iLsize], [], [gCosts, gWorths, gMiddles, gApart, gApartWithout, gNeeded, gUps_4, gDowns_5, gKeys, gNexts, gShutKeys, aCodes, aPbegins, aPends, aPlengths, aBegins, aEnds, aLengths, aRanks, aRoadsByRank, aRow, aRanksBefore, aBusy, aOpen, aShut]) H locs → lv_has ls 6 [(0, .ref (q 26)), (1, .ref (q 25))] → W p l e R s m args below meth c H locs 0 0 Q (F0 m 113 ls []) := by
    intro H locs ls hG hl
    refine lv_aload_n hx hb dX0_measure_113 rfl (lv_at hl 0 rfl) ?_
    refine g_get (v := .ref (q 6)) X hT hG fl_X0_12 26 rfl rfl rfl dX0_measure_114 ?_
    refine lv_aload_n hx hb dX0_measure_117 rfl (lv_at hl 1 rfl) ?_
    refine g_get (v := .int iLsize) X hT hG fl_X0_21 25 rfl rfl rfl dX0_measure_118 ?_
    obtain ⟨gUps_35, ec36, h⟩ := bnd1_some h
    refine g_callVv [.int iLsize] [] 6 X hT hG ml_X0_43 (c_X1_shorten_6 hq ec36) rfl rfl rfl rfl rfl hl.1 (Nat.le_of_ble_eq_true rfl) (by rw [hR]; exact ⟨Nat.le_of_ble_eq_true rfl, Nat.le_of_ble_eq_true rfl⟩) dX0_measure_121 (fun H locs hG => ?_)
    have hG : GH D cI cZ layB q s ([iReadings, iAlterations, iRankings, iLetters, iCurrent, iDue, iSize, iLsize], [], [gCosts, gWorths, gMiddles, gApart, gApartWithout, gNeeded, gUps_35, gDowns_5, gKeys, gNexts, gShutKeys, aCodes, aPbegins, aPends, aPlengths, aBegins, aEnds, aLengths, aRanks, aRoadsByRank, aRow, aRanksBefore, aBusy, aOpen, aShut]) H locs := hG
    refine lv_aload_n hx hb dX0_measure_124 rfl (lv_at hl 0 rfl) ?_
    refine g_get (v := .ref (q 7)) X hT hG fl_X0_18 26 rfl rfl rfl dX0_measure_125 ?_
    refine lv_aload_n hx hb dX0_measure_128 rfl (lv_at hl 1 rfl) ?_
    refine g_get (v := .int iLsize) X hT hG fl_X0_21 25 rfl rfl rfl dX0_measure_129 ?_
    obtain ⟨gDowns_37, ec38, h⟩ := bnd1_some h
    refine g_callVv [.int iLsize] [] 7 X hT hG ml_X0_43 (c_X1_shorten_7 hq ec38) rfl rfl rfl rfl rfl hl.1 (Nat.le_of_ble_eq_true rfl) (by rw [hR]; exact ⟨Nat.le_of_ble_eq_true rfl, Nat.le_of_ble_eq_true rfl⟩) dX0_measure_132 (fun H locs hG => ?_)
    have hG : GH D cI cZ layB q s ([iReadings, iAlterations, iRankings, iLetters, iCurrent, iDue, iSize, iLsize], [], [gCosts, gWorths, gMiddles, gApart, gApartWithout, gNeeded, gUps_35, gDowns_37, gKeys, gNexts, gShutKeys, aCodes, aPbegins, aPends, aPlengths, aBegins, aEnds, aLengths, aRanks, aRoadsByRank, aRow, aRanksBefore, aBusy, aOpen, aShut]) H locs := hG
    cases h
    rw [hQ]
    exact g_vret X hT hG hr hlk dX0_measure_135
  refine lpG_W (Wh := fun z => ∀ (H : Heap) (locs : List Loc) (ls : Array Slot), GH D cI cZ layB q s ([iReadings, iAlterations, iRankings, iLetters, iCurrent, iDue, iSize, iLsize], [], [gCosts, gWorths, gMiddles, gApart, gApartWithout, gNeeded, z.2.1, z.2.2, gKeys, gNexts, gShutKeys, aCodes, aPbegins, aPends, aPlengths, aBegins, aEnds, aLengths, aRanks, aRoadsByRank, aRow, aRanksBefore, aBusy, aOpen, aShut]) H locs → lv_has ls 6 [(0, .ref (q 26)), (1, .ref (q 25)), (2, .int (z.1))] → W p l e R s m args below meth c H locs 0 0 Q (F0 m 2 ls [])) ?_ fu _ eL6 H locs ls hG (lv_sub hl [1, 2, 0] rfl)
  intro z rr6 hb6 hin6 hout6
  obtain ⟨x2_1, gUps_2, gDowns_3⟩ := z
  intro H locs ls hG hl
  have hb6 : f0_measure_b1 fu iLsize gWorths aRanks x2_1 gUps_2 gDowns_3 = some rr6 := hb6
  have hG : GH D cI cZ layB q s ([iReadings, iAlterations, iRankings, iLetters, iCurrent, iDue, iSize, iLsize], [], [gCosts, gWorths, gMiddles, gApart, gApartWithout, gNeeded, gUps_2, gDowns_3, gKeys, gNexts, gShutKeys, aCodes, aPbegins, aPends, aPlengths, aBegins, aEnds, aLengths, aRanks, aRoadsByRank, aRow, aRanksBefore, aBusy, aOpen, aShut]) H locs := hG
  have hl : lv_has ls 6 [(0, .ref (q 26)), (1, .ref (q 25)), (2, .int x2_1)] := hl
  unfold f0_measure_b1 at hb6
  refine lv_iload_n hx hb dX0_measure_2 rfl (lv_at hl 2 rfl) ?_
  refine lv_aload_n hx hb dX0_measure_3 rfl (lv_at hl 1 rfl) ?_
  refine g_get (v := .int iLsize) X hT hG fl_X0_21 25 rfl rfl rfl dX0_measure_4 ?_
  refine lv_icmp_ge (tgt := 113) hx hb dX0_measure_7 (by decide) (fun cb7 => ?_) (fun cb7 => ?_)
  · have hb6 := ite_t cb7 hb6
    have eo := hout6 _ (Option.some.inj hb6).symm
    cases eo
    exact JX6 H locs ls hG (lv_sub hl [0, 1] rfl)
  · have hb6 := ite_f cb7 hb6
    refine lv_iconst (v := 0) hx hb dX0_measure_10 (by decide) ?_
    refine lv_istore_n (lv' := [(3, .int 0), (0, .ref (q 26)), (1, .ref (q 25)), (2, .int x2_1)]) hx hb dX0_measure_11 rfl hl (by decide) rfl (fun ls hl => ?_)
    obtain ⟨gUps_11, gDowns_12, eL13, hb6⟩ := bnd2_some hb6
    have JX13 : ∀ (H : Heap) (locs : List Loc) (ls : Array Slot), GH D cI cZ layB q s ([iReadings, iAlterations, iRankings, iLetters, iCurrent, iDue, iSize, iLsize], [], [gCosts, gWorths, gMiddles, gApart, gApartWithout, gNeeded, gUps_11, gDowns_12, gKeys, gNexts, gShutKeys, aCodes, aPbegins, aPends, aPlengths, aBegins, aEnds, aLengths, aRanks, aRoadsByRank, aRow, aRanksBefore, aBusy, aOpen, aShut]) H locs → lv_has ls 6 [(0, .ref (q 26)), (1, .ref (q 25)), (2, .int x2_1)] → W p l e R s m args below meth c H locs 0 0 Q (F0 m 87 ls []) := by
      intro H locs ls hG hl
      refine lv_aload_n hx hb dX0_measure_87 rfl (lv_at hl 0 rfl) ?_
      refine g_get (v := .ref (q 6)) X hT hG fl_X0_12 26 rfl rfl rfl dX0_measure_88 ?_
      refine lv_iload_n hx hb dX0_measure_91 rfl (lv_at hl 2 rfl) ?_
      refine lv_iload_n hx hb dX0_measure_92 rfl (lv_at hl 2 rfl) ?_
      refine lv_iconst (v := 0) hx hb dX0_measure_93 (by decide) ?_
      obtain ⟨gUps_30, ec31, hb6⟩ := bnd1_some hb6
      refine g_callVv [.int x2_1, .int x2_1, .int 0] [] 6 X hT hG ml_X0_39 (c_X1_set_6 hq ec31) rfl rfl rfl rfl rfl hl.1 (Nat.le_of_ble_eq_true rfl) (by rw [hR]; exact ⟨Nat.le_of_ble_eq_true rfl, Nat.le_of_ble_eq_true rfl⟩) dX0_measure_94 (fun H locs hG => ?_)
      have hG : GH D cI cZ layB q s ([iReadings, iAlterations, iRankings, iLetters, iCurrent, iDue, iSize, iLsize], [], [gCosts, gWorths, gMiddles, gApart, gApartWithout, gNeeded, gUps_30, gDowns_12, gKeys, gNexts, gShutKeys, aCodes, aPbegins, aPends, aPlengths, aBegins, aEnds, aLengths, aRanks, aRoadsByRank, aRow, aRanksBefore, aBusy, aOpen, aShut]) H locs := hG
      refine lv_aload_n hx hb dX0_measure_97 rfl (lv_at hl 0 rfl) ?_
      refine g_get (v := .ref (q 7)) X hT hG fl_X0_18 26 rfl rfl rfl dX0_measure_98 ?_
      refine lv_iload_n hx hb dX0_measure_101 rfl (lv_at hl 2 rfl) ?_
      refine lv_iload_n hx hb dX0_measure_102 rfl (lv_at hl 2 rfl) ?_
      refine lv_iconst (v := 0) hx hb dX0_measure_103 (by decide) ?_
      obtain ⟨gDowns_32, ec33, hb6⟩ := bnd1_some hb6
      refine g_callVv [.int x2_1, .int x2_1, .int 0] [] 7 X hT hG ml_X0_39 (c_X1_set_7 hq ec33) rfl rfl rfl rfl rfl hl.1 (Nat.le_of_ble_eq_true rfl) (by rw [hR]; exact ⟨Nat.le_of_ble_eq_true rfl, Nat.le_of_ble_eq_true rfl⟩) dX0_measure_104 (fun H locs hG => ?_)
      have hG : GH D cI cZ layB q s ([iReadings, iAlterations, iRankings, iLetters, iCurrent, iDue, iSize, iLsize], [], [gCosts, gWorths, gMiddles, gApart, gApartWithout, gNeeded, gUps_30, gDowns_32, gKeys, gNexts, gShutKeys, aCodes, aPbegins, aPends, aPlengths, aBegins, aEnds, aLengths, aRanks, aRoadsByRank, aRow, aRanksBefore, aBusy, aOpen, aShut]) H locs := hG
      obtain ⟨x2_34, ex2_34⟩ : ∃ z : Int32, z = x2_1 + 1 := ⟨_, rfl⟩
      have hb6 := bd_e ex2_34 hb6
      refine lv_iinc (v := x2_34) (lv' := [(2, .int x2_34), (0, .ref (q 26)), (1, .ref (q 25))]) hx hb dX0_measure_107 hl (k := 2) rfl (by rw [ex2_34]; rfl) (by decide) rfl (fun ls hl => ?_)
      refine lv_goto (tgt := 2) hx hb dX0_measure_110 (by decide) ?_
      exact hin6 _ (Option.some.inj hb6).symm H locs ls hG (lv_sub hl [1, 2, 0] rfl)
    refine lpG_W (Wh := fun z => ∀ (H : Heap) (locs : List Loc) (ls : Array Slot), GH D cI cZ layB q s ([iReadings, iAlterations, iRankings, iLetters, iCurrent, iDue, iSize, iLsize], [], [gCosts, gWorths, gMiddles, gApart, gApartWithout, gNeeded, z.2.1, z.2.2, gKeys, gNexts, gShutKeys, aCodes, aPbegins, aPends, aPlengths, aBegins, aEnds, aLengths, aRanks, aRoadsByRank, aRow, aRanksBefore, aBusy, aOpen, aShut]) H locs → lv_has ls 6 [(0, .ref (q 26)), (1, .ref (q 25)), (2, .int x2_1), (3, .int (z.1))] → W p l e R s m args below meth c H locs 0 0 Q (F0 m 12 ls [])) ?_ fu _ eL13 H locs ls hG (lv_sub hl [1, 2, 3, 0] rfl)
    intro z rr13 hb13 hin13 hout13
    obtain ⟨x3_8, gUps_9, gDowns_10⟩ := z
    intro H locs ls hG hl
    have hb13 : f0_measure_b2 iLsize x2_1 gWorths aRanks x3_8 gUps_9 gDowns_10 = some rr13 := hb13
    have hG : GH D cI cZ layB q s ([iReadings, iAlterations, iRankings, iLetters, iCurrent, iDue, iSize, iLsize], [], [gCosts, gWorths, gMiddles, gApart, gApartWithout, gNeeded, gUps_9, gDowns_10, gKeys, gNexts, gShutKeys, aCodes, aPbegins, aPends, aPlengths, aBegins, aEnds, aLengths, aRanks, aRoadsByRank, aRow, aRanksBefore, aBusy, aOpen, aShut]) H locs := hG
    have hl : lv_has ls 6 [(0, .ref (q 26)), (1, .ref (q 25)), (2, .int x2_1), (3, .int x3_8)] := hl
    unfold f0_measure_b2 at hb13
    refine lv_iload_n hx hb dX0_measure_12 rfl (lv_at hl 3 rfl) ?_
    refine lv_aload_n hx hb dX0_measure_13 rfl (lv_at hl 1 rfl) ?_
    refine g_get (v := .int iLsize) X hT hG fl_X0_21 25 rfl rfl rfl dX0_measure_14 ?_
    refine lv_icmp_ge (tgt := 87) hx hb dX0_measure_17 (by decide) (fun cb14 => ?_) (fun cb14 => ?_)
    · have hb13 := ite_t cb14 hb13
      have eo := hout13 _ (Option.some.inj hb13).symm
      cases eo
      exact JX13 H locs ls hG (lv_sub hl [0, 1, 2] rfl)
    · have hb13 := ite_f cb14 hb13
      refine lv_aload_n hx hb dX0_measure_20 rfl (lv_at hl 1 rfl) ?_
      refine g_get (v := .ref (q 1)) X hT hG fl_X0_27 25 rfl rfl rfl dX0_measure_21 ?_
      refine lv_iload_n hx hb dX0_measure_24 rfl (lv_at hl 2 rfl) ?_
      refine lv_iload_n hx hb dX0_measure_25 rfl (lv_at hl 3 rfl) ?_
      obtain ⟨r_15, ec16, hb13⟩ := bnd1_some hb13
      refine g_callVr [.int x2_1, .int x3_8] [] 1 X hT hG ml_X0_30 (c_X1_get_1 hq ec16) rfl rfl rfl rfl rfl hl.1 (Nat.le_of_ble_eq_true rfl) (by rw [hR]; exact ⟨Nat.le_of_ble_eq_true rfl, Nat.le_of_ble_eq_true rfl⟩) dX0_measure_26 (fun H locs hG => ?_)
      refine lv_istore (lv' := [(4, .int r_15), (0, .ref (q 26)), (1, .ref (q 25)), (2, .int x2_1), (3, .int x3_8)]) hx hb dX0_measure_29 hl (by decide) rfl (fun ls hl => ?_)
      refine lv_aload_n hx hb dX0_measure_31 rfl (lv_at hl 2 rfl) ?_
      refine lv_iload_n hx hb dX0_measure_32 rfl (lv_at hl 3 rfl) ?_
      refine lv_iload_n hx hb dX0_measure_33 rfl (lv_at hl 4 rfl) ?_
      obtain ⟨r_17, ec18, hb13⟩ := bnd1_some hb13
      refine g_callVr [.int x2_1, .int x3_8] [] 25 X hT hG ml_X0_34 (c_X2_leadsUp hq ec18) rfl rfl rfl rfl rfl hl.1 (Nat.le_of_ble_eq_true rfl) (by rw [hR]; exact ⟨Nat.le_of_ble_eq_true rfl, Nat.le_of_ble_eq_true rfl⟩) dX0_measure_34 (fun H locs hG => ?_)
      refine lv_istore (lv' := [(5, .int r_17), (4, .int r_15), (0, .ref (q 26)), (1, .ref (q 25)), (2, .int x2_1), (3, .int x3_8)]) hx hb dX0_measure_37 hl (by decide) rfl (fun ls hl => ?_)
      refine lv_aload_n hx hb dX0_measure_39 rfl (lv_at hl 2 rfl) ?_
      refine g_get (v := .ref (q 6)) X hT hG fl_X0_12 26 rfl rfl rfl dX0_measure_40 ?_
      refine lv_iload_n hx hb dX0_measure_43 rfl (lv_at hl 4 rfl) ?_
      refine lv_iload_n hx hb dX0_measure_44 rfl (lv_at hl 5 rfl) ?_
      refine lv_iload hx hb dX0_measure_45 (lv_at hl 0 rfl) ?_
      obtain ⟨y_19, er20, hb13⟩ := bnd1_some hb13
      have J20 : ∀ (H : Heap) (locs : List Loc) (ls : Array Slot), GH D cI cZ layB q s ([iReadings, iAlterations, iRankings, iLetters, iCurrent, iDue, iSize, iLsize], [], [gCosts, gWorths, gMiddles, gApart, gApartWithout, gNeeded, gUps_9, gDowns_10, gKeys, gNexts, gShutKeys, aCodes, aPbegins, aPends, aPlengths, aBegins, aEnds, aLengths, aRanks, aRoadsByRank, aRow, aRanksBefore, aBusy, aOpen, aShut]) H locs → lv_has ls 6 [(0, .ref (q 26)), (1, .ref (q 25)), (2, .int x2_1), (3, .int x3_8), (4, .int r_15), (5, .int r_17)] → W p l e R s m args below meth c H locs 0 0 Q (F0 m 57 ls [.int y_19, .int x3_8, .int x2_1, .ref (q 6)]) := by
        intro H locs ls hG hl
        obtain ⟨gUps_22, ec23, hb13⟩ := bnd1_some hb13
        refine g_callVv [.int x2_1, .int x3_8, .int y_19] [] 6 X hT hG ml_X0_39 (c_X1_set_6 hq ec23) rfl rfl rfl rfl rfl hl.1 (Nat.le_of_ble_eq_true rfl) (by rw [hR]; exact ⟨Nat.le_of_ble_eq_true rfl, Nat.le_of_ble_eq_true rfl⟩) dX0_measure_57 (fun H locs hG => ?_)
        have hG : GH D cI cZ layB q s ([iReadings, iAlterations, iRankings, iLetters, iCurrent, iDue, iSize, iLsize], [], [gCosts, gWorths, gMiddles, gApart, gApartWithout, gNeeded, gUps_22, gDowns_10, gKeys, gNexts, gShutKeys, aCodes, aPbegins, aPends, aPlengths, aBegins, aEnds, aLengths, aRanks, aRoadsByRank, aRow, aRanksBefore, aBusy, aOpen, aShut]) H locs := hG
        refine lv_aload_n hx hb dX0_measure_60 rfl (lv_at hl 0 rfl) ?_
        refine g_get (v := .ref (q 7)) X hT hG fl_X0_18 26 rfl rfl rfl dX0_measure_61 ?_
        refine lv_iload_n hx hb dX0_measure_64 rfl (lv_at hl 2 rfl) ?_
        refine lv_iload_n hx hb dX0_measure_65 rfl (lv_at hl 3 rfl) ?_
        refine lv_iload hx hb dX0_measure_66 (lv_at hl 5 rfl) ?_
        obtain ⟨y_24, er25, hb13⟩ := bnd1_some hb13
        have J25 : ∀ (H : Heap) (locs : List Loc) (ls : Array Slot), GH D cI cZ layB q s ([iReadings, iAlterations, iRankings, iLetters, iCurrent, iDue, iSize, iLsize], [], [gCosts, gWorths, gMiddles, gApart, gApartWithout, gNeeded, gUps_22, gDowns_10, gKeys, gNexts, gShutKeys, aCodes, aPbegins, aPends, aPlengths, aBegins, aEnds, aLengths, aRanks, aRoadsByRank, aRow, aRanksBefore, aBusy, aOpen, aShut]) H locs → lv_has ls 6 [(0, .ref (q 26)), (1, .ref (q 25)), (2, .int x2_1), (3, .int x3_8)] → W p l e R s m args below meth c H locs 0 0 Q (F0 m 78 ls [.int y_24, .int x3_8, .int x2_1, .ref (q 7)]) := by
          intro H locs ls hG hl
          obtain ⟨gDowns_27, ec28, hb13⟩ := bnd1_some hb13
          refine g_callVv [.int x2_1, .int x3_8, .int y_24] [] 7 X hT hG ml_X0_39 (c_X1_set_7 hq ec28) rfl rfl rfl rfl rfl hl.1 (Nat.le_of_ble_eq_true rfl) (by rw [hR]; exact ⟨Nat.le_of_ble_eq_true rfl, Nat.le_of_ble_eq_true rfl⟩) dX0_measure_78 (fun H locs hG => ?_)
          have hG : GH D cI cZ layB q s ([iReadings, iAlterations, iRankings, iLetters, iCurrent, iDue, iSize, iLsize], [], [gCosts, gWorths, gMiddles, gApart, gApartWithout, gNeeded, gUps_22, gDowns_27, gKeys, gNexts, gShutKeys, aCodes, aPbegins, aPends, aPlengths, aBegins, aEnds, aLengths, aRanks, aRoadsByRank, aRow, aRanksBefore, aBusy, aOpen, aShut]) H locs := hG
          obtain ⟨x3_29, ex3_29⟩ : ∃ z : Int32, z = x3_8 + 1 := ⟨_, rfl⟩
          have hb13 := bd_e ex3_29 hb13
          refine lv_iinc (v := x3_29) (lv' := [(3, .int x3_29), (0, .ref (q 26)), (1, .ref (q 25)), (2, .int x2_1)]) hx hb dX0_measure_81 hl (k := 3) rfl (by rw [ex3_29]; rfl) (by decide) rfl (fun ls hl => ?_)
          refine lv_goto (tgt := 12) hx hb dX0_measure_84 (by decide) ?_
          exact hin13 _ (Option.some.inj hb13).symm H locs ls hG (lv_sub hl [1, 2, 3, 0] rfl)
        refine lv_if_eq (tgt := 76) hx hb dX0_measure_68 (by decide) (fun cb26 => ?_) (fun cb26 => ?_)
        · have er25 := ite_t cb26 er25
          refine lv_iload hx hb dX0_measure_76 (lv_at hl 4 rfl) ?_
          cases er25
          exact J25 H locs ls hG (lv_sub hl [0, 1, 2, 3] rfl)
        · have er25 := ite_f cb26 er25
          refine lv_ldc (v := 268435456) hx hb X.2.2.2.1 (X.2.2.2.2 _ cn_X0_38) dX0_measure_71 ?_
          refine lv_goto (tgt := 78) hx hb dX0_measure_73 (by decide) ?_
          cases er25
          exact J25 H locs ls hG (lv_sub hl [0, 1, 2, 3] rfl)
      refine lv_if_eq (tgt := 55) hx hb dX0_measure_47 (by decide) (fun cb21 => ?_) (fun cb21 => ?_)
      · have er20 := ite_t cb21 er20
        refine lv_ldc (v := 268435456) hx hb X.2.2.2.1 (X.2.2.2.2 _ cn_X0_38) dX0_measure_55 ?_
        cases er20
        exact J20 H locs ls hG (lv_sub hl [2, 3, 4, 5, 1, 0] rfl)
      · have er20 := ite_f cb21 er20
        refine lv_iload hx hb dX0_measure_50 (lv_at hl 1 rfl) ?_
        refine lv_goto (tgt := 57) hx hb dX0_measure_52 (by decide) ?_
        cases er20
        exact J20 H locs ls hG (lv_sub hl [2, 3, 4, 5, 1, 0] rfl)
def f3_hasStep (p1 : Int32) (p2 : Int32) (gCosts : (Nat → Int32)) : Option (Int32) :=
  bnd1 (f1_get p1 p2 gCosts) fun (r_1 : Int32) => bnd1 (if r_1 < 0 then (some 0) else some 1) fun (y_3 : Int32) => ckb y_3 (some y_3)
set_option maxHeartbeats 4000000 in
set_option maxRecDepth 100000 in
theorem c_X3_hasStep (hq : gJ layB q) {p1 : Int32} {p2 : Int32} {o_r : Int32} (h : f3_hasStep p1 p2 gCosts = some o_r) :
    GM l yX3_hasStep cX3_hasStep 3 (some .boolean) 1 22 D cI cZ layB q [.ref (q 24), .int p1, .int p2] ([iReadings, iAlterations, iRankings, iLetters, iCurrent, iDue, iSize, iLsize], [], [gCosts, gWorths, gMiddles, gApart, gApartWithout, gNeeded, gUps, gDowns, gKeys, gNexts, gShutKeys, aCodes, aPbegins, aPends, aPlengths, aBegins, aEnds, aLengths, aRanks, aRoadsByRank, aRow, aRanksBefore, aBusy, aOpen, aShut]) (some (.int o_r)) ([iReadings, iAlterations, iRankings, iLetters, iCurrent, iDue, iSize, iLsize], [], [gCosts, gWorths, gMiddles, gApart, gApartWithout, gNeeded, gUps, gDowns, gKeys, gNexts, gShutKeys, aCodes, aPbegins, aPends, aPlengths, aBegins, aEnds, aLengths, aRanks, aRoadsByRank, aRow, aRanksBefore, aBusy, aOpen, aShut]) := by
  refine GM.go RX3 (by decide) rfl (Nat.le_of_ble_eq_true rfl) ?_
  intro p e s m args below meth c ls R Q H locs X hr hlk hT hG hl hR hQ
  have hx := X.1
  have hb := X.2.1
  have hl : lv_has ls 3 [(0, .ref (q 24)), (1, .int p1), (2, .int p2)] := hl
  unfold f3_hasStep at h
  refine lv_aload_n hx hb dX3_hasStep_0 rfl (lv_at hl 0 rfl) ?_
  refine g_get (v := .ref (q 0)) X hT hG fl_X3_24 24 rfl rfl rfl dX3_hasStep_1 ?_
  refine lv_iload_n hx hb dX3_hasStep_4 rfl (lv_at hl 1 rfl) ?_
  refine lv_iload_n hx hb dX3_hasStep_5 rfl (lv_at hl 2 rfl) ?_
  obtain ⟨r_1, ec2, h⟩ := bnd1_some h
  refine g_callVr [.int p1, .int p2] [] 0 X hT hG ml_X3_59 (c_X1_get_0 hq ec2) rfl rfl rfl rfl rfl hl.1 (Nat.le_of_ble_eq_true rfl) (by rw [hR]; exact ⟨Nat.le_of_ble_eq_true rfl, Nat.le_of_ble_eq_true rfl⟩) dX3_hasStep_6 (fun H locs hG => ?_)
  obtain ⟨y_3, er4, h⟩ := bnd1_some h
  have J4 : ∀ (H : Heap) (locs : List Loc) (ls : Array Slot), GH D cI cZ layB q s ([iReadings, iAlterations, iRankings, iLetters, iCurrent, iDue, iSize, iLsize], [], [gCosts, gWorths, gMiddles, gApart, gApartWithout, gNeeded, gUps, gDowns, gKeys, gNexts, gShutKeys, aCodes, aPbegins, aPends, aPlengths, aBegins, aEnds, aLengths, aRanks, aRoadsByRank, aRow, aRanksBefore, aBusy, aOpen, aShut]) H locs → lv_has ls 3 [] → W p l e R s m args below meth c H locs 0 0 Q (F0 m 17 ls [.int y_3]) := by
    intro H locs ls hG hl
    obtain ⟨hz, h⟩ := ckb_some h
    cases h
    rw [hQ]
    exact g_zret X hT hG hr hlk hz dX3_hasStep_17
  refine lv_if_lt (tgt := 16) hx hb dX3_hasStep_9 (by decide) (fun cb5 => ?_) (fun cb5 => ?_)
  · have er4 := ite_t cb5 er4
    refine lv_iconst (v := 0) hx hb dX3_hasStep_16 (by decide) ?_
    cases er4
    exact J4 H locs ls hG (lv_sub hl [] rfl)
  · have er4 := ite_f cb5 er4
    refine lv_iconst (v := 1) hx hb dX3_hasStep_12 (by decide) ?_
    refine lv_goto (tgt := 17) hx hb dX3_hasStep_13 (by decide) ?_
    cases er4
    exact J4 H locs ls hG (lv_sub hl [] rfl)
def f3_stepKey (p1 : Int32) (p2 : Int32) (gCosts : (Nat → Int32)) (aLengths : (Nat → Int32)) : Option (Int32) :=
  bnd1 (f3_hasStep p1 p2 gCosts) fun (r_1 : Int32) => bnd1 (if r_1 = 0 then (some 268435456) else bnd1 (f3_stepWorth p1 p2 gCosts aLengths) fun (r_6 : Int32) => some ((r_6 * 64) + 1)) fun (y_3 : Int32) => some y_3
set_option maxHeartbeats 4000000 in
set_option maxRecDepth 100000 in
theorem c_X3_stepKey (hq : gJ layB q) {p1 : Int32} {p2 : Int32} {o_r : Int32} (h : f3_stepKey p1 p2 gCosts aLengths = some o_r) :
    GM l yX3_stepKey cX3_stepKey 3 (some .int) 2 45 D cI cZ layB q [.ref (q 24), .int p1, .int p2] ([iReadings, iAlterations, iRankings, iLetters, iCurrent, iDue, iSize, iLsize], [], [gCosts, gWorths, gMiddles, gApart, gApartWithout, gNeeded, gUps, gDowns, gKeys, gNexts, gShutKeys, aCodes, aPbegins, aPends, aPlengths, aBegins, aEnds, aLengths, aRanks, aRoadsByRank, aRow, aRanksBefore, aBusy, aOpen, aShut]) (some (.int o_r)) ([iReadings, iAlterations, iRankings, iLetters, iCurrent, iDue, iSize, iLsize], [], [gCosts, gWorths, gMiddles, gApart, gApartWithout, gNeeded, gUps, gDowns, gKeys, gNexts, gShutKeys, aCodes, aPbegins, aPends, aPlengths, aBegins, aEnds, aLengths, aRanks, aRoadsByRank, aRow, aRanksBefore, aBusy, aOpen, aShut]) := by
  refine GM.go RX3 (by decide) rfl (Nat.le_of_ble_eq_true rfl) ?_
  intro p e s m args below meth c ls R Q H locs X hr hlk hT hG hl hR hQ
  have hx := X.1
  have hb := X.2.1
  have hl : lv_has ls 3 [(0, .ref (q 24)), (1, .int p1), (2, .int p2)] := hl
  unfold f3_stepKey at h
  refine lv_aload_n hx hb dX3_stepKey_0 rfl (lv_at hl 0 rfl) ?_
  refine lv_iload_n hx hb dX3_stepKey_1 rfl (lv_at hl 1 rfl) ?_
  refine lv_iload_n hx hb dX3_stepKey_2 rfl (lv_at hl 2 rfl) ?_
  obtain ⟨r_1, ec2, h⟩ := bnd1_some h
  refine g_callVr [.int p1, .int p2] [] 24 X hT hG ml_X3_63 (c_X3_hasStep hq ec2) rfl rfl rfl rfl rfl hl.1 (Nat.le_of_ble_eq_true rfl) (by rw [hR]; exact ⟨Nat.le_of_ble_eq_true rfl, Nat.le_of_ble_eq_true rfl⟩) dX3_stepKey_3 (fun H locs hG => ?_)
  obtain ⟨y_3, er4, h⟩ := bnd1_some h
  have J4 : ∀ (H : Heap) (locs : List Loc) (ls : Array Slot), GH D cI cZ layB q s ([iReadings, iAlterations, iRankings, iLetters, iCurrent, iDue, iSize, iLsize], [], [gCosts, gWorths, gMiddles, gApart, gApartWithout, gNeeded, gUps, gDowns, gKeys, gNexts, gShutKeys, aCodes, aPbegins, aPends, aPlengths, aBegins, aEnds, aLengths, aRanks, aRoadsByRank, aRow, aRanksBefore, aBusy, aOpen, aShut]) H locs → lv_has ls 3 [] → W p l e R s m args below meth c H locs 0 0 Q (F0 m 25 ls [.int y_3]) := by
    intro H locs ls hG hl
    cases h
    rw [hQ]
    exact g_iret X hT hG hr hlk dX3_stepKey_25
  refine lv_if_eq (tgt := 23) hx hb dX3_stepKey_6 (by decide) (fun cb5 => ?_) (fun cb5 => ?_)
  · have er4 := ite_t cb5 er4
    refine lv_ldc (v := 268435456) hx hb X.2.2.2.1 (X.2.2.2.2 _ cn_X3_62) dX3_stepKey_23 ?_
    cases er4
    exact J4 H locs ls hG (lv_sub hl [] rfl)
  · have er4 := ite_f cb5 er4
    refine lv_aload_n hx hb dX3_stepKey_9 rfl (lv_at hl 0 rfl) ?_
    refine lv_iload_n hx hb dX3_stepKey_10 rfl (lv_at hl 1 rfl) ?_
    refine lv_iload_n hx hb dX3_stepKey_11 rfl (lv_at hl 2 rfl) ?_
    obtain ⟨r_6, ec7, er4⟩ := bnd1_some er4
    refine g_callVr [.int p1, .int p2] [] 24 X hT hG ml_X3_67 (c_X3_stepWorth hq ec7) rfl rfl rfl rfl rfl hl.1 (Nat.le_of_ble_eq_true rfl) (by rw [hR]; exact ⟨Nat.le_of_ble_eq_true rfl, Nat.le_of_ble_eq_true rfl⟩) dX3_stepKey_12 (fun H locs hG => ?_)
    refine lv_bipush (v := 64) hx hb dX3_stepKey_15 (by decide) ?_
    refine lv_imul hx hb dX3_stepKey_17 ?_
    refine lv_iconst (v := 1) hx hb dX3_stepKey_18 (by decide) ?_
    refine lv_iadd hx hb dX3_stepKey_19 ?_
    refine lv_goto (tgt := 25) hx hb dX3_stepKey_20 (by decide) ?_
    cases er4
    exact J4 H locs ls hG (lv_sub hl [] rfl)
set_option maxHeartbeats 4000000 in
set_option maxRecDepth 100000 in
theorem c_X1_set_8 (hq : gJ layB q) {p1 : Int32} {p2 : Int32} {p3 : Int32} {o_gKeys : (Nat → Int32)} (h : f1_set p1 p2 gKeys p3 = some o_gKeys) :
    GM l yX1_set cX1_set 4 none 0 0 D cI cZ layB q [.ref (q 8), .int p1, .int p2, .int p3] ([iReadings, iAlterations, iRankings, iLetters, iCurrent, iDue, iSize, iLsize], [], [gCosts, gWorths, gMiddles, gApart, gApartWithout, gNeeded, gUps, gDowns, gKeys, gNexts, gShutKeys, aCodes, aPbegins, aPends, aPlengths, aBegins, aEnds, aLengths, aRanks, aRoadsByRank, aRow, aRanksBefore, aBusy, aOpen, aShut]) none ([iReadings, iAlterations, iRankings, iLetters, iCurrent, iDue, iSize, iLsize], [], [gCosts, gWorths, gMiddles, gApart, gApartWithout, gNeeded, gUps, gDowns, o_gKeys, gNexts, gShutKeys, aCodes, aPbegins, aPends, aPlengths, aBegins, aEnds, aLengths, aRanks, aRoadsByRank, aRow, aRanksBefore, aBusy, aOpen, aShut]) := by
  refine GM.go RX1 (by decide) rfl (Nat.le_of_ble_eq_true rfl) ?_
  intro p e s m args below meth c ls R Q H locs X hr hlk hT hG hl hR hQ
  have hx := X.1
  have hb := X.2.1
  have hl : lv_has ls 4 [(0, .ref (q 8)), (1, .int p1), (2, .int p2), (3, .int p3)] := hl
  unfold f1_set at h
  refine lv_aload_n hx hb dX1_set_0 rfl (lv_at hl 0 rfl) ?_
  refine g_get (v := .ref (q 19)) X hT hG fl_X1_9 8 rfl rfl rfl dX1_set_1 ?_
  refine lv_iload_n hx hb dX1_set_4 rfl (lv_at hl 1 rfl) ?_
  refine lv_bipush (v := 12) hx hb dX1_set_5 (by decide) ?_
  refine lv_imul hx hb dX1_set_7 ?_
  refine lv_iload_n hx hb dX1_set_8 rfl (lv_at hl 2 rfl) ?_
  refine lv_iadd hx hb dX1_set_9 ?_
  refine lv_iload_n hx hb dX1_set_10 rfl (lv_at hl 3 rfl) ?_
  obtain ⟨hi1, h⟩ := ckin_some h
  obtain ⟨gKeys_2, egKeys_2⟩ : ∃ z : Nat → Int32, z = upd gKeys ((p1 * 12) + p2).toNatClampNeg p3 := ⟨_, rfl⟩
  have h := bd_e egKeys_2 h
  refine g_ast (w' := ([iReadings, iAlterations, iRankings, iLetters, iCurrent, iDue, iSize, iLsize], [], [gCosts, gWorths, gMiddles, gApart, gApartWithout, gNeeded, gUps, gDowns, gKeys_2, gNexts, gShutKeys, aCodes, aPbegins, aPends, aPlengths, aBegins, aEnds, aLengths, aRanks, aRoadsByRank, aRow, aRanksBefore, aBusy, aOpen, aShut])) X hT hq hG 19 rfl ga_B_gKeys (Nat.le_of_ble_eq_true rfl) hi1 (by subst egKeys_2; rfl) dX1_set_11 (fun H locs hG => ?_)
  cases h
  rw [hQ]
  exact g_vret X hT hG hr hlk dX1_set_12
set_option maxHeartbeats 4000000 in
set_option maxRecDepth 100000 in
theorem c_X1_get_8 (hq : gJ layB q) {p1 : Int32} {p2 : Int32} {o_r : Int32} (h : f1_get p1 p2 gKeys = some o_r) :
    GM l yX1_get cX1_get 3 (some .int) 0 0 D cI cZ layB q [.ref (q 8), .int p1, .int p2] ([iReadings, iAlterations, iRankings, iLetters, iCurrent, iDue, iSize, iLsize], [], [gCosts, gWorths, gMiddles, gApart, gApartWithout, gNeeded, gUps, gDowns, gKeys, gNexts, gShutKeys, aCodes, aPbegins, aPends, aPlengths, aBegins, aEnds, aLengths, aRanks, aRoadsByRank, aRow, aRanksBefore, aBusy, aOpen, aShut]) (some (.int o_r)) ([iReadings, iAlterations, iRankings, iLetters, iCurrent, iDue, iSize, iLsize], [], [gCosts, gWorths, gMiddles, gApart, gApartWithout, gNeeded, gUps, gDowns, gKeys, gNexts, gShutKeys, aCodes, aPbegins, aPends, aPlengths, aBegins, aEnds, aLengths, aRanks, aRoadsByRank, aRow, aRanksBefore, aBusy, aOpen, aShut]) := by
  refine GM.go RX1 (by decide) rfl (Nat.le_of_ble_eq_true rfl) ?_
  intro p e s m args below meth c ls R Q H locs X hr hlk hT hG hl hR hQ
  have hx := X.1
  have hb := X.2.1
  have hl : lv_has ls 3 [(0, .ref (q 8)), (1, .int p1), (2, .int p2)] := hl
  unfold f1_get at h
  refine lv_aload_n hx hb dX1_get_0 rfl (lv_at hl 0 rfl) ?_
  refine g_get (v := .ref (q 19)) X hT hG fl_X1_9 8 rfl rfl rfl dX1_get_1 ?_
  refine lv_iload_n hx hb dX1_get_4 rfl (lv_at hl 1 rfl) ?_
  refine lv_bipush (v := 12) hx hb dX1_get_5 (by decide) ?_
  refine lv_imul hx hb dX1_get_7 ?_
  refine lv_iload_n hx hb dX1_get_8 rfl (lv_at hl 2 rfl) ?_
  refine lv_iadd hx hb dX1_get_9 ?_
  obtain ⟨hi1, h⟩ := ckin_some h
  refine g_ald (f := gKeys) X hT hG 19 rfl rfl hi1 dX1_get_10 ?_
  cases h
  rw [hQ]
  exact g_iret X hT hG hr hlk dX1_get_11
set_option maxHeartbeats 4000000 in
set_option maxRecDepth 100000 in
theorem c_X1_shortenRow_8 (hq : gJ layB q) {fu : Nat} {p1 : Int32} {p2 : Int32} {p3 : Int32} {p4 : Int32} {o_gKeys : (Nat → Int32)} (h : f1_shortenRow fu p1 p2 p4 p3 gKeys = some o_gKeys) :
    GM l yX1_shortenRow cX1_shortenRow 9 none 0 0 D cI cZ layB q [.ref (q 8), .int p1, .int p2, .int p3, .int p4] ([iReadings, iAlterations, iRankings, iLetters, iCurrent, iDue, iSize, iLsize], [], [gCosts, gWorths, gMiddles, gApart, gApartWithout, gNeeded, gUps, gDowns, gKeys, gNexts, gShutKeys, aCodes, aPbegins, aPends, aPlengths, aBegins, aEnds, aLengths, aRanks, aRoadsByRank, aRow, aRanksBefore, aBusy, aOpen, aShut]) none ([iReadings, iAlterations, iRankings, iLetters, iCurrent, iDue, iSize, iLsize], [], [gCosts, gWorths, gMiddles, gApart, gApartWithout, gNeeded, gUps, gDowns, o_gKeys, gNexts, gShutKeys, aCodes, aPbegins, aPends, aPlengths, aBegins, aEnds, aLengths, aRanks, aRoadsByRank, aRow, aRanksBefore, aBusy, aOpen, aShut]) := by
  refine GM.go RX1 (by decide) rfl (Nat.le_of_ble_eq_true rfl) ?_
  intro p e s m args below meth c ls R Q H locs X hr hlk hT hG hl hR hQ
  have hx := X.1
  have hb := X.2.1
  have hl : lv_has ls 9 [(0, .ref (q 8)), (1, .int p1), (2, .int p2), (3, .int p3), (4, .int p4)] := hl
  unfold f1_shortenRow at h
  refine lv_iload_n hx hb dX1_shortenRow_0 rfl (lv_at hl 1 rfl) ?_
  refine lv_bipush (v := 12) hx hb dX1_shortenRow_1 (by decide) ?_
  refine lv_imul hx hb dX1_shortenRow_3 ?_
  refine lv_topi (fun x5_1 ex5_1 => ?_)
  have h := bd_e ex5_1 h
  refine lv_istore (lv' := [(5, .int x5_1), (0, .ref (q 8)), (1, .int p1), (2, .int p2), (3, .int p3), (4, .int p4)]) hx hb dX1_shortenRow_4 hl (by decide) rfl (fun ls hl => ?_)
  refine lv_iload_n hx hb dX1_shortenRow_6 rfl (lv_at hl 3 rfl) ?_
  refine lv_bipush (v := 12) hx hb dX1_shortenRow_7 (by decide) ?_
  refine lv_imul hx hb dX1_shortenRow_9 ?_
  refine lv_topi (fun x6_2 ex6_2 => ?_)
  have h := bd_e ex6_2 h
  refine lv_istore (lv' := [(6, .int x6_2), (5, .int x5_1), (0, .ref (q 8)), (1, .int p1), (2, .int p2), (3, .int p3), (4, .int p4)]) hx hb dX1_shortenRow_10 hl (by decide) rfl (fun ls hl => ?_)
  refine lv_iconst (v := 0) hx hb dX1_shortenRow_12 (by decide) ?_
  refine lv_istore (lv' := [(7, .int 0), (6, .int x6_2), (5, .int x5_1), (0, .ref (q 8)), (1, .int p1), (2, .int p2), (3, .int p3), (4, .int p4)]) hx hb dX1_shortenRow_13 hl (by decide) rfl (fun ls hl => ?_)
  obtain ⟨gKeys_5, eL6, h⟩ := bnd1_some h
  have JX6 : ∀ (H : Heap) (locs : List Loc) (ls : Array Slot), GH D cI cZ layB q s ([iReadings, iAlterations, iRankings, iLetters, iCurrent, iDue, iSize, iLsize], [], [gCosts, gWorths, gMiddles, gApart, gApartWithout, gNeeded, gUps, gDowns, gKeys_5, gNexts, gShutKeys, aCodes, aPbegins, aPends, aPlengths, aBegins, aEnds, aLengths, aRanks, aRoadsByRank, aRow, aRanksBefore, aBusy, aOpen, aShut]) H locs → lv_has ls 9 [] → W p l e R s m args below meth c H locs 0 0 Q (F0 m 69 ls []) := by
    intro H locs ls hG hl
    cases h
    rw [hQ]
    exact g_vret X hT hG hr hlk dX1_shortenRow_69
  refine lpG_W (Wh := fun z => ∀ (H : Heap) (locs : List Loc) (ls : Array Slot), GH D cI cZ layB q s ([iReadings, iAlterations, iRankings, iLetters, iCurrent, iDue, iSize, iLsize], [], [gCosts, gWorths, gMiddles, gApart, gApartWithout, gNeeded, gUps, gDowns, z.2, gNexts, gShutKeys, aCodes, aPbegins, aPends, aPlengths, aBegins, aEnds, aLengths, aRanks, aRoadsByRank, aRow, aRanksBefore, aBusy, aOpen, aShut]) H locs → lv_has ls 9 [(0, .ref (q 8)), (3, .int p3), (4, .int p4), (5, .int x5_1), (6, .int x6_2), (7, .int (z.1))] → W p l e R s m args below meth c H locs 0 0 Q (F0 m 15 ls [])) ?_ fu _ eL6 H locs ls hG (lv_sub hl [3, 6, 7, 2, 1, 0] rfl)
  intro z rr6 hb6 hin6 hout6
  obtain ⟨x7_3, gKeys_4⟩ := z
  intro H locs ls hG hl
  have hb6 : f1_shortenRow_b1 p4 x6_2 p3 x5_1 x7_3 gKeys_4 = some rr6 := hb6
  have hG : GH D cI cZ layB q s ([iReadings, iAlterations, iRankings, iLetters, iCurrent, iDue, iSize, iLsize], [], [gCosts, gWorths, gMiddles, gApart, gApartWithout, gNeeded, gUps, gDowns, gKeys_4, gNexts, gShutKeys, aCodes, aPbegins, aPends, aPlengths, aBegins, aEnds, aLengths, aRanks, aRoadsByRank, aRow, aRanksBefore, aBusy, aOpen, aShut]) H locs := hG
  have hl : lv_has ls 9 [(0, .ref (q 8)), (3, .int p3), (4, .int p4), (5, .int x5_1), (6, .int x6_2), (7, .int x7_3)] := hl
  unfold f1_shortenRow_b1 at hb6
  refine lv_iload hx hb dX1_shortenRow_15 (lv_at hl 5 rfl) ?_
  refine lv_iload hx hb dX1_shortenRow_17 (lv_at hl 2 rfl) ?_
  refine lv_icmp_ge (tgt := 69) hx hb dX1_shortenRow_19 (by decide) (fun cb7 => ?_) (fun cb7 => ?_)
  · have hb6 := ite_t cb7 hb6
    have eo := hout6 _ (Option.some.inj hb6).symm
    cases eo
    exact JX6 H locs ls hG (lv_sub hl [] rfl)
  · have hb6 := ite_f cb7 hb6
    refine lv_iload_n hx hb dX1_shortenRow_22 rfl (lv_at hl 1 rfl) ?_
    refine lv_aload_n hx hb dX1_shortenRow_23 rfl (lv_at hl 0 rfl) ?_
    refine g_get (v := .ref (q 19)) X hT hG fl_X1_9 8 rfl rfl rfl dX1_shortenRow_24 ?_
    refine lv_iload hx hb dX1_shortenRow_27 (lv_at hl 4 rfl) ?_
    refine lv_iload hx hb dX1_shortenRow_29 (lv_at hl 5 rfl) ?_
    refine lv_iadd hx hb dX1_shortenRow_31 ?_
    obtain ⟨hi8, hb6⟩ := ckin_some hb6
    refine g_ald (f := gKeys_4) X hT hG 19 rfl rfl hi8 dX1_shortenRow_32 ?_
    refine lv_iadd hx hb dX1_shortenRow_33 ?_
    refine lv_topi (fun x8_9 ex8_9 => ?_)
    have hb6 := bd_e ex8_9 hb6
    refine lv_istore (lv' := [(8, .int x8_9), (0, .ref (q 8)), (3, .int p3), (4, .int p4), (5, .int x5_1), (6, .int x6_2), (7, .int x7_3)]) hx hb dX1_shortenRow_34 hl (by decide) rfl (fun ls hl => ?_)
    refine lv_iload hx hb dX1_shortenRow_36 (lv_at hl 0 rfl) ?_
    refine lv_aload_n hx hb dX1_shortenRow_38 rfl (lv_at hl 1 rfl) ?_
    refine g_get (v := .ref (q 19)) X hT hG fl_X1_9 8 rfl rfl rfl dX1_shortenRow_39 ?_
    refine lv_iload hx hb dX1_shortenRow_42 (lv_at hl 4 rfl) ?_
    refine lv_iload hx hb dX1_shortenRow_44 (lv_at hl 6 rfl) ?_
    refine lv_iadd hx hb dX1_shortenRow_46 ?_
    obtain ⟨hi10, hb6⟩ := ckin_some hb6
    refine g_ald (f := gKeys_4) X hT hG 19 rfl rfl hi10 dX1_shortenRow_47 ?_
    obtain ⟨gKeys_11, er12, hb6⟩ := bnd1_some hb6
    have J12 : ∀ (H : Heap) (locs : List Loc) (ls : Array Slot), GH D cI cZ layB q s ([iReadings, iAlterations, iRankings, iLetters, iCurrent, iDue, iSize, iLsize], [], [gCosts, gWorths, gMiddles, gApart, gApartWithout, gNeeded, gUps, gDowns, gKeys_11, gNexts, gShutKeys, aCodes, aPbegins, aPends, aPlengths, aBegins, aEnds, aLengths, aRanks, aRoadsByRank, aRow, aRanksBefore, aBusy, aOpen, aShut]) H locs → lv_has ls 9 [(0, .ref (q 8)), (3, .int p3), (4, .int p4), (5, .int x5_1), (6, .int x6_2), (7, .int x7_3)] → W p l e R s m args below meth c H locs 0 0 Q (F0 m 63 ls []) := by
      intro H locs ls hG hl
      obtain ⟨x7_16, ex7_16⟩ : ∃ z : Int32, z = x7_3 + 1 := ⟨_, rfl⟩
      have hb6 := bd_e ex7_16 hb6
      refine lv_iinc (v := x7_16) (lv' := [(7, .int x7_16), (0, .ref (q 8)), (3, .int p3), (4, .int p4), (5, .int x5_1), (6, .int x6_2)]) hx hb dX1_shortenRow_63 hl (k := 5) rfl (by rw [ex7_16]; rfl) (by decide) rfl (fun ls hl => ?_)
      refine lv_goto (tgt := 15) hx hb dX1_shortenRow_66 (by decide) ?_
      exact hin6 _ (Option.some.inj hb6).symm H locs ls hG (lv_sub hl [1, 2, 3, 4, 5, 0] rfl)
    refine lv_icmp_ge (tgt := 63) hx hb dX1_shortenRow_48 (by decide) (fun cb13 => ?_) (fun cb13 => ?_)
    · have er12 := ite_t cb13 er12
      cases er12
      exact J12 H locs ls hG (lv_sub hl [1, 2, 3, 4, 5, 6] rfl)
    · have er12 := ite_f cb13 er12
      refine lv_aload_n hx hb dX1_shortenRow_51 rfl (lv_at hl 1 rfl) ?_
      refine g_get (v := .ref (q 19)) X hT hG fl_X1_9 8 rfl rfl rfl dX1_shortenRow_52 ?_
      refine lv_iload hx hb dX1_shortenRow_55 (lv_at hl 4 rfl) ?_
      refine lv_iload hx hb dX1_shortenRow_57 (lv_at hl 6 rfl) ?_
      refine lv_iadd hx hb dX1_shortenRow_59 ?_
      refine lv_iload hx hb dX1_shortenRow_60 (lv_at hl 0 rfl) ?_
      obtain ⟨hi14, er12⟩ := ckin_some er12
      obtain ⟨gKeys_15, egKeys_15⟩ : ∃ z : Nat → Int32, z = upd gKeys_4 (x5_1 + x7_3).toNatClampNeg x8_9 := ⟨_, rfl⟩
      have er12 := bd_e egKeys_15 er12
      refine g_ast (w' := ([iReadings, iAlterations, iRankings, iLetters, iCurrent, iDue, iSize, iLsize], [], [gCosts, gWorths, gMiddles, gApart, gApartWithout, gNeeded, gUps, gDowns, gKeys_15, gNexts, gShutKeys, aCodes, aPbegins, aPends, aPlengths, aBegins, aEnds, aLengths, aRanks, aRoadsByRank, aRow, aRanksBefore, aBusy, aOpen, aShut])) X hT hq hG 19 rfl ga_B_gKeys (Nat.le_of_ble_eq_true rfl) hi14 (by subst egKeys_15; rfl) dX1_shortenRow_62 (fun H locs hG => ?_)
      cases er12
      exact J12 H locs ls hG (lv_sub hl [1, 2, 3, 4, 5, 6] rfl)
set_option maxHeartbeats 4000000 in
set_option maxRecDepth 100000 in
theorem c_X1_shorten_8 (hq : gJ layB q) {fu : Nat} {p1 : Int32} {o_gKeys : (Nat → Int32)} (h : f1_shorten fu p1 gKeys = some o_gKeys) :
    GM l yX1_shorten cX1_shorten 5 none 1 28 D cI cZ layB q [.ref (q 8), .int p1] ([iReadings, iAlterations, iRankings, iLetters, iCurrent, iDue, iSize, iLsize], [], [gCosts, gWorths, gMiddles, gApart, gApartWithout, gNeeded, gUps, gDowns, gKeys, gNexts, gShutKeys, aCodes, aPbegins, aPends, aPlengths, aBegins, aEnds, aLengths, aRanks, aRoadsByRank, aRow, aRanksBefore, aBusy, aOpen, aShut]) none ([iReadings, iAlterations, iRankings, iLetters, iCurrent, iDue, iSize, iLsize], [], [gCosts, gWorths, gMiddles, gApart, gApartWithout, gNeeded, gUps, gDowns, o_gKeys, gNexts, gShutKeys, aCodes, aPbegins, aPends, aPlengths, aBegins, aEnds, aLengths, aRanks, aRoadsByRank, aRow, aRanksBefore, aBusy, aOpen, aShut]) := by
  refine GM.go RX1 (by decide) rfl (Nat.le_of_ble_eq_true rfl) ?_
  intro p e s m args below meth c ls R Q H locs X hr hlk hT hG hl hR hQ
  have hx := X.1
  have hb := X.2.1
  have hl : lv_has ls 5 [(0, .ref (q 8)), (1, .int p1)] := hl
  unfold f1_shorten at h
  refine lv_iconst (v := 0) hx hb dX1_shorten_0 (by decide) ?_
  refine lv_istore_n (lv' := [(2, .int 0), (0, .ref (q 8)), (1, .int p1)]) hx hb dX1_shorten_1 rfl hl (by decide) rfl (fun ls hl => ?_)
  obtain ⟨gKeys_3, eL4, h⟩ := bnd1_some h
  have JX4 : ∀ (H : Heap) (locs : List Loc) (ls : Array Slot), GH D cI cZ layB q s ([iReadings, iAlterations, iRankings, iLetters, iCurrent, iDue, iSize, iLsize], [], [gCosts, gWorths, gMiddles, gApart, gApartWithout, gNeeded, gUps, gDowns, gKeys_3, gNexts, gShutKeys, aCodes, aPbegins, aPends, aPlengths, aBegins, aEnds, aLengths, aRanks, aRoadsByRank, aRow, aRanksBefore, aBusy, aOpen, aShut]) H locs → lv_has ls 5 [] → W p l e R s m args below meth c H locs 0 0 Q (F0 m 50 ls []) := by
    intro H locs ls hG hl
    cases h
    rw [hQ]
    exact g_vret X hT hG hr hlk dX1_shorten_50
  refine lpG_W (Wh := fun z => ∀ (H : Heap) (locs : List Loc) (ls : Array Slot), GH D cI cZ layB q s ([iReadings, iAlterations, iRankings, iLetters, iCurrent, iDue, iSize, iLsize], [], [gCosts, gWorths, gMiddles, gApart, gApartWithout, gNeeded, gUps, gDowns, z.2, gNexts, gShutKeys, aCodes, aPbegins, aPends, aPlengths, aBegins, aEnds, aLengths, aRanks, aRoadsByRank, aRow, aRanksBefore, aBusy, aOpen, aShut]) H locs → lv_has ls 5 [(0, .ref (q 8)), (1, .int p1), (2, .int (z.1))] → W p l e R s m args below meth c H locs 0 0 Q (F0 m 2 ls [])) ?_ fu _ eL4 H locs ls hG (lv_sub hl [1, 2, 0] rfl)
  intro z rr4 hb4 hin4 hout4
  obtain ⟨x2_1, gKeys_2⟩ := z
  intro H locs ls hG hl
  have hb4 : f1_shorten_b1 fu p1 x2_1 gKeys_2 = some rr4 := hb4
  have hG : GH D cI cZ layB q s ([iReadings, iAlterations, iRankings, iLetters, iCurrent, iDue, iSize, iLsize], [], [gCosts, gWorths, gMiddles, gApart, gApartWithout, gNeeded, gUps, gDowns, gKeys_2, gNexts, gShutKeys, aCodes, aPbegins, aPends, aPlengths, aBegins, aEnds, aLengths, aRanks, aRoadsByRank, aRow, aRanksBefore, aBusy, aOpen, aShut]) H locs := hG
  have hl : lv_has ls 5 [(0, .ref (q 8)), (1, .int p1), (2, .int x2_1)] := hl
  unfold f1_shorten_b1 at hb4
  refine lv_iload_n hx hb dX1_shorten_2 rfl (lv_at hl 2 rfl) ?_
  refine lv_iload_n hx hb dX1_shorten_3 rfl (lv_at hl 1 rfl) ?_
  refine lv_icmp_ge (tgt := 50) hx hb dX1_shorten_4 (by decide) (fun cb5 => ?_) (fun cb5 => ?_)
  · have hb4 := ite_t cb5 hb4
    have eo := hout4 _ (Option.some.inj hb4).symm
    cases eo
    exact JX4 H locs ls hG (lv_sub hl [] rfl)
  · have hb4 := ite_f cb5 hb4
    refine lv_iconst (v := 0) hx hb dX1_shorten_7 (by decide) ?_
    refine lv_istore_n (lv' := [(3, .int 0), (0, .ref (q 8)), (1, .int p1), (2, .int x2_1)]) hx hb dX1_shorten_8 rfl hl (by decide) rfl (fun ls hl => ?_)
    obtain ⟨gKeys_8, eL9, hb4⟩ := bnd1_some hb4
    have JX9 : ∀ (H : Heap) (locs : List Loc) (ls : Array Slot), GH D cI cZ layB q s ([iReadings, iAlterations, iRankings, iLetters, iCurrent, iDue, iSize, iLsize], [], [gCosts, gWorths, gMiddles, gApart, gApartWithout, gNeeded, gUps, gDowns, gKeys_8, gNexts, gShutKeys, aCodes, aPbegins, aPends, aPlengths, aBegins, aEnds, aLengths, aRanks, aRoadsByRank, aRow, aRanksBefore, aBusy, aOpen, aShut]) H locs → lv_has ls 5 [(0, .ref (q 8)), (1, .int p1), (2, .int x2_1)] → W p l e R s m args below meth c H locs 0 0 Q (F0 m 44 ls []) := by
      intro H locs ls hG hl
      obtain ⟨x2_19, ex2_19⟩ : ∃ z : Int32, z = x2_1 + 1 := ⟨_, rfl⟩
      have hb4 := bd_e ex2_19 hb4
      refine lv_iinc (v := x2_19) (lv' := [(2, .int x2_19), (0, .ref (q 8)), (1, .int p1)]) hx hb dX1_shorten_44 hl (k := 2) rfl (by rw [ex2_19]; rfl) (by decide) rfl (fun ls hl => ?_)
      refine lv_goto (tgt := 2) hx hb dX1_shorten_47 (by decide) ?_
      exact hin4 _ (Option.some.inj hb4).symm H locs ls hG (lv_sub hl [1, 2, 0] rfl)
    refine lpG_W (Wh := fun z => ∀ (H : Heap) (locs : List Loc) (ls : Array Slot), GH D cI cZ layB q s ([iReadings, iAlterations, iRankings, iLetters, iCurrent, iDue, iSize, iLsize], [], [gCosts, gWorths, gMiddles, gApart, gApartWithout, gNeeded, gUps, gDowns, z.2, gNexts, gShutKeys, aCodes, aPbegins, aPends, aPlengths, aBegins, aEnds, aLengths, aRanks, aRoadsByRank, aRow, aRanksBefore, aBusy, aOpen, aShut]) H locs → lv_has ls 5 [(0, .ref (q 8)), (1, .int p1), (2, .int x2_1), (3, .int (z.1))] → W p l e R s m args below meth c H locs 0 0 Q (F0 m 9 ls [])) ?_ fu _ eL9 H locs ls hG (lv_sub hl [1, 2, 3, 0] rfl)
    intro z rr9 hb9 hin9 hout9
    obtain ⟨x3_6, gKeys_7⟩ := z
    intro H locs ls hG hl
    have hb9 : f1_shorten_b2 fu p1 x2_1 x3_6 gKeys_7 = some rr9 := hb9
    have hG : GH D cI cZ layB q s ([iReadings, iAlterations, iRankings, iLetters, iCurrent, iDue, iSize, iLsize], [], [gCosts, gWorths, gMiddles, gApart, gApartWithout, gNeeded, gUps, gDowns, gKeys_7, gNexts, gShutKeys, aCodes, aPbegins, aPends, aPlengths, aBegins, aEnds, aLengths, aRanks, aRoadsByRank, aRow, aRanksBefore, aBusy, aOpen, aShut]) H locs := hG
    have hl : lv_has ls 5 [(0, .ref (q 8)), (1, .int p1), (2, .int x2_1), (3, .int x3_6)] := hl
    unfold f1_shorten_b2 at hb9
    refine lv_iload_n hx hb dX1_shorten_9 rfl (lv_at hl 3 rfl) ?_
    refine lv_iload_n hx hb dX1_shorten_10 rfl (lv_at hl 1 rfl) ?_
    refine lv_icmp_ge (tgt := 44) hx hb dX1_shorten_11 (by decide) (fun cb10 => ?_) (fun cb10 => ?_)
    · have hb9 := ite_t cb10 hb9
      have eo := hout9 _ (Option.some.inj hb9).symm
      cases eo
      exact JX9 H locs ls hG (lv_sub hl [0, 1, 2] rfl)
    · have hb9 := ite_f cb10 hb9
      refine lv_aload_n hx hb dX1_shorten_14 rfl (lv_at hl 0 rfl) ?_
      refine lv_iload_n hx hb dX1_shorten_15 rfl (lv_at hl 3 rfl) ?_
      refine lv_iload_n hx hb dX1_shorten_16 rfl (lv_at hl 2 rfl) ?_
      obtain ⟨r_11, ec12, hb9⟩ := bnd1_some hb9
      refine g_callVr [.int x3_6, .int x2_1] [] 8 X hT hG ml_X1_15 (c_X1_get_8 hq ec12) rfl rfl rfl rfl rfl hl.1 (Nat.le_of_ble_eq_true rfl) (by rw [hR]; exact ⟨Nat.le_of_ble_eq_true rfl, Nat.le_of_ble_eq_true rfl⟩) dX1_shorten_17 (fun H locs hG => ?_)
      refine lv_istore (lv' := [(4, .int r_11), (0, .ref (q 8)), (1, .int p1), (2, .int x2_1), (3, .int x3_6)]) hx hb dX1_shorten_20 hl (by decide) rfl (fun ls hl => ?_)
      refine lv_iload hx hb dX1_shorten_22 (lv_at hl 0 rfl) ?_
      refine lv_ldc (v := 268435456) hx hb X.2.2.2.1 (X.2.2.2.2 _ cn_X1_19) dX1_shorten_24 ?_
      obtain ⟨gKeys_13, er14, hb9⟩ := bnd1_some hb9
      have J14 : ∀ (H : Heap) (locs : List Loc) (ls : Array Slot), GH D cI cZ layB q s ([iReadings, iAlterations, iRankings, iLetters, iCurrent, iDue, iSize, iLsize], [], [gCosts, gWorths, gMiddles, gApart, gApartWithout, gNeeded, gUps, gDowns, gKeys_13, gNexts, gShutKeys, aCodes, aPbegins, aPends, aPlengths, aBegins, aEnds, aLengths, aRanks, aRoadsByRank, aRow, aRanksBefore, aBusy, aOpen, aShut]) H locs → lv_has ls 5 [(0, .ref (q 8)), (1, .int p1), (2, .int x2_1), (3, .int x3_6)] → W p l e R s m args below meth c H locs 0 0 Q (F0 m 38 ls []) := by
        intro H locs ls hG hl
        obtain ⟨x3_18, ex3_18⟩ : ∃ z : Int32, z = x3_6 + 1 := ⟨_, rfl⟩
        have hb9 := bd_e ex3_18 hb9
        refine lv_iinc (v := x3_18) (lv' := [(3, .int x3_18), (0, .ref (q 8)), (1, .int p1), (2, .int x2_1)]) hx hb dX1_shorten_38 hl (k := 3) rfl (by rw [ex3_18]; rfl) (by decide) rfl (fun ls hl => ?_)
        refine lv_goto (tgt := 9) hx hb dX1_shorten_41 (by decide) ?_
        exact hin9 _ (Option.some.inj hb9).symm H locs ls hG (lv_sub hl [1, 2, 3, 0] rfl)
      refine lv_icmp_ge (tgt := 38) hx hb dX1_shorten_26 (by decide) (fun cb15 => ?_) (fun cb15 => ?_)
      · have er14 := ite_t cb15 er14
        cases er14
        exact J14 H locs ls hG (lv_sub hl [1, 2, 3, 4] rfl)
      · have er14 := ite_f cb15 er14
        refine lv_aload_n hx hb dX1_shorten_29 rfl (lv_at hl 1 rfl) ?_
        refine lv_iload_n hx hb dX1_shorten_30 rfl (lv_at hl 4 rfl) ?_
        refine lv_iload_n hx hb dX1_shorten_31 rfl (lv_at hl 3 rfl) ?_
        refine lv_iload hx hb dX1_shorten_32 (lv_at hl 0 rfl) ?_
        refine lv_iload_n hx hb dX1_shorten_34 rfl (lv_at hl 2 rfl) ?_
        obtain ⟨gKeys_16, ec17, er14⟩ := bnd1_some er14
        refine g_callVv [.int x3_6, .int x2_1, .int r_11, .int p1] [] 8 X hT hG ml_X1_20 (c_X1_shortenRow_8 hq ec17) rfl rfl rfl rfl rfl hl.1 (Nat.le_of_ble_eq_true rfl) (by rw [hR]; exact ⟨Nat.le_of_ble_eq_true rfl, Nat.le_of_ble_eq_true rfl⟩) dX1_shorten_35 (fun H locs hG => ?_)
        have hG : GH D cI cZ layB q s ([iReadings, iAlterations, iRankings, iLetters, iCurrent, iDue, iSize, iLsize], [], [gCosts, gWorths, gMiddles, gApart, gApartWithout, gNeeded, gUps, gDowns, gKeys_16, gNexts, gShutKeys, aCodes, aPbegins, aPends, aPlengths, aBegins, aEnds, aLengths, aRanks, aRoadsByRank, aRow, aRanksBefore, aBusy, aOpen, aShut]) H locs := hG
        cases er14
        exact J14 H locs ls hG (lv_sub hl [1, 2, 3, 4] rfl)
def f3_fillLeastKeys_b2 (iSize : Int32) (x3_1 : Int32) (p1 : Int32) (gCosts : (Nat → Int32)) (aLengths : (Nat → Int32)) (x4_6 : Int32) (gKeys_7 : (Nat → Int32)) : Option ((Int32 × (Nat → Int32)) ⊕ ((Nat → Int32))) :=
  if iSize ≤ x4_6 then (some (.inr gKeys_7)) else bnd1 (if x3_1 = p1 then (some 0) else if x4_6 = p1 then (some 0) else some 1) fun (y_11 : Int32) => bnd1 (if y_11 = 0 then (some 268435456) else bnd1 (f3_stepKey x3_1 x4_6 gCosts aLengths) fun (r_18 : Int32) => some r_18) fun (y_15 : Int32) => bnd1 (f1_set x3_1 x4_6 gKeys_7 y_15) fun (gKeys_20 : (Nat → Int32)) => bd (x4_6 + 1) fun x4_22 => some (.inl (x4_22, gKeys_20))
def f3_fillLeastKeys_b1 (fu : Nat) (iSize : Int32) (p1 : Int32) (gCosts : (Nat → Int32)) (aLengths : (Nat → Int32)) (x3_1 : Int32) (gKeys_2 : (Nat → Int32)) : Option ((Int32 × (Nat → Int32)) ⊕ ((Nat → Int32))) :=
  if iSize ≤ x3_1 then (some (.inr gKeys_2)) else bnd1 (lpG (fun z => f3_fillLeastKeys_b2 iSize x3_1 p1 gCosts aLengths z.1 z.2) fu ((0 : Int32), gKeys_2)) fun (gKeys_8 : (Nat → Int32)) => bnd1 (f1_set x3_1 x3_1 gKeys_8 0) fun (gKeys_23 : (Nat → Int32)) => bd (x3_1 + 1) fun x3_25 => some (.inl (x3_25, gKeys_23))
def f3_fillLeastKeys (fu : Nat) (iSize : Int32) (p1 : Int32) (gCosts : (Nat → Int32)) (aLengths : (Nat → Int32)) (gKeys : (Nat → Int32)) : Option ((Nat → Int32)) :=
  bnd1 (lpG (fun z => f3_fillLeastKeys_b1 fu iSize p1 gCosts aLengths z.1 z.2) fu ((0 : Int32), gKeys)) fun (gKeys_3 : (Nat → Int32)) => bnd1 (f1_shorten fu iSize gKeys_3) fun (gKeys_26 : (Nat → Int32)) => some gKeys_26
set_option maxHeartbeats 4000000 in
set_option maxRecDepth 100000 in
theorem c_X3_fillLeastKeys_24_8 (hq : gJ layB q) {fu : Nat} {p1 : Int32} {o_gKeys : (Nat → Int32)} (h : f3_fillLeastKeys fu iSize p1 gCosts aLengths gKeys = some o_gKeys) :
    GM l yX3_fillLeastKeys cX3_fillLeastKeys 6 none 3 67 D cI cZ layB q [.ref (q 24), .ref (q 8), .int p1] ([iReadings, iAlterations, iRankings, iLetters, iCurrent, iDue, iSize, iLsize], [], [gCosts, gWorths, gMiddles, gApart, gApartWithout, gNeeded, gUps, gDowns, gKeys, gNexts, gShutKeys, aCodes, aPbegins, aPends, aPlengths, aBegins, aEnds, aLengths, aRanks, aRoadsByRank, aRow, aRanksBefore, aBusy, aOpen, aShut]) none ([iReadings, iAlterations, iRankings, iLetters, iCurrent, iDue, iSize, iLsize], [], [gCosts, gWorths, gMiddles, gApart, gApartWithout, gNeeded, gUps, gDowns, o_gKeys, gNexts, gShutKeys, aCodes, aPbegins, aPends, aPlengths, aBegins, aEnds, aLengths, aRanks, aRoadsByRank, aRow, aRanksBefore, aBusy, aOpen, aShut]) := by
  refine GM.go RX3 (by decide) rfl (Nat.le_of_ble_eq_true rfl) ?_
  intro p e s m args below meth c ls R Q H locs X hr hlk hT hG hl hR hQ
  have hx := X.1
  have hb := X.2.1
  have hl : lv_has ls 6 [(0, .ref (q 24)), (1, .ref (q 8)), (2, .int p1)] := hl
  unfold f3_fillLeastKeys at h
  refine lv_iconst (v := 0) hx hb dX3_fillLeastKeys_0 (by decide) ?_
  refine lv_istore_n (lv' := [(3, .int 0), (0, .ref (q 24)), (1, .ref (q 8)), (2, .int p1)]) hx hb dX3_fillLeastKeys_1 rfl hl (by decide) rfl (fun ls hl => ?_)
  obtain ⟨gKeys_3, eL4, h⟩ := bnd1_some h
  have JX4 : ∀ (H : Heap) (locs : List Loc) (ls : Array Slot), GH D cI cZ layB q s ([iReadings, iAlterations, iRankings, iLetters, iCurrent, iDue, iSize, iLsize], [], [gCosts, gWorths, gMiddles, gApart, gApartWithout, gNeeded, gUps, gDowns, gKeys_3, gNexts, gShutKeys, aCodes, aPbegins, aPends, aPlengths, aBegins, aEnds, aLengths, aRanks, aRoadsByRank, aRow, aRanksBefore, aBusy, aOpen, aShut]) H locs → lv_has ls 6 [(0, .ref (q 24)), (1, .ref (q 8))] → W p l e R s m args below meth c H locs 0 0 Q (F0 m 83 ls []) := by
    intro H locs ls hG hl
    refine lv_aload_n hx hb dX3_fillLeastKeys_83 rfl (lv_at hl 1 rfl) ?_
    refine lv_aload_n hx hb dX3_fillLeastKeys_84 rfl (lv_at hl 0 rfl) ?_
    refine g_get (v := .int iSize) X hT hG fl_X3_34 24 rfl rfl rfl dX3_fillLeastKeys_85 ?_
    obtain ⟨gKeys_26, ec27, h⟩ := bnd1_some h
    refine g_callVv [.int iSize] [] 8 X hT hG ml_X3_73 (c_X1_shorten_8 hq ec27) rfl rfl rfl rfl rfl hl.1 (Nat.le_of_ble_eq_true rfl) (by rw [hR]; exact ⟨Nat.le_of_ble_eq_true rfl, Nat.le_of_ble_eq_true rfl⟩) dX3_fillLeastKeys_88 (fun H locs hG => ?_)
    have hG : GH D cI cZ layB q s ([iReadings, iAlterations, iRankings, iLetters, iCurrent, iDue, iSize, iLsize], [], [gCosts, gWorths, gMiddles, gApart, gApartWithout, gNeeded, gUps, gDowns, gKeys_26, gNexts, gShutKeys, aCodes, aPbegins, aPends, aPlengths, aBegins, aEnds, aLengths, aRanks, aRoadsByRank, aRow, aRanksBefore, aBusy, aOpen, aShut]) H locs := hG
    cases h
    rw [hQ]
    exact g_vret X hT hG hr hlk dX3_fillLeastKeys_91
  refine lpG_W (Wh := fun z => ∀ (H : Heap) (locs : List Loc) (ls : Array Slot), GH D cI cZ layB q s ([iReadings, iAlterations, iRankings, iLetters, iCurrent, iDue, iSize, iLsize], [], [gCosts, gWorths, gMiddles, gApart, gApartWithout, gNeeded, gUps, gDowns, z.2, gNexts, gShutKeys, aCodes, aPbegins, aPends, aPlengths, aBegins, aEnds, aLengths, aRanks, aRoadsByRank, aRow, aRanksBefore, aBusy, aOpen, aShut]) H locs → lv_has ls 6 [(0, .ref (q 24)), (1, .ref (q 8)), (2, .int p1), (3, .int (z.1))] → W p l e R s m args below meth c H locs 0 0 Q (F0 m 2 ls [])) ?_ fu _ eL4 H locs ls hG (lv_sub hl [1, 2, 3, 0] rfl)
  intro z rr4 hb4 hin4 hout4
  obtain ⟨x3_1, gKeys_2⟩ := z
  intro H locs ls hG hl
  have hb4 : f3_fillLeastKeys_b1 fu iSize p1 gCosts aLengths x3_1 gKeys_2 = some rr4 := hb4
  have hG : GH D cI cZ layB q s ([iReadings, iAlterations, iRankings, iLetters, iCurrent, iDue, iSize, iLsize], [], [gCosts, gWorths, gMiddles, gApart, gApartWithout, gNeeded, gUps, gDowns, gKeys_2, gNexts, gShutKeys, aCodes, aPbegins, aPends, aPlengths, aBegins, aEnds, aLengths, aRanks, aRoadsByRank, aRow, aRanksBefore, aBusy, aOpen, aShut]) H locs := hG
  have hl : lv_has ls 6 [(0, .ref (q 24)), (1, .ref (q 8)), (2, .int p1), (3, .int x3_1)] := hl
  unfold f3_fillLeastKeys_b1 at hb4
  refine lv_iload_n hx hb dX3_fillLeastKeys_2 rfl (lv_at hl 3 rfl) ?_
  refine lv_aload_n hx hb dX3_fillLeastKeys_3 rfl (lv_at hl 0 rfl) ?_
  refine g_get (v := .int iSize) X hT hG fl_X3_34 24 rfl rfl rfl dX3_fillLeastKeys_4 ?_
  refine lv_icmp_ge (tgt := 83) hx hb dX3_fillLeastKeys_7 (by decide) (fun cb5 => ?_) (fun cb5 => ?_)
  · have hb4 := ite_t cb5 hb4
    have eo := hout4 _ (Option.some.inj hb4).symm
    cases eo
    exact JX4 H locs ls hG (lv_sub hl [0, 1] rfl)
  · have hb4 := ite_f cb5 hb4
    refine lv_iconst (v := 0) hx hb dX3_fillLeastKeys_10 (by decide) ?_
    refine lv_istore (lv' := [(4, .int 0), (0, .ref (q 24)), (1, .ref (q 8)), (2, .int p1), (3, .int x3_1)]) hx hb dX3_fillLeastKeys_11 hl (by decide) rfl (fun ls hl => ?_)
    obtain ⟨gKeys_8, eL9, hb4⟩ := bnd1_some hb4
    have JX9 : ∀ (H : Heap) (locs : List Loc) (ls : Array Slot), GH D cI cZ layB q s ([iReadings, iAlterations, iRankings, iLetters, iCurrent, iDue, iSize, iLsize], [], [gCosts, gWorths, gMiddles, gApart, gApartWithout, gNeeded, gUps, gDowns, gKeys_8, gNexts, gShutKeys, aCodes, aPbegins, aPends, aPlengths, aBegins, aEnds, aLengths, aRanks, aRoadsByRank, aRow, aRanksBefore, aBusy, aOpen, aShut]) H locs → lv_has ls 6 [(0, .ref (q 24)), (1, .ref (q 8)), (2, .int p1), (3, .int x3_1)] → W p l e R s m args below meth c H locs 0 0 Q (F0 m 70 ls []) := by
      intro H locs ls hG hl
      refine lv_aload_n hx hb dX3_fillLeastKeys_70 rfl (lv_at hl 1 rfl) ?_
      refine lv_iload_n hx hb dX3_fillLeastKeys_71 rfl (lv_at hl 3 rfl) ?_
      refine lv_iload_n hx hb dX3_fillLeastKeys_72 rfl (lv_at hl 3 rfl) ?_
      refine lv_iconst (v := 0) hx hb dX3_fillLeastKeys_73 (by decide) ?_
      obtain ⟨gKeys_23, ec24, hb4⟩ := bnd1_some hb4
      refine g_callVv [.int x3_1, .int x3_1, .int 0] [] 8 X hT hG ml_X3_51 (c_X1_set_8 hq ec24) rfl rfl rfl rfl rfl hl.1 (Nat.le_of_ble_eq_true rfl) (by rw [hR]; exact ⟨Nat.le_of_ble_eq_true rfl, Nat.le_of_ble_eq_true rfl⟩) dX3_fillLeastKeys_74 (fun H locs hG => ?_)
      have hG : GH D cI cZ layB q s ([iReadings, iAlterations, iRankings, iLetters, iCurrent, iDue, iSize, iLsize], [], [gCosts, gWorths, gMiddles, gApart, gApartWithout, gNeeded, gUps, gDowns, gKeys_23, gNexts, gShutKeys, aCodes, aPbegins, aPends, aPlengths, aBegins, aEnds, aLengths, aRanks, aRoadsByRank, aRow, aRanksBefore, aBusy, aOpen, aShut]) H locs := hG
      obtain ⟨x3_25, ex3_25⟩ : ∃ z : Int32, z = x3_1 + 1 := ⟨_, rfl⟩
      have hb4 := bd_e ex3_25 hb4
      refine lv_iinc (v := x3_25) (lv' := [(3, .int x3_25), (0, .ref (q 24)), (1, .ref (q 8)), (2, .int p1)]) hx hb dX3_fillLeastKeys_77 hl (k := 3) rfl (by rw [ex3_25]; rfl) (by decide) rfl (fun ls hl => ?_)
      refine lv_goto (tgt := 2) hx hb dX3_fillLeastKeys_80 (by decide) ?_
      exact hin4 _ (Option.some.inj hb4).symm H locs ls hG (lv_sub hl [1, 2, 3, 0] rfl)
    refine lpG_W (Wh := fun z => ∀ (H : Heap) (locs : List Loc) (ls : Array Slot), GH D cI cZ layB q s ([iReadings, iAlterations, iRankings, iLetters, iCurrent, iDue, iSize, iLsize], [], [gCosts, gWorths, gMiddles, gApart, gApartWithout, gNeeded, gUps, gDowns, z.2, gNexts, gShutKeys, aCodes, aPbegins, aPends, aPlengths, aBegins, aEnds, aLengths, aRanks, aRoadsByRank, aRow, aRanksBefore, aBusy, aOpen, aShut]) H locs → lv_has ls 6 [(0, .ref (q 24)), (1, .ref (q 8)), (2, .int p1), (3, .int x3_1), (4, .int (z.1))] → W p l e R s m args below meth c H locs 0 0 Q (F0 m 13 ls [])) ?_ fu _ eL9 H locs ls hG (lv_sub hl [1, 2, 3, 4, 0] rfl)
    intro z rr9 hb9 hin9 hout9
    obtain ⟨x4_6, gKeys_7⟩ := z
    intro H locs ls hG hl
    have hb9 : f3_fillLeastKeys_b2 iSize x3_1 p1 gCosts aLengths x4_6 gKeys_7 = some rr9 := hb9
    have hG : GH D cI cZ layB q s ([iReadings, iAlterations, iRankings, iLetters, iCurrent, iDue, iSize, iLsize], [], [gCosts, gWorths, gMiddles, gApart, gApartWithout, gNeeded, gUps, gDowns, gKeys_7, gNexts, gShutKeys, aCodes, aPbegins, aPends, aPlengths, aBegins, aEnds, aLengths, aRanks, aRoadsByRank, aRow, aRanksBefore, aBusy, aOpen, aShut]) H locs := hG
    have hl : lv_has ls 6 [(0, .ref (q 24)), (1, .ref (q 8)), (2, .int p1), (3, .int x3_1), (4, .int x4_6)] := hl
    unfold f3_fillLeastKeys_b2 at hb9
    refine lv_iload hx hb dX3_fillLeastKeys_13 (lv_at hl 4 rfl) ?_
    refine lv_aload_n hx hb dX3_fillLeastKeys_15 rfl (lv_at hl 0 rfl) ?_
    refine g_get (v := .int iSize) X hT hG fl_X3_34 24 rfl rfl rfl dX3_fillLeastKeys_16 ?_
    refine lv_icmp_ge (tgt := 70) hx hb dX3_fillLeastKeys_19 (by decide) (fun cb10 => ?_) (fun cb10 => ?_)
    · have hb9 := ite_t cb10 hb9
      have eo := hout9 _ (Option.some.inj hb9).symm
      cases eo
      exact JX9 H locs ls hG (lv_sub hl [0, 1, 2, 3] rfl)
    · have hb9 := ite_f cb10 hb9
      refine lv_iload_n hx hb dX3_fillLeastKeys_22 rfl (lv_at hl 3 rfl) ?_
      refine lv_iload_n hx hb dX3_fillLeastKeys_23 rfl (lv_at hl 2 rfl) ?_
      obtain ⟨y_11, er12, hb9⟩ := bnd1_some hb9
      have J12 : ∀ (H : Heap) (locs : List Loc) (ls : Array Slot), GH D cI cZ layB q s ([iReadings, iAlterations, iRankings, iLetters, iCurrent, iDue, iSize, iLsize], [], [gCosts, gWorths, gMiddles, gApart, gApartWithout, gNeeded, gUps, gDowns, gKeys_7, gNexts, gShutKeys, aCodes, aPbegins, aPends, aPlengths, aBegins, aEnds, aLengths, aRanks, aRoadsByRank, aRow, aRanksBefore, aBusy, aOpen, aShut]) H locs → lv_has ls 6 [(0, .ref (q 24)), (1, .ref (q 8)), (2, .int p1), (3, .int x3_1), (4, .int x4_6)] → W p l e R s m args below meth c H locs 0 0 Q (F0 m 38 ls [.int y_11]) := by
        intro H locs ls hG hl
        refine lv_istore (lv' := [(5, .int y_11), (0, .ref (q 24)), (1, .ref (q 8)), (2, .int p1), (3, .int x3_1), (4, .int x4_6)]) hx hb dX3_fillLeastKeys_38 hl (by decide) rfl (fun ls hl => ?_)
        refine lv_aload_n hx hb dX3_fillLeastKeys_40 rfl (lv_at hl 2 rfl) ?_
        refine lv_iload_n hx hb dX3_fillLeastKeys_41 rfl (lv_at hl 4 rfl) ?_
        refine lv_iload hx hb dX3_fillLeastKeys_42 (lv_at hl 5 rfl) ?_
        refine lv_iload hx hb dX3_fillLeastKeys_44 (lv_at hl 0 rfl) ?_
        obtain ⟨y_15, er16, hb9⟩ := bnd1_some hb9
        have J16 : ∀ (H : Heap) (locs : List Loc) (ls : Array Slot), GH D cI cZ layB q s ([iReadings, iAlterations, iRankings, iLetters, iCurrent, iDue, iSize, iLsize], [], [gCosts, gWorths, gMiddles, gApart, gApartWithout, gNeeded, gUps, gDowns, gKeys_7, gNexts, gShutKeys, aCodes, aPbegins, aPends, aPlengths, aBegins, aEnds, aLengths, aRanks, aRoadsByRank, aRow, aRanksBefore, aBusy, aOpen, aShut]) H locs → lv_has ls 6 [(0, .ref (q 24)), (1, .ref (q 8)), (2, .int p1), (3, .int x3_1), (4, .int x4_6)] → W p l e R s m args below meth c H locs 0 0 Q (F0 m 61 ls [.int y_15, .int x4_6, .int x3_1, .ref (q 8)]) := by
          intro H locs ls hG hl
          obtain ⟨gKeys_20, ec21, hb9⟩ := bnd1_some hb9
          refine g_callVv [.int x3_1, .int x4_6, .int y_15] [] 8 X hT hG ml_X3_51 (c_X1_set_8 hq ec21) rfl rfl rfl rfl rfl hl.1 (Nat.le_of_ble_eq_true rfl) (by rw [hR]; exact ⟨Nat.le_of_ble_eq_true rfl, Nat.le_of_ble_eq_true rfl⟩) dX3_fillLeastKeys_61 (fun H locs hG => ?_)
          have hG : GH D cI cZ layB q s ([iReadings, iAlterations, iRankings, iLetters, iCurrent, iDue, iSize, iLsize], [], [gCosts, gWorths, gMiddles, gApart, gApartWithout, gNeeded, gUps, gDowns, gKeys_20, gNexts, gShutKeys, aCodes, aPbegins, aPends, aPlengths, aBegins, aEnds, aLengths, aRanks, aRoadsByRank, aRow, aRanksBefore, aBusy, aOpen, aShut]) H locs := hG
          obtain ⟨x4_22, ex4_22⟩ : ∃ z : Int32, z = x4_6 + 1 := ⟨_, rfl⟩
          have hb9 := bd_e ex4_22 hb9
          refine lv_iinc (v := x4_22) (lv' := [(4, .int x4_22), (0, .ref (q 24)), (1, .ref (q 8)), (2, .int p1), (3, .int x3_1)]) hx hb dX3_fillLeastKeys_64 hl (k := 4) rfl (by rw [ex4_22]; rfl) (by decide) rfl (fun ls hl => ?_)
          refine lv_goto (tgt := 13) hx hb dX3_fillLeastKeys_67 (by decide) ?_
          exact hin9 _ (Option.some.inj hb9).symm H locs ls hG (lv_sub hl [1, 2, 3, 4, 0] rfl)
        refine lv_if_eq (tgt := 59) hx hb dX3_fillLeastKeys_46 (by decide) (fun cb17 => ?_) (fun cb17 => ?_)
        · have er16 := ite_t cb17 er16
          refine lv_ldc (v := 268435456) hx hb X.2.2.2.1 (X.2.2.2.2 _ cn_X3_62) dX3_fillLeastKeys_59 ?_
          cases er16
          exact J16 H locs ls hG (lv_sub hl [1, 2, 3, 4, 5] rfl)
        · have er16 := ite_f cb17 er16
          refine lv_aload_n hx hb dX3_fillLeastKeys_49 rfl (lv_at hl 1 rfl) ?_
          refine lv_iload_n hx hb dX3_fillLeastKeys_50 rfl (lv_at hl 4 rfl) ?_
          refine lv_iload hx hb dX3_fillLeastKeys_51 (lv_at hl 5 rfl) ?_
          obtain ⟨r_18, ec19, er16⟩ := bnd1_some er16
          refine g_callVr [.int x3_1, .int x4_6] [.int x4_6, .int x3_1, .ref (q 8)] 24 X hT hG ml_X3_70 (c_X3_stepKey hq ec19) rfl rfl rfl rfl rfl hl.1 (Nat.le_of_ble_eq_true rfl) (by rw [hR]; exact ⟨Nat.le_of_ble_eq_true rfl, Nat.le_of_ble_eq_true rfl⟩) dX3_fillLeastKeys_53 (fun H locs hG => ?_)
          refine lv_goto (tgt := 61) hx hb dX3_fillLeastKeys_56 (by decide) ?_
          cases er16
          exact J16 H locs ls hG (lv_sub hl [1, 2, 3, 4, 5] rfl)
      refine lv_icmp_eq (tgt := 37) hx hb dX3_fillLeastKeys_24 (by decide) (fun cb13 => ?_) (fun cb13 => ?_)
      · have er12 := ite_t cb13 er12
        refine lv_iconst (v := 0) hx hb dX3_fillLeastKeys_37 (by decide) ?_
        cases er12
        exact J12 H locs ls hG (lv_sub hl [0, 1, 2, 3, 4] rfl)
      · have er12 := ite_f cb13 er12
        refine lv_iload hx hb dX3_fillLeastKeys_27 (lv_at hl 4 rfl) ?_
        refine lv_iload_n hx hb dX3_fillLeastKeys_29 rfl (lv_at hl 2 rfl) ?_
        refine lv_icmp_eq (tgt := 37) hx hb dX3_fillLeastKeys_30 (by decide) (fun cb14 => ?_) (fun cb14 => ?_)
        · have er12 := ite_t cb14 er12
          refine lv_iconst (v := 0) hx hb dX3_fillLeastKeys_37 (by decide) ?_
          cases er12
          exact J12 H locs ls hG (lv_sub hl [0, 1, 2, 3, 4] rfl)
        · have er12 := ite_f cb14 er12
          refine lv_iconst (v := 1) hx hb dX3_fillLeastKeys_33 (by decide) ?_
          refine lv_goto (tgt := 38) hx hb dX3_fillLeastKeys_34 (by decide) ?_
          cases er12
          exact J12 H locs ls hG (lv_sub hl [0, 1, 2, 3, 4] rfl)
def f6_firstNext_k1 (x5_4 : Int32) : Option ((Int32) ⊕ ((Int32) ⊕ (Unit))) :=
  bd (x5_4 + 1) fun x5_10 => some (.inl x5_10)
def f6_firstNext_b1 (iSize : Int32) (p1 : Int32) (gCosts : (Nat → Int32)) (aLengths : (Nat → Int32)) (p2 : Int32) (gKeys : (Nat → Int32)) (r_1 : Int32) (x5_4 : Int32) : Option ((Int32) ⊕ ((Int32) ⊕ (Unit))) :=
  if iSize ≤ x5_4 then (some (.inr (.inr ()))) else bnd1 (f3_hasStep p1 x5_4 gCosts) fun (r_7 : Int32) => if r_7 = 0 then (f6_firstNext_k1 x5_4) else bnd1 (f3_stepKey p1 x5_4 gCosts aLengths) fun (r_12 : Int32) => bnd1 (f1_get x5_4 p2 gKeys) fun (r_14 : Int32) => if (r_12 + r_14) = r_1 then (some (.inr (.inl x5_4))) else f6_firstNext_k1 x5_4
def f6_firstNext_x1 : Option (Int32) :=
  some (-1)
def f6_firstNext (fu : Nat) (p1 : Int32) (p2 : Int32) (gKeys : (Nat → Int32)) (iSize : Int32) (gCosts : (Nat → Int32)) (aLengths : (Nat → Int32)) : Option (Int32) :=
  bnd1 (f1_get p1 p2 gKeys) fun (r_1 : Int32) => if r_1 < 268435456 then (bnd1 (lpG (fun z => f6_firstNext_b1 iSize p1 gCosts aLengths p2 gKeys r_1 z) fu (0 : Int32)) fun z => Sum.elim (fun a => some a) (fun z => f6_firstNext_x1) z) else some (-1)
set_option maxHeartbeats 4000000 in
set_option maxRecDepth 100000 in
theorem c_X6_firstNext_27_24 (hq : gJ layB q) {fu : Nat} {p1 : Int32} {p2 : Int32} {o_r : Int32} (h : f6_firstNext fu p1 p2 gKeys iSize gCosts aLengths = some o_r) :
    GM l yX6_firstNext cX6_firstNext 6 (some .int) 3 67 D cI cZ layB q [.ref (q 27), .ref (q 24), .int p1, .int p2] ([iReadings, iAlterations, iRankings, iLetters, iCurrent, iDue, iSize, iLsize], [], [gCosts, gWorths, gMiddles, gApart, gApartWithout, gNeeded, gUps, gDowns, gKeys, gNexts, gShutKeys, aCodes, aPbegins, aPends, aPlengths, aBegins, aEnds, aLengths, aRanks, aRoadsByRank, aRow, aRanksBefore, aBusy, aOpen, aShut]) (some (.int o_r)) ([iReadings, iAlterations, iRankings, iLetters, iCurrent, iDue, iSize, iLsize], [], [gCosts, gWorths, gMiddles, gApart, gApartWithout, gNeeded, gUps, gDowns, gKeys, gNexts, gShutKeys, aCodes, aPbegins, aPends, aPlengths, aBegins, aEnds, aLengths, aRanks, aRoadsByRank, aRow, aRanksBefore, aBusy, aOpen, aShut]) := by
  refine GM.go RX6 (by decide) rfl (Nat.le_of_ble_eq_true rfl) ?_
  intro p e s m args below meth c ls R Q H locs X hr hlk hT hG hl hR hQ
  have hx := X.1
  have hb := X.2.1
  have hl : lv_has ls 6 [(0, .ref (q 27)), (1, .ref (q 24)), (2, .int p1), (3, .int p2)] := hl
  unfold f6_firstNext at h
  refine lv_aload_n hx hb dX6_firstNext_0 rfl (lv_at hl 0 rfl) ?_
  refine g_get (v := .ref (q 8)) X hT hG fl_X6_12 27 rfl rfl rfl dX6_firstNext_1 ?_
  refine lv_iload_n hx hb dX6_firstNext_4 rfl (lv_at hl 2 rfl) ?_
  refine lv_iload_n hx hb dX6_firstNext_5 rfl (lv_at hl 3 rfl) ?_
  obtain ⟨r_1, ec2, h⟩ := bnd1_some h
  refine g_callVr [.int p1, .int p2] [] 8 X hT hG ml_X6_47 (c_X1_get_8 hq ec2) rfl rfl rfl rfl rfl hl.1 (Nat.le_of_ble_eq_true rfl) (by rw [hR]; exact ⟨Nat.le_of_ble_eq_true rfl, Nat.le_of_ble_eq_true rfl⟩) dX6_firstNext_6 (fun H locs hG => ?_)
  refine lv_istore (lv' := [(4, .int r_1), (0, .ref (q 27)), (1, .ref (q 24)), (2, .int p1), (3, .int p2)]) hx hb dX6_firstNext_9 hl (by decide) rfl (fun ls hl => ?_)
  refine lv_iload hx hb dX6_firstNext_11 (lv_at hl 0 rfl) ?_
  refine lv_ldc (v := 268435456) hx hb X.2.2.2.1 (X.2.2.2.2 _ cn_X6_51) dX6_firstNext_13 ?_
  refine lv_icmp_lt (tgt := 20) hx hb dX6_firstNext_15 (by decide) (fun cb3 => ?_) (fun cb3 => ?_)
  · have h := ite_t cb3 h
    refine lv_iconst (v := 0) hx hb dX6_firstNext_20 (by decide) ?_
    refine lv_istore (lv' := [(5, .int 0), (4, .int r_1), (0, .ref (q 27)), (1, .ref (q 24)), (2, .int p1), (3, .int p2)]) hx hb dX6_firstNext_21 hl (by decide) rfl (fun ls hl => ?_)
    obtain ⟨ou5, eL5, h⟩ := bnd1_some h
    have JX5 : ∀ (H : Heap) (locs : List Loc) (ls : Array Slot), GH D cI cZ layB q s ([iReadings, iAlterations, iRankings, iLetters, iCurrent, iDue, iSize, iLsize], [], [gCosts, gWorths, gMiddles, gApart, gApartWithout, gNeeded, gUps, gDowns, gKeys, gNexts, gShutKeys, aCodes, aPbegins, aPends, aPlengths, aBegins, aEnds, aLengths, aRanks, aRoadsByRank, aRow, aRanksBefore, aBusy, aOpen, aShut]) H locs → lv_has ls 6 [] → f6_firstNext_x1 = some o_r → W p l e R s m args below meth c H locs 0 0 Q (F0 m 74 ls []) := by
      intro H locs ls hG hl hk17
      unfold f6_firstNext_x1 at hk17
      refine lv_iconst (v := (-1)) hx hb dX6_firstNext_74 (by decide) ?_
      cases hk17
      rw [hQ]
      exact g_iret X hT hG hr hlk dX6_firstNext_75
    refine lpG_W (Wh := fun z => ∀ (H : Heap) (locs : List Loc) (ls : Array Slot), GH D cI cZ layB q s ([iReadings, iAlterations, iRankings, iLetters, iCurrent, iDue, iSize, iLsize], [], [gCosts, gWorths, gMiddles, gApart, gApartWithout, gNeeded, gUps, gDowns, gKeys, gNexts, gShutKeys, aCodes, aPbegins, aPends, aPlengths, aBegins, aEnds, aLengths, aRanks, aRoadsByRank, aRow, aRanksBefore, aBusy, aOpen, aShut]) H locs → lv_has ls 6 [(0, .ref (q 27)), (1, .ref (q 24)), (2, .int p1), (3, .int p2), (4, .int r_1), (5, .int z)] → W p l e R s m args below meth c H locs 0 0 Q (F0 m 23 ls [])) ?_ fu _ eL5 H locs ls hG (lv_sub hl [2, 3, 4, 5, 1, 0] rfl)
    intro x5_4 rr5 hb5 hin5 hout5 H locs ls hG hl
    unfold f6_firstNext_b1 at hb5
    refine lv_iload hx hb dX6_firstNext_23 (lv_at hl 5 rfl) ?_
    refine lv_aload_n hx hb dX6_firstNext_25 rfl (lv_at hl 1 rfl) ?_
    refine g_get (v := .int iSize) X hT hG fl_X6_31 24 rfl rfl rfl dX6_firstNext_26 ?_
    refine lv_icmp_ge (tgt := 74) hx hb dX6_firstNext_29 (by decide) (fun cb6 => ?_) (fun cb6 => ?_)
    · have hb5 := ite_t cb6 hb5
      have eo := hout5 _ (Option.some.inj hb5).symm
      subst eo
      exact JX5  H locs ls hG (lv_sub hl [] rfl) h
    · have hb5 := ite_f cb6 hb5
      refine lv_aload_n hx hb dX6_firstNext_32 rfl (lv_at hl 1 rfl) ?_
      refine lv_iload_n hx hb dX6_firstNext_33 rfl (lv_at hl 2 rfl) ?_
      refine lv_iload hx hb dX6_firstNext_34 (lv_at hl 5 rfl) ?_
      obtain ⟨r_7, ec8, hb5⟩ := bnd1_some hb5
      refine g_callVr [.int p1, .int x5_4] [] 24 X hT hG ml_X6_52 (c_X3_hasStep hq ec8) rfl rfl rfl rfl rfl hl.1 (Nat.le_of_ble_eq_true rfl) (by rw [hR]; exact ⟨Nat.le_of_ble_eq_true rfl, Nat.le_of_ble_eq_true rfl⟩) dX6_firstNext_36 (fun H locs hG => ?_)
      have K9 : ∀ (H : Heap) (locs : List Loc) (ls : Array Slot), GH D cI cZ layB q s ([iReadings, iAlterations, iRankings, iLetters, iCurrent, iDue, iSize, iLsize], [], [gCosts, gWorths, gMiddles, gApart, gApartWithout, gNeeded, gUps, gDowns, gKeys, gNexts, gShutKeys, aCodes, aPbegins, aPends, aPlengths, aBegins, aEnds, aLengths, aRanks, aRoadsByRank, aRow, aRanksBefore, aBusy, aOpen, aShut]) H locs → lv_has ls 6 [(0, .ref (q 27)), (1, .ref (q 24)), (2, .int p1), (3, .int p2), (4, .int r_1), (5, .int x5_4)] → f6_firstNext_k1 x5_4 = some rr5 → W p l e R s m args below meth c H locs 0 0 Q (F0 m 68 ls []) := by
        intro H locs ls hG hl hk9
        unfold f6_firstNext_k1 at hk9
        obtain ⟨x5_10, ex5_10⟩ : ∃ z : Int32, z = x5_4 + 1 := ⟨_, rfl⟩
        have hk9 := bd_e ex5_10 hk9
        refine lv_iinc (v := x5_10) (lv' := [(5, .int x5_10), (0, .ref (q 27)), (1, .ref (q 24)), (2, .int p1), (3, .int p2), (4, .int r_1)]) hx hb dX6_firstNext_68 hl (k := 5) rfl (by rw [ex5_10]; rfl) (by decide) rfl (fun ls hl => ?_)
        refine lv_goto (tgt := 23) hx hb dX6_firstNext_71 (by decide) ?_
        exact hin5 _ (Option.some.inj hk9).symm H locs ls hG (lv_sub hl [1, 2, 3, 4, 5, 0] rfl)
      refine lv_if_eq (tgt := 68) hx hb dX6_firstNext_39 (by decide) (fun cb11 => ?_) (fun cb11 => ?_)
      · have hb5 := ite_t cb11 hb5
        exact K9 H locs ls hG (lv_sub hl [0, 1, 2, 3, 4, 5] rfl) hb5
      · have hb5 := ite_f cb11 hb5
        refine lv_aload_n hx hb dX6_firstNext_42 rfl (lv_at hl 1 rfl) ?_
        refine lv_iload_n hx hb dX6_firstNext_43 rfl (lv_at hl 2 rfl) ?_
        refine lv_iload hx hb dX6_firstNext_44 (lv_at hl 5 rfl) ?_
        obtain ⟨r_12, ec13, hb5⟩ := bnd1_some hb5
        refine g_callVr [.int p1, .int x5_4] [] 24 X hT hG ml_X6_56 (c_X3_stepKey hq ec13) rfl rfl rfl rfl rfl hl.1 (Nat.le_of_ble_eq_true rfl) (by rw [hR]; exact ⟨Nat.le_of_ble_eq_true rfl, Nat.le_of_ble_eq_true rfl⟩) dX6_firstNext_46 (fun H locs hG => ?_)
        refine lv_aload_n hx hb dX6_firstNext_49 rfl (lv_at hl 0 rfl) ?_
        refine g_get (v := .ref (q 8)) X hT hG fl_X6_12 27 rfl rfl rfl dX6_firstNext_50 ?_
        refine lv_iload hx hb dX6_firstNext_53 (lv_at hl 5 rfl) ?_
        refine lv_iload_n hx hb dX6_firstNext_55 rfl (lv_at hl 3 rfl) ?_
        obtain ⟨r_14, ec15, hb5⟩ := bnd1_some hb5
        refine g_callVr [.int x5_4, .int p2] [.int r_12] 8 X hT hG ml_X6_47 (c_X1_get_8 hq ec15) rfl rfl rfl rfl rfl hl.1 (Nat.le_of_ble_eq_true rfl) (by rw [hR]; exact ⟨Nat.le_of_ble_eq_true rfl, Nat.le_of_ble_eq_true rfl⟩) dX6_firstNext_56 (fun H locs hG => ?_)
        refine lv_iadd hx hb dX6_firstNext_59 ?_
        refine lv_iload hx hb dX6_firstNext_60 (lv_at hl 4 rfl) ?_
        refine lv_icmp_ne (tgt := 68) hx hb dX6_firstNext_62 (by decide) (fun cb16 => ?_) (fun cb16 => ?_)
        · have hb5 := ite_f cb16 hb5
          exact K9 H locs ls hG (lv_sub hl [0, 1, 2, 3, 4, 5] rfl) hb5
        · have hb5 := ite_t cb16 hb5
          refine lv_iload hx hb dX6_firstNext_65 (lv_at hl 5 rfl) ?_
          have eo := hout5 _ (Option.some.inj hb5).symm
          subst eo
          cases h
          rw [hQ]
          exact g_iret X hT hG hr hlk dX6_firstNext_67
  · have h := ite_f cb3 h
    refine lv_iconst (v := (-1)) hx hb dX6_firstNext_18 (by decide) ?_
    cases h
    rw [hQ]
    exact g_iret X hT hG hr hlk dX6_firstNext_19
set_option maxHeartbeats 4000000 in
set_option maxRecDepth 100000 in
theorem c_X1_set_9 (hq : gJ layB q) {p1 : Int32} {p2 : Int32} {p3 : Int32} {o_gNexts : (Nat → Int32)} (h : f1_set p1 p2 gNexts p3 = some o_gNexts) :
    GM l yX1_set cX1_set 4 none 0 0 D cI cZ layB q [.ref (q 9), .int p1, .int p2, .int p3] ([iReadings, iAlterations, iRankings, iLetters, iCurrent, iDue, iSize, iLsize], [], [gCosts, gWorths, gMiddles, gApart, gApartWithout, gNeeded, gUps, gDowns, gKeys, gNexts, gShutKeys, aCodes, aPbegins, aPends, aPlengths, aBegins, aEnds, aLengths, aRanks, aRoadsByRank, aRow, aRanksBefore, aBusy, aOpen, aShut]) none ([iReadings, iAlterations, iRankings, iLetters, iCurrent, iDue, iSize, iLsize], [], [gCosts, gWorths, gMiddles, gApart, gApartWithout, gNeeded, gUps, gDowns, gKeys, o_gNexts, gShutKeys, aCodes, aPbegins, aPends, aPlengths, aBegins, aEnds, aLengths, aRanks, aRoadsByRank, aRow, aRanksBefore, aBusy, aOpen, aShut]) := by
  refine GM.go RX1 (by decide) rfl (Nat.le_of_ble_eq_true rfl) ?_
  intro p e s m args below meth c ls R Q H locs X hr hlk hT hG hl hR hQ
  have hx := X.1
  have hb := X.2.1
  have hl : lv_has ls 4 [(0, .ref (q 9)), (1, .int p1), (2, .int p2), (3, .int p3)] := hl
  unfold f1_set at h
  refine lv_aload_n hx hb dX1_set_0 rfl (lv_at hl 0 rfl) ?_
  refine g_get (v := .ref (q 20)) X hT hG fl_X1_9 9 rfl rfl rfl dX1_set_1 ?_
  refine lv_iload_n hx hb dX1_set_4 rfl (lv_at hl 1 rfl) ?_
  refine lv_bipush (v := 12) hx hb dX1_set_5 (by decide) ?_
  refine lv_imul hx hb dX1_set_7 ?_
  refine lv_iload_n hx hb dX1_set_8 rfl (lv_at hl 2 rfl) ?_
  refine lv_iadd hx hb dX1_set_9 ?_
  refine lv_iload_n hx hb dX1_set_10 rfl (lv_at hl 3 rfl) ?_
  obtain ⟨hi1, h⟩ := ckin_some h
  obtain ⟨gNexts_2, egNexts_2⟩ : ∃ z : Nat → Int32, z = upd gNexts ((p1 * 12) + p2).toNatClampNeg p3 := ⟨_, rfl⟩
  have h := bd_e egNexts_2 h
  refine g_ast (w' := ([iReadings, iAlterations, iRankings, iLetters, iCurrent, iDue, iSize, iLsize], [], [gCosts, gWorths, gMiddles, gApart, gApartWithout, gNeeded, gUps, gDowns, gKeys, gNexts_2, gShutKeys, aCodes, aPbegins, aPends, aPlengths, aBegins, aEnds, aLengths, aRanks, aRoadsByRank, aRow, aRanksBefore, aBusy, aOpen, aShut])) X hT hq hG 20 rfl ga_B_gNexts (Nat.le_of_ble_eq_true rfl) hi1 (by subst egNexts_2; rfl) dX1_set_11 (fun H locs hG => ?_)
  cases h
  rw [hQ]
  exact g_vret X hT hG hr hlk dX1_set_12
def fJ7_fill_12_b1 (p1 : Int32) (x2_1 : Int32) (aBusy_2 : (Nat → Int32)) : Option ((Int32 × (Nat → Int32)) ⊕ ((Nat → Int32))) :=
  if 12 ≤ x2_1 then (some (.inr aBusy_2)) else ckin x2_1 12 (bd (upd aBusy_2 x2_1.toNatClampNeg p1) fun aBusy_7 => bd (x2_1 + 1) fun x2_8 => some (.inl (x2_8, aBusy_7)))
def fJ7_fill_12 (fu : Nat) (p1 : Int32) (aBusy : (Nat → Int32)) : Option ((Nat → Int32)) :=
  bnd1 (lpG (fun z => fJ7_fill_12_b1 p1 z.1 z.2) fu ((0 : Int32), aBusy)) fun (aBusy_3 : (Nat → Int32)) => some aBusy_3
set_option maxHeartbeats 4000000 in
set_option maxRecDepth 100000 in
theorem c_J7_fill_53178_40 (hq : gJ layB q) {fu : Nat} {p1 : Int32} {o_aBusy : (Nat → Int32)} (h : fJ7_fill_12 fu p1 aBusy = some o_aBusy) :
    GM l yJ7_fill_53178 cJ7_fill_53178 4 none 0 0 D cI cZ layB q [.ref (q 40), .int p1] ([iReadings, iAlterations, iRankings, iLetters, iCurrent, iDue, iSize, iLsize], [], [gCosts, gWorths, gMiddles, gApart, gApartWithout, gNeeded, gUps, gDowns, gKeys, gNexts, gShutKeys, aCodes, aPbegins, aPends, aPlengths, aBegins, aEnds, aLengths, aRanks, aRoadsByRank, aRow, aRanksBefore, aBusy, aOpen, aShut]) none ([iReadings, iAlterations, iRankings, iLetters, iCurrent, iDue, iSize, iLsize], [], [gCosts, gWorths, gMiddles, gApart, gApartWithout, gNeeded, gUps, gDowns, gKeys, gNexts, gShutKeys, aCodes, aPbegins, aPends, aPlengths, aBegins, aEnds, aLengths, aRanks, aRoadsByRank, aRow, aRanksBefore, o_aBusy, aOpen, aShut]) := by
  refine GM.go RJ7 (by decide) rfl (Nat.le_of_ble_eq_true rfl) ?_
  intro p e s m args below meth c ls R Q H locs X hr hlk hT hG hl hR hQ
  have hx := X.1
  have hb := X.2.1
  have hl : lv_has ls 4 [(0, .ref (q 40)), (1, .int p1)] := hl
  unfold fJ7_fill_12 at h
  refine lv_iconst (v := 0) hx hb dJ7_fill_53178_0 (by decide) ?_
  refine lv_istore_n (lv' := [(2, .int 0), (0, .ref (q 40)), (1, .int p1)]) hx hb dJ7_fill_53178_1 rfl hl (by decide) rfl (fun ls hl => ?_)
  refine lv_aload_n hx hb dJ7_fill_53178_2 rfl (lv_at hl 1 rfl) ?_
  refine g_alen (v := 12) X hT hG 40 rfl (by decide) dJ7_fill_53178_3 ?_
  refine lv_istore_n (lv' := [(3, .int 12), (2, .int 0), (0, .ref (q 40)), (1, .int p1)]) hx hb dJ7_fill_53178_4 rfl hl (by decide) rfl (fun ls hl => ?_)
  obtain ⟨aBusy_3, eL4, h⟩ := bnd1_some h
  have JX4 : ∀ (H : Heap) (locs : List Loc) (ls : Array Slot), GH D cI cZ layB q s ([iReadings, iAlterations, iRankings, iLetters, iCurrent, iDue, iSize, iLsize], [], [gCosts, gWorths, gMiddles, gApart, gApartWithout, gNeeded, gUps, gDowns, gKeys, gNexts, gShutKeys, aCodes, aPbegins, aPends, aPlengths, aBegins, aEnds, aLengths, aRanks, aRoadsByRank, aRow, aRanksBefore, aBusy_3, aOpen, aShut]) H locs → lv_has ls 4 [] → W p l e R s m args below meth c H locs 0 0 Q (F0 m 20 ls []) := by
    intro H locs ls hG hl
    cases h
    rw [hQ]
    exact g_vret X hT hG hr hlk dJ7_fill_53178_20
  refine lpG_W (Wh := fun z => ∀ (H : Heap) (locs : List Loc) (ls : Array Slot), GH D cI cZ layB q s ([iReadings, iAlterations, iRankings, iLetters, iCurrent, iDue, iSize, iLsize], [], [gCosts, gWorths, gMiddles, gApart, gApartWithout, gNeeded, gUps, gDowns, gKeys, gNexts, gShutKeys, aCodes, aPbegins, aPends, aPlengths, aBegins, aEnds, aLengths, aRanks, aRoadsByRank, aRow, aRanksBefore, z.2, aOpen, aShut]) H locs → lv_has ls 4 [(0, .ref (q 40)), (1, .int p1), (2, .int (z.1)), (3, .int 12)] → W p l e R s m args below meth c H locs 0 0 Q (F0 m 5 ls [])) ?_ fu _ eL4 H locs ls hG (lv_sub hl [2, 3, 1, 0] rfl)
  intro z rr4 hb4 hin4 hout4
  obtain ⟨x2_1, aBusy_2⟩ := z
  intro H locs ls hG hl
  have hb4 : fJ7_fill_12_b1 p1 x2_1 aBusy_2 = some rr4 := hb4
  have hG : GH D cI cZ layB q s ([iReadings, iAlterations, iRankings, iLetters, iCurrent, iDue, iSize, iLsize], [], [gCosts, gWorths, gMiddles, gApart, gApartWithout, gNeeded, gUps, gDowns, gKeys, gNexts, gShutKeys, aCodes, aPbegins, aPends, aPlengths, aBegins, aEnds, aLengths, aRanks, aRoadsByRank, aRow, aRanksBefore, aBusy_2, aOpen, aShut]) H locs := hG
  have hl : lv_has ls 4 [(0, .ref (q 40)), (1, .int p1), (2, .int x2_1), (3, .int 12)] := hl
  unfold fJ7_fill_12_b1 at hb4
  refine lv_iload_n hx hb dJ7_fill_53178_5 rfl (lv_at hl 2 rfl) ?_
  refine lv_iload_n hx hb dJ7_fill_53178_6 rfl (lv_at hl 3 rfl) ?_
  refine lv_icmp_ge (tgt := 20) hx hb dJ7_fill_53178_7 (by decide) (fun cb5 => ?_) (fun cb5 => ?_)
  · have hb4 := ite_t cb5 hb4
    have eo := hout4 _ (Option.some.inj hb4).symm
    cases eo
    exact JX4 H locs ls hG (lv_sub hl [] rfl)
  · have hb4 := ite_f cb5 hb4
    refine lv_aload_n hx hb dJ7_fill_53178_10 rfl (lv_at hl 0 rfl) ?_
    refine lv_iload_n hx hb dJ7_fill_53178_11 rfl (lv_at hl 2 rfl) ?_
    refine lv_iload_n hx hb dJ7_fill_53178_12 rfl (lv_at hl 1 rfl) ?_
    obtain ⟨hi6, hb4⟩ := ckin_some hb4
    obtain ⟨aBusy_7, eaBusy_7⟩ : ∃ z : Nat → Int32, z = upd aBusy_2 x2_1.toNatClampNeg p1 := ⟨_, rfl⟩
    have hb4 := bd_e eaBusy_7 hb4
    refine g_ast (w' := ([iReadings, iAlterations, iRankings, iLetters, iCurrent, iDue, iSize, iLsize], [], [gCosts, gWorths, gMiddles, gApart, gApartWithout, gNeeded, gUps, gDowns, gKeys, gNexts, gShutKeys, aCodes, aPbegins, aPends, aPlengths, aBegins, aEnds, aLengths, aRanks, aRoadsByRank, aRow, aRanksBefore, aBusy_7, aOpen, aShut])) X hT hq hG 40 rfl ga_B_aBusy (Nat.le_of_ble_eq_true rfl) hi6 (by subst eaBusy_7; rfl) dJ7_fill_53178_13 (fun H locs hG => ?_)
    obtain ⟨x2_8, ex2_8⟩ : ∃ z : Int32, z = x2_1 + 1 := ⟨_, rfl⟩
    have hb4 := bd_e ex2_8 hb4
    refine lv_iinc (v := x2_8) (lv' := [(2, .int x2_8), (0, .ref (q 40)), (1, .int p1), (3, .int 12)]) hx hb dJ7_fill_53178_14 hl (k := 2) rfl (by rw [ex2_8]; rfl) (by decide) rfl (fun ls hl => ?_)
    refine lv_goto (tgt := 5) hx hb dJ7_fill_53178_17 (by decide) ?_
    exact hin4 _ (Option.some.inj hb4).symm H locs ls hG (lv_sub hl [1, 2, 0, 3] rfl)
set_option maxHeartbeats 4000000 in
set_option maxRecDepth 100000 in
theorem c_X1_get_9 (hq : gJ layB q) {p1 : Int32} {p2 : Int32} {o_r : Int32} (h : f1_get p1 p2 gNexts = some o_r) :
    GM l yX1_get cX1_get 3 (some .int) 0 0 D cI cZ layB q [.ref (q 9), .int p1, .int p2] ([iReadings, iAlterations, iRankings, iLetters, iCurrent, iDue, iSize, iLsize], [], [gCosts, gWorths, gMiddles, gApart, gApartWithout, gNeeded, gUps, gDowns, gKeys, gNexts, gShutKeys, aCodes, aPbegins, aPends, aPlengths, aBegins, aEnds, aLengths, aRanks, aRoadsByRank, aRow, aRanksBefore, aBusy, aOpen, aShut]) (some (.int o_r)) ([iReadings, iAlterations, iRankings, iLetters, iCurrent, iDue, iSize, iLsize], [], [gCosts, gWorths, gMiddles, gApart, gApartWithout, gNeeded, gUps, gDowns, gKeys, gNexts, gShutKeys, aCodes, aPbegins, aPends, aPlengths, aBegins, aEnds, aLengths, aRanks, aRoadsByRank, aRow, aRanksBefore, aBusy, aOpen, aShut]) := by
  refine GM.go RX1 (by decide) rfl (Nat.le_of_ble_eq_true rfl) ?_
  intro p e s m args below meth c ls R Q H locs X hr hlk hT hG hl hR hQ
  have hx := X.1
  have hb := X.2.1
  have hl : lv_has ls 3 [(0, .ref (q 9)), (1, .int p1), (2, .int p2)] := hl
  unfold f1_get at h
  refine lv_aload_n hx hb dX1_get_0 rfl (lv_at hl 0 rfl) ?_
  refine g_get (v := .ref (q 20)) X hT hG fl_X1_9 9 rfl rfl rfl dX1_get_1 ?_
  refine lv_iload_n hx hb dX1_get_4 rfl (lv_at hl 1 rfl) ?_
  refine lv_bipush (v := 12) hx hb dX1_get_5 (by decide) ?_
  refine lv_imul hx hb dX1_get_7 ?_
  refine lv_iload_n hx hb dX1_get_8 rfl (lv_at hl 2 rfl) ?_
  refine lv_iadd hx hb dX1_get_9 ?_
  obtain ⟨hi1, h⟩ := ckin_some h
  refine g_ald (f := gNexts) X hT hG 20 rfl rfl hi1 dX1_get_10 ?_
  cases h
  rw [hQ]
  exact g_iret X hT hG hr hlk dX1_get_11
def f6_countBusyBetween_b1 (p2 : Int32) (gNexts : (Nat → Int32)) (x3_3 : Int32) (x4_4 : Int32) (aBusy_5 : (Nat → Int32)) : Option ((Int32 × Int32 × (Nat → Int32)) ⊕ ((Nat → Int32))) :=
  if 12 ≤ x4_4 then (some (.inr aBusy_5)) else if x3_3 = (-1) then (some (.inr aBusy_5)) else if x3_3 = p2 then (some (.inr aBusy_5)) else ckin x3_3 12 (ckin x3_3 12 (bd (upd aBusy_5 x3_3.toNatClampNeg ((aBusy_5 x3_3.toNatClampNeg) + 1)) fun aBusy_13 => bnd1 (f1_get x3_3 p2 gNexts) fun (r_14 : Int32) => bd (x4_4 + 1) fun x4_16 => some (.inl (r_14, x4_16, aBusy_13))))
def f6_countBusyBetween (fu : Nat) (p1 : Int32) (p2 : Int32) (gNexts : (Nat → Int32)) (aBusy : (Nat → Int32)) : Option ((Nat → Int32)) :=
  bnd1 (f1_get p1 p2 gNexts) fun (r_1 : Int32) => bnd1 (lpG (fun z => f6_countBusyBetween_b1 p2 gNexts z.1 z.2.1 z.2.2) fu (r_1, (0 : Int32), aBusy)) fun (aBusy_6 : (Nat → Int32)) => some aBusy_6
set_option maxHeartbeats 4000000 in
set_option maxRecDepth 100000 in
theorem c_X6_countBusyBetween (hq : gJ layB q) {fu : Nat} {p1 : Int32} {p2 : Int32} {o_aBusy : (Nat → Int32)} (h : f6_countBusyBetween fu p1 p2 gNexts aBusy = some o_aBusy) :
    GM l yX6_countBusyBetween cX6_countBusyBetween 5 none 1 22 D cI cZ layB q [.ref (q 27), .int p1, .int p2] ([iReadings, iAlterations, iRankings, iLetters, iCurrent, iDue, iSize, iLsize], [], [gCosts, gWorths, gMiddles, gApart, gApartWithout, gNeeded, gUps, gDowns, gKeys, gNexts, gShutKeys, aCodes, aPbegins, aPends, aPlengths, aBegins, aEnds, aLengths, aRanks, aRoadsByRank, aRow, aRanksBefore, aBusy, aOpen, aShut]) none ([iReadings, iAlterations, iRankings, iLetters, iCurrent, iDue, iSize, iLsize], [], [gCosts, gWorths, gMiddles, gApart, gApartWithout, gNeeded, gUps, gDowns, gKeys, gNexts, gShutKeys, aCodes, aPbegins, aPends, aPlengths, aBegins, aEnds, aLengths, aRanks, aRoadsByRank, aRow, aRanksBefore, o_aBusy, aOpen, aShut]) := by
  refine GM.go RX6 (by decide) rfl (Nat.le_of_ble_eq_true rfl) ?_
  intro p e s m args below meth c ls R Q H locs X hr hlk hT hG hl hR hQ
  have hx := X.1
  have hb := X.2.1
  have hl : lv_has ls 5 [(0, .ref (q 27)), (1, .int p1), (2, .int p2)] := hl
  unfold f6_countBusyBetween at h
  refine lv_aload_n hx hb dX6_countBusyBetween_0 rfl (lv_at hl 0 rfl) ?_
  refine g_get (v := .ref (q 9)) X hT hG fl_X6_18 27 rfl rfl rfl dX6_countBusyBetween_1 ?_
  refine lv_iload_n hx hb dX6_countBusyBetween_4 rfl (lv_at hl 1 rfl) ?_
  refine lv_iload_n hx hb dX6_countBusyBetween_5 rfl (lv_at hl 2 rfl) ?_
  obtain ⟨r_1, ec2, h⟩ := bnd1_some h
  refine g_callVr [.int p1, .int p2] [] 9 X hT hG ml_X6_47 (c_X1_get_9 hq ec2) rfl rfl rfl rfl rfl hl.1 (Nat.le_of_ble_eq_true rfl) (by rw [hR]; exact ⟨Nat.le_of_ble_eq_true rfl, Nat.le_of_ble_eq_true rfl⟩) dX6_countBusyBetween_6 (fun H locs hG => ?_)
  refine lv_istore_n (lv' := [(3, .int r_1), (0, .ref (q 27)), (1, .int p1), (2, .int p2)]) hx hb dX6_countBusyBetween_9 rfl hl (by decide) rfl (fun ls hl => ?_)
  refine lv_iconst (v := 0) hx hb dX6_countBusyBetween_10 (by decide) ?_
  refine lv_istore (lv' := [(4, .int 0), (3, .int r_1), (0, .ref (q 27)), (1, .int p1), (2, .int p2)]) hx hb dX6_countBusyBetween_11 hl (by decide) rfl (fun ls hl => ?_)
  obtain ⟨aBusy_6, eL7, h⟩ := bnd1_some h
  have JX7 : ∀ (H : Heap) (locs : List Loc) (ls : Array Slot), GH D cI cZ layB q s ([iReadings, iAlterations, iRankings, iLetters, iCurrent, iDue, iSize, iLsize], [], [gCosts, gWorths, gMiddles, gApart, gApartWithout, gNeeded, gUps, gDowns, gKeys, gNexts, gShutKeys, aCodes, aPbegins, aPends, aPlengths, aBegins, aEnds, aLengths, aRanks, aRoadsByRank, aRow, aRanksBefore, aBusy_6, aOpen, aShut]) H locs → lv_has ls 5 [] → W p l e R s m args below meth c H locs 0 0 Q (F0 m 56 ls []) := by
    intro H locs ls hG hl
    cases h
    rw [hQ]
    exact g_vret X hT hG hr hlk dX6_countBusyBetween_56
  refine lpG_W (Wh := fun z => ∀ (H : Heap) (locs : List Loc) (ls : Array Slot), GH D cI cZ layB q s ([iReadings, iAlterations, iRankings, iLetters, iCurrent, iDue, iSize, iLsize], [], [gCosts, gWorths, gMiddles, gApart, gApartWithout, gNeeded, gUps, gDowns, gKeys, gNexts, gShutKeys, aCodes, aPbegins, aPends, aPlengths, aBegins, aEnds, aLengths, aRanks, aRoadsByRank, aRow, aRanksBefore, z.2.2, aOpen, aShut]) H locs → lv_has ls 5 [(0, .ref (q 27)), (2, .int p2), (3, .int (z.1)), (4, .int (z.2.1))] → W p l e R s m args below meth c H locs 0 0 Q (F0 m 13 ls [])) ?_ fu _ eL7 H locs ls hG (lv_sub hl [2, 4, 1, 0] rfl)
  intro z rr7 hb7 hin7 hout7
  obtain ⟨x3_3, x4_4, aBusy_5⟩ := z
  intro H locs ls hG hl
  have hb7 : f6_countBusyBetween_b1 p2 gNexts x3_3 x4_4 aBusy_5 = some rr7 := hb7
  have hG : GH D cI cZ layB q s ([iReadings, iAlterations, iRankings, iLetters, iCurrent, iDue, iSize, iLsize], [], [gCosts, gWorths, gMiddles, gApart, gApartWithout, gNeeded, gUps, gDowns, gKeys, gNexts, gShutKeys, aCodes, aPbegins, aPends, aPlengths, aBegins, aEnds, aLengths, aRanks, aRoadsByRank, aRow, aRanksBefore, aBusy_5, aOpen, aShut]) H locs := hG
  have hl : lv_has ls 5 [(0, .ref (q 27)), (2, .int p2), (3, .int x3_3), (4, .int x4_4)] := hl
  unfold f6_countBusyBetween_b1 at hb7
  refine lv_iload hx hb dX6_countBusyBetween_13 (lv_at hl 3 rfl) ?_
  refine lv_bipush (v := 12) hx hb dX6_countBusyBetween_15 (by decide) ?_
  refine lv_icmp_ge (tgt := 56) hx hb dX6_countBusyBetween_17 (by decide) (fun cb8 => ?_) (fun cb8 => ?_)
  · have hb7 := ite_t cb8 hb7
    have eo := hout7 _ (Option.some.inj hb7).symm
    cases eo
    exact JX7 H locs ls hG (lv_sub hl [] rfl)
  · have hb7 := ite_f cb8 hb7
    refine lv_iload_n hx hb dX6_countBusyBetween_20 rfl (lv_at hl 2 rfl) ?_
    refine lv_iconst (v := (-1)) hx hb dX6_countBusyBetween_21 (by decide) ?_
    refine lv_icmp_eq (tgt := 56) hx hb dX6_countBusyBetween_22 (by decide) (fun cb9 => ?_) (fun cb9 => ?_)
    · have hb7 := ite_t cb9 hb7
      have eo := hout7 _ (Option.some.inj hb7).symm
      cases eo
      exact JX7 H locs ls hG (lv_sub hl [] rfl)
    · have hb7 := ite_f cb9 hb7
      refine lv_iload_n hx hb dX6_countBusyBetween_25 rfl (lv_at hl 2 rfl) ?_
      refine lv_iload_n hx hb dX6_countBusyBetween_26 rfl (lv_at hl 1 rfl) ?_
      refine lv_icmp_eq (tgt := 56) hx hb dX6_countBusyBetween_27 (by decide) (fun cb10 => ?_) (fun cb10 => ?_)
      · have hb7 := ite_t cb10 hb7
        have eo := hout7 _ (Option.some.inj hb7).symm
        cases eo
        exact JX7 H locs ls hG (lv_sub hl [] rfl)
      · have hb7 := ite_f cb10 hb7
        refine lv_aload_n hx hb dX6_countBusyBetween_30 rfl (lv_at hl 0 rfl) ?_
        refine g_get (v := .ref (q 40)) X hT hG fl_X6_21 27 rfl rfl rfl dX6_countBusyBetween_31 ?_
        refine lv_iload_n hx hb dX6_countBusyBetween_34 rfl (lv_at hl 2 rfl) ?_
        refine lv_dup2_11 hx hb dX6_countBusyBetween_35 rfl rfl ?_
        obtain ⟨hi11, hb7⟩ := ckin_some hb7
        refine g_ald (f := aBusy_5) X hT hG 40 rfl rfl hi11 dX6_countBusyBetween_36 ?_
        refine lv_iconst (v := 1) hx hb dX6_countBusyBetween_37 (by decide) ?_
        refine lv_iadd hx hb dX6_countBusyBetween_38 ?_
        obtain ⟨hi12, hb7⟩ := ckin_some hb7
        obtain ⟨aBusy_13, eaBusy_13⟩ : ∃ z : Nat → Int32, z = upd aBusy_5 x3_3.toNatClampNeg ((aBusy_5 x3_3.toNatClampNeg) + 1) := ⟨_, rfl⟩
        have hb7 := bd_e eaBusy_13 hb7
        refine g_ast (w' := ([iReadings, iAlterations, iRankings, iLetters, iCurrent, iDue, iSize, iLsize], [], [gCosts, gWorths, gMiddles, gApart, gApartWithout, gNeeded, gUps, gDowns, gKeys, gNexts, gShutKeys, aCodes, aPbegins, aPends, aPlengths, aBegins, aEnds, aLengths, aRanks, aRoadsByRank, aRow, aRanksBefore, aBusy_13, aOpen, aShut])) X hT hq hG 40 rfl ga_B_aBusy (Nat.le_of_ble_eq_true rfl) hi12 (by subst eaBusy_13; rfl) dX6_countBusyBetween_39 (fun H locs hG => ?_)
        refine lv_aload_n hx hb dX6_countBusyBetween_40 rfl (lv_at hl 0 rfl) ?_
        refine g_get (v := .ref (q 9)) X hT hG fl_X6_18 27 rfl rfl rfl dX6_countBusyBetween_41 ?_
        refine lv_iload_n hx hb dX6_countBusyBetween_44 rfl (lv_at hl 2 rfl) ?_
        refine lv_iload_n hx hb dX6_countBusyBetween_45 rfl (lv_at hl 1 rfl) ?_
        obtain ⟨r_14, ec15, hb7⟩ := bnd1_some hb7
        refine g_callVr [.int x3_3, .int p2] [] 9 X hT hG ml_X6_47 (c_X1_get_9 hq ec15) rfl rfl rfl rfl rfl hl.1 (Nat.le_of_ble_eq_true rfl) (by rw [hR]; exact ⟨Nat.le_of_ble_eq_true rfl, Nat.le_of_ble_eq_true rfl⟩) dX6_countBusyBetween_46 (fun H locs hG => ?_)
        refine lv_istore_n (lv' := [(3, .int r_14), (0, .ref (q 27)), (2, .int p2), (4, .int x4_4)]) hx hb dX6_countBusyBetween_49 rfl hl (by decide) rfl (fun ls hl => ?_)
        obtain ⟨x4_16, ex4_16⟩ : ∃ z : Int32, z = x4_4 + 1 := ⟨_, rfl⟩
        have hb7 := bd_e ex4_16 hb7
        refine lv_iinc (v := x4_16) (lv' := [(4, .int x4_16), (3, .int r_14), (0, .ref (q 27)), (2, .int p2)]) hx hb dX6_countBusyBetween_50 hl (k := 3) rfl (by rw [ex4_16]; rfl) (by decide) rfl (fun ls hl => ?_)
        refine lv_goto (tgt := 13) hx hb dX6_countBusyBetween_53 (by decide) ?_
        exact hin7 _ (Option.some.inj hb7).symm H locs ls hG (lv_sub hl [2, 3, 1, 0] rfl)
def f6_countBusy_b2 (fu : Nat) (p1 : Int32) (x2_3 : Int32) (gNexts : (Nat → Int32)) (x3_8 : Int32) (aBusy_9 : (Nat → Int32)) : Option ((Int32 × (Nat → Int32)) ⊕ ((Nat → Int32))) :=
  if p1 ≤ x3_8 then (some (.inr aBusy_9)) else bnd1 (f6_countBusyBetween fu x2_3 x3_8 gNexts aBusy_9) fun (aBusy_13 : (Nat → Int32)) => bd (x3_8 + 1) fun x3_15 => some (.inl (x3_15, aBusy_13))
def f6_countBusy_b1 (fu : Nat) (p1 : Int32) (gNexts : (Nat → Int32)) (x2_3 : Int32) (aBusy_4 : (Nat → Int32)) : Option ((Int32 × (Nat → Int32)) ⊕ ((Nat → Int32))) :=
  if p1 ≤ x2_3 then (some (.inr aBusy_4)) else bnd1 (lpG (fun z => f6_countBusy_b2 fu p1 x2_3 gNexts z.1 z.2) fu ((0 : Int32), aBusy_4)) fun (aBusy_10 : (Nat → Int32)) => bd (x2_3 + 1) fun x2_16 => some (.inl (x2_16, aBusy_10))
def f6_countBusy (fu : Nat) (aBusy : (Nat → Int32)) (p1 : Int32) (gNexts : (Nat → Int32)) : Option ((Nat → Int32)) :=
  bnd1 (fJ7_fill_12 fu 0 aBusy) fun (aBusy_1 : (Nat → Int32)) => bnd1 (lpG (fun z => f6_countBusy_b1 fu p1 gNexts z.1 z.2) fu ((0 : Int32), aBusy_1)) fun (aBusy_5 : (Nat → Int32)) => some aBusy_5
set_option maxHeartbeats 4000000 in
set_option maxRecDepth 100000 in
theorem c_X6_countBusy (hq : gJ layB q) {fu : Nat} {p1 : Int32} {o_aBusy : (Nat → Int32)} (h : f6_countBusy fu aBusy p1 gNexts = some o_aBusy) :
    GM l yX6_countBusy cX6_countBusy 4 none 2 46 D cI cZ layB q [.ref (q 27), .int p1] ([iReadings, iAlterations, iRankings, iLetters, iCurrent, iDue, iSize, iLsize], [], [gCosts, gWorths, gMiddles, gApart, gApartWithout, gNeeded, gUps, gDowns, gKeys, gNexts, gShutKeys, aCodes, aPbegins, aPends, aPlengths, aBegins, aEnds, aLengths, aRanks, aRoadsByRank, aRow, aRanksBefore, aBusy, aOpen, aShut]) none ([iReadings, iAlterations, iRankings, iLetters, iCurrent, iDue, iSize, iLsize], [], [gCosts, gWorths, gMiddles, gApart, gApartWithout, gNeeded, gUps, gDowns, gKeys, gNexts, gShutKeys, aCodes, aPbegins, aPends, aPlengths, aBegins, aEnds, aLengths, aRanks, aRoadsByRank, aRow, aRanksBefore, o_aBusy, aOpen, aShut]) := by
  refine GM.go RX6 (by decide) rfl (Nat.le_of_ble_eq_true rfl) ?_
  intro p e s m args below meth c ls R Q H locs X hr hlk hT hG hl hR hQ
  have hx := X.1
  have hb := X.2.1
  have hl : lv_has ls 4 [(0, .ref (q 27)), (1, .int p1)] := hl
  unfold f6_countBusy at h
  refine lv_aload_n hx hb dX6_countBusy_0 rfl (lv_at hl 0 rfl) ?_
  refine g_get (v := .ref (q 40)) X hT hG fl_X6_21 27 rfl rfl rfl dX6_countBusy_1 ?_
  refine lv_iconst (v := 0) hx hb dX6_countBusy_4 (by decide) ?_
  obtain ⟨aBusy_1, ec2, h⟩ := bnd1_some h
  refine g_callSv [.ref (q 40), .int 0] [] X hT hG ml_X6_59 (c_J7_fill_53178_40 hq ec2) rfl rfl hl.1 (Nat.le_of_ble_eq_true rfl) (by rw [hR]; exact ⟨Nat.le_of_ble_eq_true rfl, Nat.le_of_ble_eq_true rfl⟩) dX6_countBusy_5 (fun H locs hG => ?_)
  have hG : GH D cI cZ layB q s ([iReadings, iAlterations, iRankings, iLetters, iCurrent, iDue, iSize, iLsize], [], [gCosts, gWorths, gMiddles, gApart, gApartWithout, gNeeded, gUps, gDowns, gKeys, gNexts, gShutKeys, aCodes, aPbegins, aPends, aPlengths, aBegins, aEnds, aLengths, aRanks, aRoadsByRank, aRow, aRanksBefore, aBusy_1, aOpen, aShut]) H locs := hG
  refine lv_iconst (v := 0) hx hb dX6_countBusy_8 (by decide) ?_
  refine lv_istore_n (lv' := [(2, .int 0), (0, .ref (q 27)), (1, .int p1)]) hx hb dX6_countBusy_9 rfl hl (by decide) rfl (fun ls hl => ?_)
  obtain ⟨aBusy_5, eL6, h⟩ := bnd1_some h
  have JX6 : ∀ (H : Heap) (locs : List Loc) (ls : Array Slot), GH D cI cZ layB q s ([iReadings, iAlterations, iRankings, iLetters, iCurrent, iDue, iSize, iLsize], [], [gCosts, gWorths, gMiddles, gApart, gApartWithout, gNeeded, gUps, gDowns, gKeys, gNexts, gShutKeys, aCodes, aPbegins, aPends, aPlengths, aBegins, aEnds, aLengths, aRanks, aRoadsByRank, aRow, aRanksBefore, aBusy_5, aOpen, aShut]) H locs → lv_has ls 4 [] → W p l e R s m args below meth c H locs 0 0 Q (F0 m 40 ls []) := by
    intro H locs ls hG hl
    cases h
    rw [hQ]
    exact g_vret X hT hG hr hlk dX6_countBusy_40
  refine lpG_W (Wh := fun z => ∀ (H : Heap) (locs : List Loc) (ls : Array Slot), GH D cI cZ layB q s ([iReadings, iAlterations, iRankings, iLetters, iCurrent, iDue, iSize, iLsize], [], [gCosts, gWorths, gMiddles, gApart, gApartWithout, gNeeded, gUps, gDowns, gKeys, gNexts, gShutKeys, aCodes, aPbegins, aPends, aPlengths, aBegins, aEnds, aLengths, aRanks, aRoadsByRank, aRow, aRanksBefore, z.2, aOpen, aShut]) H locs → lv_has ls 4 [(0, .ref (q 27)), (1, .int p1), (2, .int (z.1))] → W p l e R s m args below meth c H locs 0 0 Q (F0 m 10 ls [])) ?_ fu _ eL6 H locs ls hG (lv_sub hl [1, 2, 0] rfl)
  intro z rr6 hb6 hin6 hout6
  obtain ⟨x2_3, aBusy_4⟩ := z
  intro H locs ls hG hl
  have hb6 : f6_countBusy_b1 fu p1 gNexts x2_3 aBusy_4 = some rr6 := hb6
  have hG : GH D cI cZ layB q s ([iReadings, iAlterations, iRankings, iLetters, iCurrent, iDue, iSize, iLsize], [], [gCosts, gWorths, gMiddles, gApart, gApartWithout, gNeeded, gUps, gDowns, gKeys, gNexts, gShutKeys, aCodes, aPbegins, aPends, aPlengths, aBegins, aEnds, aLengths, aRanks, aRoadsByRank, aRow, aRanksBefore, aBusy_4, aOpen, aShut]) H locs := hG
  have hl : lv_has ls 4 [(0, .ref (q 27)), (1, .int p1), (2, .int x2_3)] := hl
  unfold f6_countBusy_b1 at hb6
  refine lv_iload_n hx hb dX6_countBusy_10 rfl (lv_at hl 2 rfl) ?_
  refine lv_iload_n hx hb dX6_countBusy_11 rfl (lv_at hl 1 rfl) ?_
  refine lv_icmp_ge (tgt := 40) hx hb dX6_countBusy_12 (by decide) (fun cb7 => ?_) (fun cb7 => ?_)
  · have hb6 := ite_t cb7 hb6
    have eo := hout6 _ (Option.some.inj hb6).symm
    cases eo
    exact JX6 H locs ls hG (lv_sub hl [] rfl)
  · have hb6 := ite_f cb7 hb6
    refine lv_iconst (v := 0) hx hb dX6_countBusy_15 (by decide) ?_
    refine lv_istore_n (lv' := [(3, .int 0), (0, .ref (q 27)), (1, .int p1), (2, .int x2_3)]) hx hb dX6_countBusy_16 rfl hl (by decide) rfl (fun ls hl => ?_)
    obtain ⟨aBusy_10, eL11, hb6⟩ := bnd1_some hb6
    have JX11 : ∀ (H : Heap) (locs : List Loc) (ls : Array Slot), GH D cI cZ layB q s ([iReadings, iAlterations, iRankings, iLetters, iCurrent, iDue, iSize, iLsize], [], [gCosts, gWorths, gMiddles, gApart, gApartWithout, gNeeded, gUps, gDowns, gKeys, gNexts, gShutKeys, aCodes, aPbegins, aPends, aPlengths, aBegins, aEnds, aLengths, aRanks, aRoadsByRank, aRow, aRanksBefore, aBusy_10, aOpen, aShut]) H locs → lv_has ls 4 [(0, .ref (q 27)), (1, .int p1), (2, .int x2_3)] → W p l e R s m args below meth c H locs 0 0 Q (F0 m 34 ls []) := by
      intro H locs ls hG hl
      obtain ⟨x2_16, ex2_16⟩ : ∃ z : Int32, z = x2_3 + 1 := ⟨_, rfl⟩
      have hb6 := bd_e ex2_16 hb6
      refine lv_iinc (v := x2_16) (lv' := [(2, .int x2_16), (0, .ref (q 27)), (1, .int p1)]) hx hb dX6_countBusy_34 hl (k := 2) rfl (by rw [ex2_16]; rfl) (by decide) rfl (fun ls hl => ?_)
      refine lv_goto (tgt := 10) hx hb dX6_countBusy_37 (by decide) ?_
      exact hin6 _ (Option.some.inj hb6).symm H locs ls hG (lv_sub hl [1, 2, 0] rfl)
    refine lpG_W (Wh := fun z => ∀ (H : Heap) (locs : List Loc) (ls : Array Slot), GH D cI cZ layB q s ([iReadings, iAlterations, iRankings, iLetters, iCurrent, iDue, iSize, iLsize], [], [gCosts, gWorths, gMiddles, gApart, gApartWithout, gNeeded, gUps, gDowns, gKeys, gNexts, gShutKeys, aCodes, aPbegins, aPends, aPlengths, aBegins, aEnds, aLengths, aRanks, aRoadsByRank, aRow, aRanksBefore, z.2, aOpen, aShut]) H locs → lv_has ls 4 [(0, .ref (q 27)), (1, .int p1), (2, .int x2_3), (3, .int (z.1))] → W p l e R s m args below meth c H locs 0 0 Q (F0 m 17 ls [])) ?_ fu _ eL11 H locs ls hG (lv_sub hl [1, 2, 3, 0] rfl)
    intro z rr11 hb11 hin11 hout11
    obtain ⟨x3_8, aBusy_9⟩ := z
    intro H locs ls hG hl
    have hb11 : f6_countBusy_b2 fu p1 x2_3 gNexts x3_8 aBusy_9 = some rr11 := hb11
    have hG : GH D cI cZ layB q s ([iReadings, iAlterations, iRankings, iLetters, iCurrent, iDue, iSize, iLsize], [], [gCosts, gWorths, gMiddles, gApart, gApartWithout, gNeeded, gUps, gDowns, gKeys, gNexts, gShutKeys, aCodes, aPbegins, aPends, aPlengths, aBegins, aEnds, aLengths, aRanks, aRoadsByRank, aRow, aRanksBefore, aBusy_9, aOpen, aShut]) H locs := hG
    have hl : lv_has ls 4 [(0, .ref (q 27)), (1, .int p1), (2, .int x2_3), (3, .int x3_8)] := hl
    unfold f6_countBusy_b2 at hb11
    refine lv_iload_n hx hb dX6_countBusy_17 rfl (lv_at hl 3 rfl) ?_
    refine lv_iload_n hx hb dX6_countBusy_18 rfl (lv_at hl 1 rfl) ?_
    refine lv_icmp_ge (tgt := 34) hx hb dX6_countBusy_19 (by decide) (fun cb12 => ?_) (fun cb12 => ?_)
    · have hb11 := ite_t cb12 hb11
      have eo := hout11 _ (Option.some.inj hb11).symm
      cases eo
      exact JX11 H locs ls hG (lv_sub hl [0, 1, 2] rfl)
    · have hb11 := ite_f cb12 hb11
      refine lv_aload_n hx hb dX6_countBusy_22 rfl (lv_at hl 0 rfl) ?_
      refine lv_iload_n hx hb dX6_countBusy_23 rfl (lv_at hl 2 rfl) ?_
      refine lv_iload_n hx hb dX6_countBusy_24 rfl (lv_at hl 3 rfl) ?_
      obtain ⟨aBusy_13, ec14, hb11⟩ := bnd1_some hb11
      refine g_callVv [.int x2_3, .int x3_8] [] 27 X hT hG ml_X6_65 (c_X6_countBusyBetween hq ec14) rfl rfl rfl rfl rfl hl.1 (Nat.le_of_ble_eq_true rfl) (by rw [hR]; exact ⟨Nat.le_of_ble_eq_true rfl, Nat.le_of_ble_eq_true rfl⟩) dX6_countBusy_25 (fun H locs hG => ?_)
      have hG : GH D cI cZ layB q s ([iReadings, iAlterations, iRankings, iLetters, iCurrent, iDue, iSize, iLsize], [], [gCosts, gWorths, gMiddles, gApart, gApartWithout, gNeeded, gUps, gDowns, gKeys, gNexts, gShutKeys, aCodes, aPbegins, aPends, aPlengths, aBegins, aEnds, aLengths, aRanks, aRoadsByRank, aRow, aRanksBefore, aBusy_13, aOpen, aShut]) H locs := hG
      obtain ⟨x3_15, ex3_15⟩ : ∃ z : Int32, z = x3_8 + 1 := ⟨_, rfl⟩
      have hb11 := bd_e ex3_15 hb11
      refine lv_iinc (v := x3_15) (lv' := [(3, .int x3_15), (0, .ref (q 27)), (1, .int p1), (2, .int x2_3)]) hx hb dX6_countBusy_28 hl (k := 3) rfl (by rw [ex3_15]; rfl) (by decide) rfl (fun ls hl => ?_)
      refine lv_goto (tgt := 17) hx hb dX6_countBusy_31 (by decide) ?_
      exact hin11 _ (Option.some.inj hb11).symm H locs ls hG (lv_sub hl [1, 2, 3, 0] rfl)
def f6_measure_b2 (fu : Nat) (iSize : Int32) (x2_3 : Int32) (gKeys_1 : (Nat → Int32)) (gCosts : (Nat → Int32)) (aLengths : (Nat → Int32)) (x3_8 : Int32) (gNexts_9 : (Nat → Int32)) : Option ((Int32 × (Nat → Int32)) ⊕ ((Nat → Int32))) :=
  if iSize ≤ x3_8 then (some (.inr gNexts_9)) else bnd1 (if x2_3 = x3_8 then (some (-1)) else bnd1 (f6_firstNext fu x2_3 x3_8 gKeys_1 iSize gCosts aLengths) fun (r_16 : Int32) => some r_16) fun (y_13 : Int32) => bnd1 (f1_set x2_3 x3_8 gNexts_9 y_13) fun (gNexts_18 : (Nat → Int32)) => bd (x3_8 + 1) fun x3_20 => some (.inl (x3_20, gNexts_18))
def f6_measure_b1 (fu : Nat) (iSize : Int32) (gKeys_1 : (Nat → Int32)) (gCosts : (Nat → Int32)) (aLengths : (Nat → Int32)) (x2_3 : Int32) (gNexts_4 : (Nat → Int32)) : Option ((Int32 × (Nat → Int32)) ⊕ ((Nat → Int32))) :=
  if iSize ≤ x2_3 then (some (.inr gNexts_4)) else bnd1 (lpG (fun z => f6_measure_b2 fu iSize x2_3 gKeys_1 gCosts aLengths z.1 z.2) fu ((0 : Int32), gNexts_4)) fun (gNexts_10 : (Nat → Int32)) => bd (x2_3 + 1) fun x2_21 => some (.inl (x2_21, gNexts_10))
def f6_measure (fu : Nat) (iSize : Int32) (gCosts : (Nat → Int32)) (aLengths : (Nat → Int32)) (gKeys : (Nat → Int32)) (gNexts : (Nat → Int32)) (aBusy : (Nat → Int32)) : Option ((Nat → Int32) × (Nat → Int32) × (Nat → Int32)) :=
  bnd1 (f3_fillLeastKeys fu iSize (-1) gCosts aLengths gKeys) fun (gKeys_1 : (Nat → Int32)) => bnd1 (lpG (fun z => f6_measure_b1 fu iSize gKeys_1 gCosts aLengths z.1 z.2) fu ((0 : Int32), gNexts)) fun (gNexts_5 : (Nat → Int32)) => bnd1 (f6_countBusy fu aBusy iSize gNexts_5) fun (aBusy_22 : (Nat → Int32)) => some (gKeys_1, gNexts_5, aBusy_22)
set_option maxHeartbeats 4000000 in
set_option maxRecDepth 100000 in
theorem c_X6_measure_27_24 (hq : gJ layB q) {fu : Nat} {o_gKeys : (Nat → Int32)} {o_gNexts : (Nat → Int32)} {o_aBusy : (Nat → Int32)} (h : f6_measure fu iSize gCosts aLengths gKeys gNexts aBusy = some (o_gKeys, o_gNexts, o_aBusy)) :
    GM l yX6_measure cX6_measure 4 none 4 92 D cI cZ layB q [.ref (q 27), .ref (q 24)] ([iReadings, iAlterations, iRankings, iLetters, iCurrent, iDue, iSize, iLsize], [], [gCosts, gWorths, gMiddles, gApart, gApartWithout, gNeeded, gUps, gDowns, gKeys, gNexts, gShutKeys, aCodes, aPbegins, aPends, aPlengths, aBegins, aEnds, aLengths, aRanks, aRoadsByRank, aRow, aRanksBefore, aBusy, aOpen, aShut]) none ([iReadings, iAlterations, iRankings, iLetters, iCurrent, iDue, iSize, iLsize], [], [gCosts, gWorths, gMiddles, gApart, gApartWithout, gNeeded, gUps, gDowns, o_gKeys, o_gNexts, gShutKeys, aCodes, aPbegins, aPends, aPlengths, aBegins, aEnds, aLengths, aRanks, aRoadsByRank, aRow, aRanksBefore, o_aBusy, aOpen, aShut]) := by
  refine GM.go RX6 (by decide) rfl (Nat.le_of_ble_eq_true rfl) ?_
  intro p e s m args below meth c ls R Q H locs X hr hlk hT hG hl hR hQ
  have hx := X.1
  have hb := X.2.1
  have hl : lv_has ls 4 [(0, .ref (q 27)), (1, .ref (q 24))] := hl
  unfold f6_measure at h
  refine lv_aload_n hx hb dX6_measure_0 rfl (lv_at hl 1 rfl) ?_
  refine lv_aload_n hx hb dX6_measure_1 rfl (lv_at hl 0 rfl) ?_
  refine g_get (v := .ref (q 8)) X hT hG fl_X6_12 27 rfl rfl rfl dX6_measure_2 ?_
  refine lv_iconst (v := (-1)) hx hb dX6_measure_5 (by decide) ?_
  obtain ⟨gKeys_1, ec2, h⟩ := bnd1_some h
  refine g_callVv [.ref (q 8), .int (-1)] [] 24 X hT hG ml_X6_25 (c_X3_fillLeastKeys_24_8 hq ec2) rfl rfl rfl rfl rfl hl.1 (Nat.le_of_ble_eq_true rfl) (by rw [hR]; exact ⟨Nat.le_of_ble_eq_true rfl, Nat.le_of_ble_eq_true rfl⟩) dX6_measure_6 (fun H locs hG => ?_)
  have hG : GH D cI cZ layB q s ([iReadings, iAlterations, iRankings, iLetters, iCurrent, iDue, iSize, iLsize], [], [gCosts, gWorths, gMiddles, gApart, gApartWithout, gNeeded, gUps, gDowns, gKeys_1, gNexts, gShutKeys, aCodes, aPbegins, aPends, aPlengths, aBegins, aEnds, aLengths, aRanks, aRoadsByRank, aRow, aRanksBefore, aBusy, aOpen, aShut]) H locs := hG
  refine lv_iconst (v := 0) hx hb dX6_measure_9 (by decide) ?_
  refine lv_istore_n (lv' := [(2, .int 0), (0, .ref (q 27)), (1, .ref (q 24))]) hx hb dX6_measure_10 rfl hl (by decide) rfl (fun ls hl => ?_)
  obtain ⟨gNexts_5, eL6, h⟩ := bnd1_some h
  have JX6 : ∀ (H : Heap) (locs : List Loc) (ls : Array Slot), GH D cI cZ layB q s ([iReadings, iAlterations, iRankings, iLetters, iCurrent, iDue, iSize, iLsize], [], [gCosts, gWorths, gMiddles, gApart, gApartWithout, gNeeded, gUps, gDowns, gKeys_1, gNexts_5, gShutKeys, aCodes, aPbegins, aPends, aPlengths, aBegins, aEnds, aLengths, aRanks, aRoadsByRank, aRow, aRanksBefore, aBusy, aOpen, aShut]) H locs → lv_has ls 4 [(0, .ref (q 27)), (1, .ref (q 24))] → W p l e R s m args below meth c H locs 0 0 Q (F0 m 66 ls []) := by
    intro H locs ls hG hl
    refine lv_aload_n hx hb dX6_measure_66 rfl (lv_at hl 0 rfl) ?_
    refine lv_aload_n hx hb dX6_measure_67 rfl (lv_at hl 1 rfl) ?_
    refine g_get (v := .int iSize) X hT hG fl_X6_31 24 rfl rfl rfl dX6_measure_68 ?_
    obtain ⟨aBusy_22, ec23, h⟩ := bnd1_some h
    refine g_callVv [.int iSize] [] 27 X hT hG ml_X6_43 (c_X6_countBusy hq ec23) rfl rfl rfl rfl rfl hl.1 (Nat.le_of_ble_eq_true rfl) (by rw [hR]; exact ⟨Nat.le_of_ble_eq_true rfl, Nat.le_of_ble_eq_true rfl⟩) dX6_measure_71 (fun H locs hG => ?_)
    have hG : GH D cI cZ layB q s ([iReadings, iAlterations, iRankings, iLetters, iCurrent, iDue, iSize, iLsize], [], [gCosts, gWorths, gMiddles, gApart, gApartWithout, gNeeded, gUps, gDowns, gKeys_1, gNexts_5, gShutKeys, aCodes, aPbegins, aPends, aPlengths, aBegins, aEnds, aLengths, aRanks, aRoadsByRank, aRow, aRanksBefore, aBusy_22, aOpen, aShut]) H locs := hG
    cases h
    rw [hQ]
    exact g_vret X hT hG hr hlk dX6_measure_74
  refine lpG_W (Wh := fun z => ∀ (H : Heap) (locs : List Loc) (ls : Array Slot), GH D cI cZ layB q s ([iReadings, iAlterations, iRankings, iLetters, iCurrent, iDue, iSize, iLsize], [], [gCosts, gWorths, gMiddles, gApart, gApartWithout, gNeeded, gUps, gDowns, gKeys_1, z.2, gShutKeys, aCodes, aPbegins, aPends, aPlengths, aBegins, aEnds, aLengths, aRanks, aRoadsByRank, aRow, aRanksBefore, aBusy, aOpen, aShut]) H locs → lv_has ls 4 [(0, .ref (q 27)), (1, .ref (q 24)), (2, .int (z.1))] → W p l e R s m args below meth c H locs 0 0 Q (F0 m 11 ls [])) ?_ fu _ eL6 H locs ls hG (lv_sub hl [1, 2, 0] rfl)
  intro z rr6 hb6 hin6 hout6
  obtain ⟨x2_3, gNexts_4⟩ := z
  intro H locs ls hG hl
  have hb6 : f6_measure_b1 fu iSize gKeys_1 gCosts aLengths x2_3 gNexts_4 = some rr6 := hb6
  have hG : GH D cI cZ layB q s ([iReadings, iAlterations, iRankings, iLetters, iCurrent, iDue, iSize, iLsize], [], [gCosts, gWorths, gMiddles, gApart, gApartWithout, gNeeded, gUps, gDowns, gKeys_1, gNexts_4, gShutKeys, aCodes, aPbegins, aPends, aPlengths, aBegins, aEnds, aLengths, aRanks, aRoadsByRank, aRow, aRanksBefore, aBusy, aOpen, aShut]) H locs := hG
  have hl : lv_has ls 4 [(0, .ref (q 27)), (1, .ref (q 24)), (2, .int x2_3)] := hl
  unfold f6_measure_b1 at hb6
  refine lv_iload_n hx hb dX6_measure_11 rfl (lv_at hl 2 rfl) ?_
  refine lv_aload_n hx hb dX6_measure_12 rfl (lv_at hl 1 rfl) ?_
  refine g_get (v := .int iSize) X hT hG fl_X6_31 24 rfl rfl rfl dX6_measure_13 ?_
  refine lv_icmp_ge (tgt := 66) hx hb dX6_measure_16 (by decide) (fun cb7 => ?_) (fun cb7 => ?_)
  · have hb6 := ite_t cb7 hb6
    have eo := hout6 _ (Option.some.inj hb6).symm
    cases eo
    exact JX6 H locs ls hG (lv_sub hl [0, 1] rfl)
  · have hb6 := ite_f cb7 hb6
    refine lv_iconst (v := 0) hx hb dX6_measure_19 (by decide) ?_
    refine lv_istore_n (lv' := [(3, .int 0), (0, .ref (q 27)), (1, .ref (q 24)), (2, .int x2_3)]) hx hb dX6_measure_20 rfl hl (by decide) rfl (fun ls hl => ?_)
    obtain ⟨gNexts_10, eL11, hb6⟩ := bnd1_some hb6
    have JX11 : ∀ (H : Heap) (locs : List Loc) (ls : Array Slot), GH D cI cZ layB q s ([iReadings, iAlterations, iRankings, iLetters, iCurrent, iDue, iSize, iLsize], [], [gCosts, gWorths, gMiddles, gApart, gApartWithout, gNeeded, gUps, gDowns, gKeys_1, gNexts_10, gShutKeys, aCodes, aPbegins, aPends, aPlengths, aBegins, aEnds, aLengths, aRanks, aRoadsByRank, aRow, aRanksBefore, aBusy, aOpen, aShut]) H locs → lv_has ls 4 [(0, .ref (q 27)), (1, .ref (q 24)), (2, .int x2_3)] → W p l e R s m args below meth c H locs 0 0 Q (F0 m 60 ls []) := by
      intro H locs ls hG hl
      obtain ⟨x2_21, ex2_21⟩ : ∃ z : Int32, z = x2_3 + 1 := ⟨_, rfl⟩
      have hb6 := bd_e ex2_21 hb6
      refine lv_iinc (v := x2_21) (lv' := [(2, .int x2_21), (0, .ref (q 27)), (1, .ref (q 24))]) hx hb dX6_measure_60 hl (k := 2) rfl (by rw [ex2_21]; rfl) (by decide) rfl (fun ls hl => ?_)
      refine lv_goto (tgt := 11) hx hb dX6_measure_63 (by decide) ?_
      exact hin6 _ (Option.some.inj hb6).symm H locs ls hG (lv_sub hl [1, 2, 0] rfl)
    refine lpG_W (Wh := fun z => ∀ (H : Heap) (locs : List Loc) (ls : Array Slot), GH D cI cZ layB q s ([iReadings, iAlterations, iRankings, iLetters, iCurrent, iDue, iSize, iLsize], [], [gCosts, gWorths, gMiddles, gApart, gApartWithout, gNeeded, gUps, gDowns, gKeys_1, z.2, gShutKeys, aCodes, aPbegins, aPends, aPlengths, aBegins, aEnds, aLengths, aRanks, aRoadsByRank, aRow, aRanksBefore, aBusy, aOpen, aShut]) H locs → lv_has ls 4 [(0, .ref (q 27)), (1, .ref (q 24)), (2, .int x2_3), (3, .int (z.1))] → W p l e R s m args below meth c H locs 0 0 Q (F0 m 21 ls [])) ?_ fu _ eL11 H locs ls hG (lv_sub hl [1, 2, 3, 0] rfl)
    intro z rr11 hb11 hin11 hout11
    obtain ⟨x3_8, gNexts_9⟩ := z
    intro H locs ls hG hl
    have hb11 : f6_measure_b2 fu iSize x2_3 gKeys_1 gCosts aLengths x3_8 gNexts_9 = some rr11 := hb11
    have hG : GH D cI cZ layB q s ([iReadings, iAlterations, iRankings, iLetters, iCurrent, iDue, iSize, iLsize], [], [gCosts, gWorths, gMiddles, gApart, gApartWithout, gNeeded, gUps, gDowns, gKeys_1, gNexts_9, gShutKeys, aCodes, aPbegins, aPends, aPlengths, aBegins, aEnds, aLengths, aRanks, aRoadsByRank, aRow, aRanksBefore, aBusy, aOpen, aShut]) H locs := hG
    have hl : lv_has ls 4 [(0, .ref (q 27)), (1, .ref (q 24)), (2, .int x2_3), (3, .int x3_8)] := hl
    unfold f6_measure_b2 at hb11
    refine lv_iload_n hx hb dX6_measure_21 rfl (lv_at hl 3 rfl) ?_
    refine lv_aload_n hx hb dX6_measure_22 rfl (lv_at hl 1 rfl) ?_
    refine g_get (v := .int iSize) X hT hG fl_X6_31 24 rfl rfl rfl dX6_measure_23 ?_
    refine lv_icmp_ge (tgt := 60) hx hb dX6_measure_26 (by decide) (fun cb12 => ?_) (fun cb12 => ?_)
    · have hb11 := ite_t cb12 hb11
      have eo := hout11 _ (Option.some.inj hb11).symm
      cases eo
      exact JX11 H locs ls hG (lv_sub hl [0, 1, 2] rfl)
    · have hb11 := ite_f cb12 hb11
      refine lv_aload_n hx hb dX6_measure_29 rfl (lv_at hl 0 rfl) ?_
      refine g_get (v := .ref (q 9)) X hT hG fl_X6_18 27 rfl rfl rfl dX6_measure_30 ?_
      refine lv_iload_n hx hb dX6_measure_33 rfl (lv_at hl 2 rfl) ?_
      refine lv_iload_n hx hb dX6_measure_34 rfl (lv_at hl 3 rfl) ?_
      refine lv_iload_n hx hb dX6_measure_35 rfl (lv_at hl 2 rfl) ?_
      refine lv_iload_n hx hb dX6_measure_36 rfl (lv_at hl 3 rfl) ?_
      obtain ⟨y_13, er14, hb11⟩ := bnd1_some hb11
      have J14 : ∀ (H : Heap) (locs : List Loc) (ls : Array Slot), GH D cI cZ layB q s ([iReadings, iAlterations, iRankings, iLetters, iCurrent, iDue, iSize, iLsize], [], [gCosts, gWorths, gMiddles, gApart, gApartWithout, gNeeded, gUps, gDowns, gKeys_1, gNexts_9, gShutKeys, aCodes, aPbegins, aPends, aPlengths, aBegins, aEnds, aLengths, aRanks, aRoadsByRank, aRow, aRanksBefore, aBusy, aOpen, aShut]) H locs → lv_has ls 4 [(0, .ref (q 27)), (1, .ref (q 24)), (2, .int x2_3), (3, .int x3_8)] → W p l e R s m args below meth c H locs 0 0 Q (F0 m 51 ls [.int y_13, .int x3_8, .int x2_3, .ref (q 9)]) := by
        intro H locs ls hG hl
        obtain ⟨gNexts_18, ec19, hb11⟩ := bnd1_some hb11
        refine g_callVv [.int x2_3, .int x3_8, .int y_13] [] 9 X hT hG ml_X6_39 (c_X1_set_9 hq ec19) rfl rfl rfl rfl rfl hl.1 (Nat.le_of_ble_eq_true rfl) (by rw [hR]; exact ⟨Nat.le_of_ble_eq_true rfl, Nat.le_of_ble_eq_true rfl⟩) dX6_measure_51 (fun H locs hG => ?_)
        have hG : GH D cI cZ layB q s ([iReadings, iAlterations, iRankings, iLetters, iCurrent, iDue, iSize, iLsize], [], [gCosts, gWorths, gMiddles, gApart, gApartWithout, gNeeded, gUps, gDowns, gKeys_1, gNexts_18, gShutKeys, aCodes, aPbegins, aPends, aPlengths, aBegins, aEnds, aLengths, aRanks, aRoadsByRank, aRow, aRanksBefore, aBusy, aOpen, aShut]) H locs := hG
        obtain ⟨x3_20, ex3_20⟩ : ∃ z : Int32, z = x3_8 + 1 := ⟨_, rfl⟩
        have hb11 := bd_e ex3_20 hb11
        refine lv_iinc (v := x3_20) (lv' := [(3, .int x3_20), (0, .ref (q 27)), (1, .ref (q 24)), (2, .int x2_3)]) hx hb dX6_measure_54 hl (k := 3) rfl (by rw [ex3_20]; rfl) (by decide) rfl (fun ls hl => ?_)
        refine lv_goto (tgt := 21) hx hb dX6_measure_57 (by decide) ?_
        exact hin11 _ (Option.some.inj hb11).symm H locs ls hG (lv_sub hl [1, 2, 3, 0] rfl)
      refine lv_icmp_ne (tgt := 44) hx hb dX6_measure_37 (by decide) (fun cb15 => ?_) (fun cb15 => ?_)
      · have er14 := ite_f cb15 er14
        refine lv_aload_n hx hb dX6_measure_44 rfl (lv_at hl 0 rfl) ?_
        refine lv_aload_n hx hb dX6_measure_45 rfl (lv_at hl 1 rfl) ?_
        refine lv_iload_n hx hb dX6_measure_46 rfl (lv_at hl 2 rfl) ?_
        refine lv_iload_n hx hb dX6_measure_47 rfl (lv_at hl 3 rfl) ?_
        obtain ⟨r_16, ec17, er14⟩ := bnd1_some er14
        refine g_callVr [.ref (q 24), .int x2_3, .int x3_8] [.int x3_8, .int x2_3, .ref (q 9)] 27 X hT hG ml_X6_35 (c_X6_firstNext_27_24 hq ec17) rfl rfl rfl rfl rfl hl.1 (Nat.le_of_ble_eq_true rfl) (by rw [hR]; exact ⟨Nat.le_of_ble_eq_true rfl, Nat.le_of_ble_eq_true rfl⟩) dX6_measure_48 (fun H locs hG => ?_)
        cases er14
        exact J14 H locs ls hG (lv_sub hl [0, 1, 2, 3] rfl)
      · have er14 := ite_t cb15 er14
        refine lv_iconst (v := (-1)) hx hb dX6_measure_40 (by decide) ?_
        refine lv_goto (tgt := 51) hx hb dX6_measure_41 (by decide) ?_
        cases er14
        exact J14 H locs ls hG (lv_sub hl [0, 1, 2, 3] rfl)
def fJ7_fill_64_b1 (p1 : Int32) (x2_1 : Int32) (aOpen_2 : (Nat → Int32)) : Option ((Int32 × (Nat → Int32)) ⊕ ((Nat → Int32))) :=
  if 64 ≤ x2_1 then (some (.inr aOpen_2)) else ckin x2_1 64 (bd (upd aOpen_2 x2_1.toNatClampNeg p1) fun aOpen_7 => bd (x2_1 + 1) fun x2_8 => some (.inl (x2_8, aOpen_7)))
def fJ7_fill_64 (fu : Nat) (p1 : Int32) (aOpen : (Nat → Int32)) : Option ((Nat → Int32)) :=
  bnd1 (lpG (fun z => fJ7_fill_64_b1 p1 z.1 z.2) fu ((0 : Int32), aOpen)) fun (aOpen_3 : (Nat → Int32)) => some aOpen_3
set_option maxHeartbeats 4000000 in
set_option maxRecDepth 100000 in
theorem c_J7_fill_53178_41 (hq : gJ layB q) {fu : Nat} {p1 : Int32} {o_aOpen : (Nat → Int32)} (h : fJ7_fill_64 fu p1 aOpen = some o_aOpen) :
    GM l yJ7_fill_53178 cJ7_fill_53178 4 none 0 0 D cI cZ layB q [.ref (q 41), .int p1] ([iReadings, iAlterations, iRankings, iLetters, iCurrent, iDue, iSize, iLsize], [], [gCosts, gWorths, gMiddles, gApart, gApartWithout, gNeeded, gUps, gDowns, gKeys, gNexts, gShutKeys, aCodes, aPbegins, aPends, aPlengths, aBegins, aEnds, aLengths, aRanks, aRoadsByRank, aRow, aRanksBefore, aBusy, aOpen, aShut]) none ([iReadings, iAlterations, iRankings, iLetters, iCurrent, iDue, iSize, iLsize], [], [gCosts, gWorths, gMiddles, gApart, gApartWithout, gNeeded, gUps, gDowns, gKeys, gNexts, gShutKeys, aCodes, aPbegins, aPends, aPlengths, aBegins, aEnds, aLengths, aRanks, aRoadsByRank, aRow, aRanksBefore, aBusy, o_aOpen, aShut]) := by
  refine GM.go RJ7 (by decide) rfl (Nat.le_of_ble_eq_true rfl) ?_
  intro p e s m args below meth c ls R Q H locs X hr hlk hT hG hl hR hQ
  have hx := X.1
  have hb := X.2.1
  have hl : lv_has ls 4 [(0, .ref (q 41)), (1, .int p1)] := hl
  unfold fJ7_fill_64 at h
  refine lv_iconst (v := 0) hx hb dJ7_fill_53178_0 (by decide) ?_
  refine lv_istore_n (lv' := [(2, .int 0), (0, .ref (q 41)), (1, .int p1)]) hx hb dJ7_fill_53178_1 rfl hl (by decide) rfl (fun ls hl => ?_)
  refine lv_aload_n hx hb dJ7_fill_53178_2 rfl (lv_at hl 1 rfl) ?_
  refine g_alen (v := 64) X hT hG 41 rfl (by decide) dJ7_fill_53178_3 ?_
  refine lv_istore_n (lv' := [(3, .int 64), (2, .int 0), (0, .ref (q 41)), (1, .int p1)]) hx hb dJ7_fill_53178_4 rfl hl (by decide) rfl (fun ls hl => ?_)
  obtain ⟨aOpen_3, eL4, h⟩ := bnd1_some h
  have JX4 : ∀ (H : Heap) (locs : List Loc) (ls : Array Slot), GH D cI cZ layB q s ([iReadings, iAlterations, iRankings, iLetters, iCurrent, iDue, iSize, iLsize], [], [gCosts, gWorths, gMiddles, gApart, gApartWithout, gNeeded, gUps, gDowns, gKeys, gNexts, gShutKeys, aCodes, aPbegins, aPends, aPlengths, aBegins, aEnds, aLengths, aRanks, aRoadsByRank, aRow, aRanksBefore, aBusy, aOpen_3, aShut]) H locs → lv_has ls 4 [] → W p l e R s m args below meth c H locs 0 0 Q (F0 m 20 ls []) := by
    intro H locs ls hG hl
    cases h
    rw [hQ]
    exact g_vret X hT hG hr hlk dJ7_fill_53178_20
  refine lpG_W (Wh := fun z => ∀ (H : Heap) (locs : List Loc) (ls : Array Slot), GH D cI cZ layB q s ([iReadings, iAlterations, iRankings, iLetters, iCurrent, iDue, iSize, iLsize], [], [gCosts, gWorths, gMiddles, gApart, gApartWithout, gNeeded, gUps, gDowns, gKeys, gNexts, gShutKeys, aCodes, aPbegins, aPends, aPlengths, aBegins, aEnds, aLengths, aRanks, aRoadsByRank, aRow, aRanksBefore, aBusy, z.2, aShut]) H locs → lv_has ls 4 [(0, .ref (q 41)), (1, .int p1), (2, .int (z.1)), (3, .int 64)] → W p l e R s m args below meth c H locs 0 0 Q (F0 m 5 ls [])) ?_ fu _ eL4 H locs ls hG (lv_sub hl [2, 3, 1, 0] rfl)
  intro z rr4 hb4 hin4 hout4
  obtain ⟨x2_1, aOpen_2⟩ := z
  intro H locs ls hG hl
  have hb4 : fJ7_fill_64_b1 p1 x2_1 aOpen_2 = some rr4 := hb4
  have hG : GH D cI cZ layB q s ([iReadings, iAlterations, iRankings, iLetters, iCurrent, iDue, iSize, iLsize], [], [gCosts, gWorths, gMiddles, gApart, gApartWithout, gNeeded, gUps, gDowns, gKeys, gNexts, gShutKeys, aCodes, aPbegins, aPends, aPlengths, aBegins, aEnds, aLengths, aRanks, aRoadsByRank, aRow, aRanksBefore, aBusy, aOpen_2, aShut]) H locs := hG
  have hl : lv_has ls 4 [(0, .ref (q 41)), (1, .int p1), (2, .int x2_1), (3, .int 64)] := hl
  unfold fJ7_fill_64_b1 at hb4
  refine lv_iload_n hx hb dJ7_fill_53178_5 rfl (lv_at hl 2 rfl) ?_
  refine lv_iload_n hx hb dJ7_fill_53178_6 rfl (lv_at hl 3 rfl) ?_
  refine lv_icmp_ge (tgt := 20) hx hb dJ7_fill_53178_7 (by decide) (fun cb5 => ?_) (fun cb5 => ?_)
  · have hb4 := ite_t cb5 hb4
    have eo := hout4 _ (Option.some.inj hb4).symm
    cases eo
    exact JX4 H locs ls hG (lv_sub hl [] rfl)
  · have hb4 := ite_f cb5 hb4
    refine lv_aload_n hx hb dJ7_fill_53178_10 rfl (lv_at hl 0 rfl) ?_
    refine lv_iload_n hx hb dJ7_fill_53178_11 rfl (lv_at hl 2 rfl) ?_
    refine lv_iload_n hx hb dJ7_fill_53178_12 rfl (lv_at hl 1 rfl) ?_
    obtain ⟨hi6, hb4⟩ := ckin_some hb4
    obtain ⟨aOpen_7, eaOpen_7⟩ : ∃ z : Nat → Int32, z = upd aOpen_2 x2_1.toNatClampNeg p1 := ⟨_, rfl⟩
    have hb4 := bd_e eaOpen_7 hb4
    refine g_ast (w' := ([iReadings, iAlterations, iRankings, iLetters, iCurrent, iDue, iSize, iLsize], [], [gCosts, gWorths, gMiddles, gApart, gApartWithout, gNeeded, gUps, gDowns, gKeys, gNexts, gShutKeys, aCodes, aPbegins, aPends, aPlengths, aBegins, aEnds, aLengths, aRanks, aRoadsByRank, aRow, aRanksBefore, aBusy, aOpen_7, aShut])) X hT hq hG 41 rfl ga_B_aOpen (Nat.le_of_ble_eq_true rfl) hi6 (by subst eaOpen_7; rfl) dJ7_fill_53178_13 (fun H locs hG => ?_)
    obtain ⟨x2_8, ex2_8⟩ : ∃ z : Int32, z = x2_1 + 1 := ⟨_, rfl⟩
    have hb4 := bd_e ex2_8 hb4
    refine lv_iinc (v := x2_8) (lv' := [(2, .int x2_8), (0, .ref (q 41)), (1, .int p1), (3, .int 64)]) hx hb dJ7_fill_53178_14 hl (k := 2) rfl (by rw [ex2_8]; rfl) (by decide) rfl (fun ls hl => ?_)
    refine lv_goto (tgt := 5) hx hb dJ7_fill_53178_17 (by decide) ?_
    exact hin4 _ (Option.some.inj hb4).symm H locs ls hG (lv_sub hl [1, 2, 0, 3] rfl)
def f5_fillWith_b2 (iSize : Int32) (x4_3 : Int32) (gKeys : (Nat → Int32)) (aBegins : (Nat → Int32)) (aEnds : (Nat → Int32)) (p1 : Int32) (aLengths : (Nat → Int32)) (x5_8 : Int32) (aOpen_9 : (Nat → Int32)) : Option ((Int32 × (Nat → Int32)) ⊕ ((Nat → Int32))) :=
  if iSize ≤ x5_8 then (some (.inr aOpen_9)) else bnd1 (f1_get x4_3 x5_8 gKeys) fun (r_13 : Int32) => ckin x4_3 12 (ckin x5_8 12 (bd ((((aBegins x4_3.toNatClampNeg) * 8) + (aEnds x5_8.toNatClampNeg))) fun x7_17 => bnd1 (if 268435456 ≤ r_13 then (some aOpen_9) else if x4_3 = p1 then (some aOpen_9) else if x5_8 = p1 then (some aOpen_9) else ckin x4_3 12 (ckin x5_8 12 (if (aBegins x4_3.toNatClampNeg) = (aEnds x5_8.toNatClampNeg) then (some aOpen_9) else ckin x7_17 64 (ckin x4_3 12 (ckin x7_17 64 (bd (upd aOpen_9 x7_17.toNatClampNeg (if ((aLengths x4_3.toNatClampNeg) + (r_13 / 64)) < (aOpen_9 x7_17.toNatClampNeg) then ((aLengths x4_3.toNatClampNeg) + (r_13 / 64)) else (aOpen_9 x7_17.toNatClampNeg))) fun aOpen_29 => some aOpen_29)))))) fun (aOpen_18 : (Nat → Int32)) => bd (x5_8 + 1) fun x5_30 => some (.inl (x5_30, aOpen_18))))
def f5_fillWith_b1 (fu : Nat) (iSize : Int32) (gKeys : (Nat → Int32)) (aBegins : (Nat → Int32)) (aEnds : (Nat → Int32)) (p1 : Int32) (aLengths : (Nat → Int32)) (x4_3 : Int32) (aOpen_4 : (Nat → Int32)) : Option ((Int32 × (Nat → Int32)) ⊕ ((Nat → Int32))) :=
  if iSize ≤ x4_3 then (some (.inr aOpen_4)) else bnd1 (lpG (fun z => f5_fillWith_b2 iSize x4_3 gKeys aBegins aEnds p1 aLengths z.1 z.2) fu ((0 : Int32), aOpen_4)) fun (aOpen_10 : (Nat → Int32)) => bd (x4_3 + 1) fun x4_31 => some (.inl (x4_31, aOpen_10))
def f5_fillWith (fu : Nat) (aOpen : (Nat → Int32)) (iSize : Int32) (gKeys : (Nat → Int32)) (aBegins : (Nat → Int32)) (aEnds : (Nat → Int32)) (p1 : Int32) (aLengths : (Nat → Int32)) : Option ((Nat → Int32)) :=
  bnd1 (fJ7_fill_64 fu 268435456 aOpen) fun (aOpen_1 : (Nat → Int32)) => bnd1 (lpG (fun z => f5_fillWith_b1 fu iSize gKeys aBegins aEnds p1 aLengths z.1 z.2) fu ((0 : Int32), aOpen_1)) fun (aOpen_5 : (Nat → Int32)) => some aOpen_5
set_option maxHeartbeats 4000000 in
set_option maxRecDepth 100000 in
theorem c_X5_fillWith_41_24_8 (hq : gJ layB q) {fu : Nat} {p1 : Int32} {o_aOpen : (Nat → Int32)} (h : f5_fillWith fu aOpen iSize gKeys aBegins aEnds p1 aLengths = some o_aOpen) :
    GM l yX5_fillWith cX5_fillWith 8 none 1 23 D cI cZ layB q [.ref (q 41), .ref (q 24), .ref (q 8), .int p1] ([iReadings, iAlterations, iRankings, iLetters, iCurrent, iDue, iSize, iLsize], [], [gCosts, gWorths, gMiddles, gApart, gApartWithout, gNeeded, gUps, gDowns, gKeys, gNexts, gShutKeys, aCodes, aPbegins, aPends, aPlengths, aBegins, aEnds, aLengths, aRanks, aRoadsByRank, aRow, aRanksBefore, aBusy, aOpen, aShut]) none ([iReadings, iAlterations, iRankings, iLetters, iCurrent, iDue, iSize, iLsize], [], [gCosts, gWorths, gMiddles, gApart, gApartWithout, gNeeded, gUps, gDowns, gKeys, gNexts, gShutKeys, aCodes, aPbegins, aPends, aPlengths, aBegins, aEnds, aLengths, aRanks, aRoadsByRank, aRow, aRanksBefore, aBusy, o_aOpen, aShut]) := by
  refine GM.go RX5 (by decide) rfl (Nat.le_of_ble_eq_true rfl) ?_
  intro p e s m args below meth c ls R Q H locs X hr hlk hT hG hl hR hQ
  have hx := X.1
  have hb := X.2.1
  have hl : lv_has ls 8 [(0, .ref (q 41)), (1, .ref (q 24)), (2, .ref (q 8)), (3, .int p1)] := hl
  unfold f5_fillWith at h
  refine lv_aload_n hx hb dX5_fillWith_0 rfl (lv_at hl 0 rfl) ?_
  refine lv_ldc (v := 268435456) hx hb X.2.2.2.1 (X.2.2.2.2 _ cn_X5_25) dX5_fillWith_1 ?_
  obtain ⟨aOpen_1, ec2, h⟩ := bnd1_some h
  refine g_callSv [.ref (q 41), .int 268435456] [] X hT hG ml_X5_26 (c_J7_fill_53178_41 hq ec2) rfl rfl hl.1 (Nat.le_of_ble_eq_true rfl) (by rw [hR]; exact ⟨Nat.le_of_ble_eq_true rfl, Nat.le_of_ble_eq_true rfl⟩) dX5_fillWith_3 (fun H locs hG => ?_)
  have hG : GH D cI cZ layB q s ([iReadings, iAlterations, iRankings, iLetters, iCurrent, iDue, iSize, iLsize], [], [gCosts, gWorths, gMiddles, gApart, gApartWithout, gNeeded, gUps, gDowns, gKeys, gNexts, gShutKeys, aCodes, aPbegins, aPends, aPlengths, aBegins, aEnds, aLengths, aRanks, aRoadsByRank, aRow, aRanksBefore, aBusy, aOpen_1, aShut]) H locs := hG
  refine lv_iconst (v := 0) hx hb dX5_fillWith_6 (by decide) ?_
  refine lv_istore (lv' := [(4, .int 0), (0, .ref (q 41)), (1, .ref (q 24)), (2, .ref (q 8)), (3, .int p1)]) hx hb dX5_fillWith_7 hl (by decide) rfl (fun ls hl => ?_)
  obtain ⟨aOpen_5, eL6, h⟩ := bnd1_some h
  have JX6 : ∀ (H : Heap) (locs : List Loc) (ls : Array Slot), GH D cI cZ layB q s ([iReadings, iAlterations, iRankings, iLetters, iCurrent, iDue, iSize, iLsize], [], [gCosts, gWorths, gMiddles, gApart, gApartWithout, gNeeded, gUps, gDowns, gKeys, gNexts, gShutKeys, aCodes, aPbegins, aPends, aPlengths, aBegins, aEnds, aLengths, aRanks, aRoadsByRank, aRow, aRanksBefore, aBusy, aOpen_5, aShut]) H locs → lv_has ls 8 [] → W p l e R s m args below meth c H locs 0 0 Q (F0 m 132 ls []) := by
    intro H locs ls hG hl
    cases h
    rw [hQ]
    exact g_vret X hT hG hr hlk dX5_fillWith_132
  refine lpG_W (Wh := fun z => ∀ (H : Heap) (locs : List Loc) (ls : Array Slot), GH D cI cZ layB q s ([iReadings, iAlterations, iRankings, iLetters, iCurrent, iDue, iSize, iLsize], [], [gCosts, gWorths, gMiddles, gApart, gApartWithout, gNeeded, gUps, gDowns, gKeys, gNexts, gShutKeys, aCodes, aPbegins, aPends, aPlengths, aBegins, aEnds, aLengths, aRanks, aRoadsByRank, aRow, aRanksBefore, aBusy, z.2, aShut]) H locs → lv_has ls 8 [(0, .ref (q 41)), (1, .ref (q 24)), (2, .ref (q 8)), (3, .int p1), (4, .int (z.1))] → W p l e R s m args below meth c H locs 0 0 Q (F0 m 9 ls [])) ?_ fu _ eL6 H locs ls hG (lv_sub hl [1, 2, 3, 4, 0] rfl)
  intro z rr6 hb6 hin6 hout6
  obtain ⟨x4_3, aOpen_4⟩ := z
  intro H locs ls hG hl
  have hb6 : f5_fillWith_b1 fu iSize gKeys aBegins aEnds p1 aLengths x4_3 aOpen_4 = some rr6 := hb6
  have hG : GH D cI cZ layB q s ([iReadings, iAlterations, iRankings, iLetters, iCurrent, iDue, iSize, iLsize], [], [gCosts, gWorths, gMiddles, gApart, gApartWithout, gNeeded, gUps, gDowns, gKeys, gNexts, gShutKeys, aCodes, aPbegins, aPends, aPlengths, aBegins, aEnds, aLengths, aRanks, aRoadsByRank, aRow, aRanksBefore, aBusy, aOpen_4, aShut]) H locs := hG
  have hl : lv_has ls 8 [(0, .ref (q 41)), (1, .ref (q 24)), (2, .ref (q 8)), (3, .int p1), (4, .int x4_3)] := hl
  unfold f5_fillWith_b1 at hb6
  refine lv_iload hx hb dX5_fillWith_9 (lv_at hl 4 rfl) ?_
  refine lv_aload_n hx hb dX5_fillWith_11 rfl (lv_at hl 1 rfl) ?_
  refine g_get (v := .int iSize) X hT hG fl_X5_36 24 rfl rfl rfl dX5_fillWith_12 ?_
  refine lv_icmp_ge (tgt := 132) hx hb dX5_fillWith_15 (by decide) (fun cb7 => ?_) (fun cb7 => ?_)
  · have hb6 := ite_t cb7 hb6
    have eo := hout6 _ (Option.some.inj hb6).symm
    cases eo
    exact JX6 H locs ls hG (lv_sub hl [] rfl)
  · have hb6 := ite_f cb7 hb6
    refine lv_iconst (v := 0) hx hb dX5_fillWith_18 (by decide) ?_
    refine lv_istore (lv' := [(5, .int 0), (0, .ref (q 41)), (1, .ref (q 24)), (2, .ref (q 8)), (3, .int p1), (4, .int x4_3)]) hx hb dX5_fillWith_19 hl (by decide) rfl (fun ls hl => ?_)
    obtain ⟨aOpen_10, eL11, hb6⟩ := bnd1_some hb6
    have JX11 : ∀ (H : Heap) (locs : List Loc) (ls : Array Slot), GH D cI cZ layB q s ([iReadings, iAlterations, iRankings, iLetters, iCurrent, iDue, iSize, iLsize], [], [gCosts, gWorths, gMiddles, gApart, gApartWithout, gNeeded, gUps, gDowns, gKeys, gNexts, gShutKeys, aCodes, aPbegins, aPends, aPlengths, aBegins, aEnds, aLengths, aRanks, aRoadsByRank, aRow, aRanksBefore, aBusy, aOpen_10, aShut]) H locs → lv_has ls 8 [(0, .ref (q 41)), (1, .ref (q 24)), (2, .ref (q 8)), (3, .int p1), (4, .int x4_3)] → W p l e R s m args below meth c H locs 0 0 Q (F0 m 126 ls []) := by
      intro H locs ls hG hl
      obtain ⟨x4_31, ex4_31⟩ : ∃ z : Int32, z = x4_3 + 1 := ⟨_, rfl⟩
      have hb6 := bd_e ex4_31 hb6
      refine lv_iinc (v := x4_31) (lv' := [(4, .int x4_31), (0, .ref (q 41)), (1, .ref (q 24)), (2, .ref (q 8)), (3, .int p1)]) hx hb dX5_fillWith_126 hl (k := 4) rfl (by rw [ex4_31]; rfl) (by decide) rfl (fun ls hl => ?_)
      refine lv_goto (tgt := 9) hx hb dX5_fillWith_129 (by decide) ?_
      exact hin6 _ (Option.some.inj hb6).symm H locs ls hG (lv_sub hl [1, 2, 3, 4, 0] rfl)
    refine lpG_W (Wh := fun z => ∀ (H : Heap) (locs : List Loc) (ls : Array Slot), GH D cI cZ layB q s ([iReadings, iAlterations, iRankings, iLetters, iCurrent, iDue, iSize, iLsize], [], [gCosts, gWorths, gMiddles, gApart, gApartWithout, gNeeded, gUps, gDowns, gKeys, gNexts, gShutKeys, aCodes, aPbegins, aPends, aPlengths, aBegins, aEnds, aLengths, aRanks, aRoadsByRank, aRow, aRanksBefore, aBusy, z.2, aShut]) H locs → lv_has ls 8 [(0, .ref (q 41)), (1, .ref (q 24)), (2, .ref (q 8)), (3, .int p1), (4, .int x4_3), (5, .int (z.1))] → W p l e R s m args below meth c H locs 0 0 Q (F0 m 21 ls [])) ?_ fu _ eL11 H locs ls hG (lv_sub hl [1, 2, 3, 4, 5, 0] rfl)
    intro z rr11 hb11 hin11 hout11
    obtain ⟨x5_8, aOpen_9⟩ := z
    intro H locs ls hG hl
    have hb11 : f5_fillWith_b2 iSize x4_3 gKeys aBegins aEnds p1 aLengths x5_8 aOpen_9 = some rr11 := hb11
    have hG : GH D cI cZ layB q s ([iReadings, iAlterations, iRankings, iLetters, iCurrent, iDue, iSize, iLsize], [], [gCosts, gWorths, gMiddles, gApart, gApartWithout, gNeeded, gUps, gDowns, gKeys, gNexts, gShutKeys, aCodes, aPbegins, aPends, aPlengths, aBegins, aEnds, aLengths, aRanks, aRoadsByRank, aRow, aRanksBefore, aBusy, aOpen_9, aShut]) H locs := hG
    have hl : lv_has ls 8 [(0, .ref (q 41)), (1, .ref (q 24)), (2, .ref (q 8)), (3, .int p1), (4, .int x4_3), (5, .int x5_8)] := hl
    unfold f5_fillWith_b2 at hb11
    refine lv_iload hx hb dX5_fillWith_21 (lv_at hl 5 rfl) ?_
    refine lv_aload_n hx hb dX5_fillWith_23 rfl (lv_at hl 1 rfl) ?_
    refine g_get (v := .int iSize) X hT hG fl_X5_36 24 rfl rfl rfl dX5_fillWith_24 ?_
    refine lv_icmp_ge (tgt := 126) hx hb dX5_fillWith_27 (by decide) (fun cb12 => ?_) (fun cb12 => ?_)
    · have hb11 := ite_t cb12 hb11
      have eo := hout11 _ (Option.some.inj hb11).symm
      cases eo
      exact JX11 H locs ls hG (lv_sub hl [0, 1, 2, 3, 4] rfl)
    · have hb11 := ite_f cb12 hb11
      refine lv_aload_n hx hb dX5_fillWith_30 rfl (lv_at hl 2 rfl) ?_
      refine lv_iload hx hb dX5_fillWith_31 (lv_at hl 4 rfl) ?_
      refine lv_iload hx hb dX5_fillWith_33 (lv_at hl 5 rfl) ?_
      obtain ⟨r_13, ec14, hb11⟩ := bnd1_some hb11
      refine g_callVr [.int x4_3, .int x5_8] [] 8 X hT hG ml_X5_42 (c_X1_get_8 hq ec14) rfl rfl rfl rfl rfl hl.1 (Nat.le_of_ble_eq_true rfl) (by rw [hR]; exact ⟨Nat.le_of_ble_eq_true rfl, Nat.le_of_ble_eq_true rfl⟩) dX5_fillWith_35 (fun H locs hG => ?_)
      refine lv_istore (lv' := [(6, .int r_13), (0, .ref (q 41)), (1, .ref (q 24)), (2, .ref (q 8)), (3, .int p1), (4, .int x4_3), (5, .int x5_8)]) hx hb dX5_fillWith_38 hl (by decide) rfl (fun ls hl => ?_)
      refine lv_aload_n hx hb dX5_fillWith_40 rfl (lv_at hl 2 rfl) ?_
      refine g_get (v := .ref (q 33)) X hT hG fl_X5_46 24 rfl rfl rfl dX5_fillWith_41 ?_
      refine lv_iload hx hb dX5_fillWith_44 (lv_at hl 5 rfl) ?_
      obtain ⟨hi15, hb11⟩ := ckin_some hb11
      refine g_ald (f := aBegins) X hT hG 33 rfl rfl hi15 dX5_fillWith_46 ?_
      refine lv_bipush (v := 8) hx hb dX5_fillWith_47 (by decide) ?_
      refine lv_imul hx hb dX5_fillWith_49 ?_
      refine lv_aload_n hx hb dX5_fillWith_50 rfl (lv_at hl 2 rfl) ?_
      refine g_get (v := .ref (q 34)) X hT hG fl_X5_49 24 rfl rfl rfl dX5_fillWith_51 ?_
      refine lv_iload hx hb dX5_fillWith_54 (lv_at hl 6 rfl) ?_
      obtain ⟨hi16, hb11⟩ := ckin_some hb11
      refine g_ald (f := aEnds) X hT hG 34 rfl rfl hi16 dX5_fillWith_56 ?_
      refine lv_iadd hx hb dX5_fillWith_57 ?_
      refine lv_topi (fun x7_17 ex7_17 => ?_)
      have hb11 := bd_e ex7_17 hb11
      refine lv_istore (lv' := [(7, .int x7_17), (6, .int r_13), (0, .ref (q 41)), (1, .ref (q 24)), (2, .ref (q 8)), (3, .int p1), (4, .int x4_3), (5, .int x5_8)]) hx hb dX5_fillWith_58 hl (by decide) rfl (fun ls hl => ?_)
      refine lv_iload hx hb dX5_fillWith_60 (lv_at hl 1 rfl) ?_
      refine lv_ldc (v := 268435456) hx hb X.2.2.2.1 (X.2.2.2.2 _ cn_X5_25) dX5_fillWith_62 ?_
      obtain ⟨aOpen_18, er19, hb11⟩ := bnd1_some hb11
      have J19 : ∀ (H : Heap) (locs : List Loc) (ls : Array Slot), GH D cI cZ layB q s ([iReadings, iAlterations, iRankings, iLetters, iCurrent, iDue, iSize, iLsize], [], [gCosts, gWorths, gMiddles, gApart, gApartWithout, gNeeded, gUps, gDowns, gKeys, gNexts, gShutKeys, aCodes, aPbegins, aPends, aPlengths, aBegins, aEnds, aLengths, aRanks, aRoadsByRank, aRow, aRanksBefore, aBusy, aOpen_18, aShut]) H locs → lv_has ls 8 [(0, .ref (q 41)), (1, .ref (q 24)), (2, .ref (q 8)), (3, .int p1), (4, .int x4_3), (5, .int x5_8)] → W p l e R s m args below meth c H locs 0 0 Q (F0 m 120 ls []) := by
        intro H locs ls hG hl
        obtain ⟨x5_30, ex5_30⟩ : ∃ z : Int32, z = x5_8 + 1 := ⟨_, rfl⟩
        have hb11 := bd_e ex5_30 hb11
        refine lv_iinc (v := x5_30) (lv' := [(5, .int x5_30), (0, .ref (q 41)), (1, .ref (q 24)), (2, .ref (q 8)), (3, .int p1), (4, .int x4_3)]) hx hb dX5_fillWith_120 hl (k := 5) rfl (by rw [ex5_30]; rfl) (by decide) rfl (fun ls hl => ?_)
        refine lv_goto (tgt := 21) hx hb dX5_fillWith_123 (by decide) ?_
        exact hin11 _ (Option.some.inj hb11).symm H locs ls hG (lv_sub hl [1, 2, 3, 4, 5, 0] rfl)
      refine lv_icmp_ge (tgt := 120) hx hb dX5_fillWith_64 (by decide) (fun cb20 => ?_) (fun cb20 => ?_)
      · have er19 := ite_t cb20 er19
        cases er19
        exact J19 H locs ls hG (lv_sub hl [2, 3, 4, 5, 6, 7] rfl)
      · have er19 := ite_f cb20 er19
        refine lv_iload hx hb dX5_fillWith_67 (lv_at hl 6 rfl) ?_
        refine lv_iload_n hx hb dX5_fillWith_69 rfl (lv_at hl 5 rfl) ?_
        refine lv_icmp_eq (tgt := 120) hx hb dX5_fillWith_70 (by decide) (fun cb21 => ?_) (fun cb21 => ?_)
        · have er19 := ite_t cb21 er19
          cases er19
          exact J19 H locs ls hG (lv_sub hl [2, 3, 4, 5, 6, 7] rfl)
        · have er19 := ite_f cb21 er19
          refine lv_iload hx hb dX5_fillWith_73 (lv_at hl 7 rfl) ?_
          refine lv_iload_n hx hb dX5_fillWith_75 rfl (lv_at hl 5 rfl) ?_
          refine lv_icmp_eq (tgt := 120) hx hb dX5_fillWith_76 (by decide) (fun cb22 => ?_) (fun cb22 => ?_)
          · have er19 := ite_t cb22 er19
            cases er19
            exact J19 H locs ls hG (lv_sub hl [2, 3, 4, 5, 6, 7] rfl)
          · have er19 := ite_f cb22 er19
            refine lv_aload_n hx hb dX5_fillWith_79 rfl (lv_at hl 3 rfl) ?_
            refine g_get (v := .ref (q 33)) X hT hG fl_X5_46 24 rfl rfl rfl dX5_fillWith_80 ?_
            refine lv_iload hx hb dX5_fillWith_83 (lv_at hl 6 rfl) ?_
            obtain ⟨hi23, er19⟩ := ckin_some er19
            refine g_ald (f := aBegins) X hT hG 33 rfl rfl hi23 dX5_fillWith_85 ?_
            refine lv_aload_n hx hb dX5_fillWith_86 rfl (lv_at hl 3 rfl) ?_
            refine g_get (v := .ref (q 34)) X hT hG fl_X5_49 24 rfl rfl rfl dX5_fillWith_87 ?_
            refine lv_iload hx hb dX5_fillWith_90 (lv_at hl 7 rfl) ?_
            obtain ⟨hi24, er19⟩ := ckin_some er19
            refine g_ald (f := aEnds) X hT hG 34 rfl rfl hi24 dX5_fillWith_92 ?_
            refine lv_icmp_eq (tgt := 120) hx hb dX5_fillWith_93 (by decide) (fun cb25 => ?_) (fun cb25 => ?_)
            · have er19 := ite_t cb25 er19
              cases er19
              exact J19 H locs ls hG (lv_sub hl [2, 3, 4, 5, 6, 7] rfl)
            · have er19 := ite_f cb25 er19
              refine lv_aload_n hx hb dX5_fillWith_96 rfl (lv_at hl 2 rfl) ?_
              refine lv_iload hx hb dX5_fillWith_97 (lv_at hl 0 rfl) ?_
              refine lv_aload_n hx hb dX5_fillWith_99 rfl (lv_at hl 2 rfl) ?_
              refine lv_iload hx hb dX5_fillWith_100 (lv_at hl 0 rfl) ?_
              obtain ⟨hi26, er19⟩ := ckin_some er19
              refine g_ald (f := aOpen_9) X hT hG 41 rfl rfl hi26 dX5_fillWith_102 ?_
              refine lv_aload_n hx hb dX5_fillWith_103 rfl (lv_at hl 3 rfl) ?_
              refine g_get (v := .ref (q 35)) X hT hG fl_X5_52 24 rfl rfl rfl dX5_fillWith_104 ?_
              refine lv_iload hx hb dX5_fillWith_107 (lv_at hl 6 rfl) ?_
              obtain ⟨hi27, er19⟩ := ckin_some er19
              refine g_ald (f := aLengths) X hT hG 35 rfl rfl hi27 dX5_fillWith_109 ?_
              refine lv_iload hx hb dX5_fillWith_110 (lv_at hl 1 rfl) ?_
              refine lv_bipush (v := 64) hx hb dX5_fillWith_112 (by decide) ?_
              refine lv_idiv hx hb dX5_fillWith_114 (by decide) ?_
              refine lv_iadd hx hb dX5_fillWith_115 ?_
              refine g_mmin X mm_X5_55 hl.1 (by rw [hR]; exact Nat.le_of_ble_eq_true rfl) (by rw [hR]; exact Nat.le_of_ble_eq_true rfl) dX5_fillWith_116 ?_
              obtain ⟨hi28, er19⟩ := ckin_some er19
              obtain ⟨aOpen_29, eaOpen_29⟩ : ∃ z : Nat → Int32, z = upd aOpen_9 x7_17.toNatClampNeg (if ((aLengths x4_3.toNatClampNeg) + (r_13 / 64)) < (aOpen_9 x7_17.toNatClampNeg) then ((aLengths x4_3.toNatClampNeg) + (r_13 / 64)) else (aOpen_9 x7_17.toNatClampNeg)) := ⟨_, rfl⟩
              have er19 := bd_e eaOpen_29 er19
              refine g_ast (w' := ([iReadings, iAlterations, iRankings, iLetters, iCurrent, iDue, iSize, iLsize], [], [gCosts, gWorths, gMiddles, gApart, gApartWithout, gNeeded, gUps, gDowns, gKeys, gNexts, gShutKeys, aCodes, aPbegins, aPends, aPlengths, aBegins, aEnds, aLengths, aRanks, aRoadsByRank, aRow, aRanksBefore, aBusy, aOpen_29, aShut])) X hT hq hG 41 rfl ga_B_aOpen (Nat.le_of_ble_eq_true rfl) hi28 (by subst eaOpen_29; rfl) dX5_fillWith_119 (fun H locs hG => ?_)
              cases er19
              exact J19 H locs ls hG (lv_sub hl [2, 3, 4, 5, 6, 7] rfl)
def f5_measure (fu : Nat) (aOpen : (Nat → Int32)) (iSize : Int32) (gKeys : (Nat → Int32)) (aBegins : (Nat → Int32)) (aEnds : (Nat → Int32)) (aLengths : (Nat → Int32)) : Option ((Nat → Int32)) :=
  bnd1 (f5_fillWith fu aOpen iSize gKeys aBegins aEnds (-1) aLengths) fun (aOpen_1 : (Nat → Int32)) => some aOpen_1
set_option maxHeartbeats 4000000 in
set_option maxRecDepth 100000 in
theorem c_X5_measure_28_24_8 (hq : gJ layB q) {fu : Nat} {o_aOpen : (Nat → Int32)} (h : f5_measure fu aOpen iSize gKeys aBegins aEnds aLengths = some o_aOpen) :
    GM l yX5_measure cX5_measure 3 none 2 50 D cI cZ layB q [.ref (q 28), .ref (q 24), .ref (q 8)] ([iReadings, iAlterations, iRankings, iLetters, iCurrent, iDue, iSize, iLsize], [], [gCosts, gWorths, gMiddles, gApart, gApartWithout, gNeeded, gUps, gDowns, gKeys, gNexts, gShutKeys, aCodes, aPbegins, aPends, aPlengths, aBegins, aEnds, aLengths, aRanks, aRoadsByRank, aRow, aRanksBefore, aBusy, aOpen, aShut]) none ([iReadings, iAlterations, iRankings, iLetters, iCurrent, iDue, iSize, iLsize], [], [gCosts, gWorths, gMiddles, gApart, gApartWithout, gNeeded, gUps, gDowns, gKeys, gNexts, gShutKeys, aCodes, aPbegins, aPends, aPlengths, aBegins, aEnds, aLengths, aRanks, aRoadsByRank, aRow, aRanksBefore, aBusy, o_aOpen, aShut]) := by
  refine GM.go RX5 (by decide) rfl (Nat.le_of_ble_eq_true rfl) ?_
  intro p e s m args below meth c ls R Q H locs X hr hlk hT hG hl hR hQ
  have hx := X.1
  have hb := X.2.1
  have hl : lv_has ls 3 [(0, .ref (q 28)), (1, .ref (q 24)), (2, .ref (q 8))] := hl
  unfold f5_measure at h
  refine lv_aload_n hx hb dX5_measure_0 rfl (lv_at hl 0 rfl) ?_
  refine g_get (v := .ref (q 41)) X hT hG fl_X5_9 28 rfl rfl rfl dX5_measure_1 ?_
  refine lv_aload_n hx hb dX5_measure_4 rfl (lv_at hl 1 rfl) ?_
  refine lv_aload_n hx hb dX5_measure_5 rfl (lv_at hl 2 rfl) ?_
  refine lv_iconst (v := (-1)) hx hb dX5_measure_6 (by decide) ?_
  obtain ⟨aOpen_1, ec2, h⟩ := bnd1_some h
  refine g_callSv [.ref (q 41), .ref (q 24), .ref (q 8), .int (-1)] [] X hT hG ml_X5_32 (c_X5_fillWith_41_24_8 hq ec2) rfl rfl hl.1 (Nat.le_of_ble_eq_true rfl) (by rw [hR]; exact ⟨Nat.le_of_ble_eq_true rfl, Nat.le_of_ble_eq_true rfl⟩) dX5_measure_7 (fun H locs hG => ?_)
  have hG : GH D cI cZ layB q s ([iReadings, iAlterations, iRankings, iLetters, iCurrent, iDue, iSize, iLsize], [], [gCosts, gWorths, gMiddles, gApart, gApartWithout, gNeeded, gUps, gDowns, gKeys, gNexts, gShutKeys, aCodes, aPbegins, aPends, aPlengths, aBegins, aEnds, aLengths, aRanks, aRoadsByRank, aRow, aRanksBefore, aBusy, aOpen_1, aShut]) H locs := hG
  cases h
  rw [hQ]
  exact g_vret X hT hG hr hlk dX5_measure_10
def f7_measureAll (fu : Nat) (iLsize : Int32) (gWorths : (Nat → Int32)) (aRanks : (Nat → Int32)) (gUps : (Nat → Int32)) (gDowns : (Nat → Int32)) (iSize : Int32) (gCosts : (Nat → Int32)) (aLengths : (Nat → Int32)) (gKeys : (Nat → Int32)) (gNexts : (Nat → Int32)) (aBusy : (Nat → Int32)) (aOpen : (Nat → Int32)) (aBegins : (Nat → Int32)) (aEnds : (Nat → Int32)) : Option ((Nat → Int32) × (Nat → Int32) × (Nat → Int32) × (Nat → Int32) × (Nat → Int32) × (Nat → Int32)) :=
  bnd2 (f0_measure fu iLsize gWorths aRanks gUps gDowns) fun (gUps_1 : (Nat → Int32)) (gDowns_2 : (Nat → Int32)) => bnd3 (f6_measure fu iSize gCosts aLengths gKeys gNexts aBusy) fun (gKeys_4 : (Nat → Int32)) (gNexts_5 : (Nat → Int32)) (aBusy_6 : (Nat → Int32)) => bnd1 (f5_measure fu aOpen iSize gKeys_4 aBegins aEnds aLengths) fun (aOpen_8 : (Nat → Int32)) => some (gUps_1, gDowns_2, gKeys_4, gNexts_5, aBusy_6, aOpen_8)
set_option maxHeartbeats 4000000 in
set_option maxRecDepth 100000 in
theorem c_X7_measureAll (hq : gJ layB q) {fu : Nat} {o_gUps : (Nat → Int32)} {o_gDowns : (Nat → Int32)} {o_gKeys : (Nat → Int32)} {o_gNexts : (Nat → Int32)} {o_aBusy : (Nat → Int32)} {o_aOpen : (Nat → Int32)} (h : f7_measureAll fu iLsize gWorths aRanks gUps gDowns iSize gCosts aLengths gKeys gNexts aBusy aOpen aBegins aEnds = some (o_gUps, o_gDowns, o_gKeys, o_gNexts, o_aBusy, o_aOpen)) :
    GM l yX7_measureAll cX7_measureAll 1 none 5 115 D cI cZ layB q [.ref (q 22)] ([iReadings, iAlterations, iRankings, iLetters, iCurrent, iDue, iSize, iLsize], [], [gCosts, gWorths, gMiddles, gApart, gApartWithout, gNeeded, gUps, gDowns, gKeys, gNexts, gShutKeys, aCodes, aPbegins, aPends, aPlengths, aBegins, aEnds, aLengths, aRanks, aRoadsByRank, aRow, aRanksBefore, aBusy, aOpen, aShut]) none ([iReadings, iAlterations, iRankings, iLetters, iCurrent, iDue, iSize, iLsize], [], [gCosts, gWorths, gMiddles, gApart, gApartWithout, gNeeded, o_gUps, o_gDowns, o_gKeys, o_gNexts, gShutKeys, aCodes, aPbegins, aPends, aPlengths, aBegins, aEnds, aLengths, aRanks, aRoadsByRank, aRow, aRanksBefore, o_aBusy, o_aOpen, aShut]) := by
  refine GM.go RX7 (by decide) rfl (Nat.le_of_ble_eq_true rfl) ?_
  intro p e s m args below meth c ls R Q H locs X hr hlk hT hG hl hR hQ
  have hx := X.1
  have hb := X.2.1
  have hl : lv_has ls 1 [(0, .ref (q 22))] := hl
  unfold f7_measureAll at h
  refine lv_aload_n hx hb dX7_measureAll_0 rfl (lv_at hl 0 rfl) ?_
  refine g_get (v := .ref (q 26)) X hT hG fl_X7_33 22 rfl rfl rfl dX7_measureAll_1 ?_
  refine lv_aload_n hx hb dX7_measureAll_4 rfl (lv_at hl 0 rfl) ?_
  refine g_get (v := .ref (q 25)) X hT hG fl_X7_26 22 rfl rfl rfl dX7_measureAll_5 ?_
  obtain ⟨gUps_1, gDowns_2, ec3, h⟩ := bnd2_some h
  refine g_callVv [.ref (q 25)] [] 26 X hT hG ml_X7_131 (c_X0_measure_26_25 hq ec3) rfl rfl rfl rfl rfl hl.1 (Nat.le_of_ble_eq_true rfl) (by rw [hR]; exact ⟨Nat.le_of_ble_eq_true rfl, Nat.le_of_ble_eq_true rfl⟩) dX7_measureAll_8 (fun H locs hG => ?_)
  have hG : GH D cI cZ layB q s ([iReadings, iAlterations, iRankings, iLetters, iCurrent, iDue, iSize, iLsize], [], [gCosts, gWorths, gMiddles, gApart, gApartWithout, gNeeded, gUps_1, gDowns_2, gKeys, gNexts, gShutKeys, aCodes, aPbegins, aPends, aPlengths, aBegins, aEnds, aLengths, aRanks, aRoadsByRank, aRow, aRanksBefore, aBusy, aOpen, aShut]) H locs := hG
  refine lv_aload_n hx hb dX7_measureAll_11 rfl (lv_at hl 0 rfl) ?_
  refine g_get (v := .ref (q 27)) X hT hG fl_X7_40 22 rfl rfl rfl dX7_measureAll_12 ?_
  refine lv_aload_n hx hb dX7_measureAll_15 rfl (lv_at hl 0 rfl) ?_
  refine g_get (v := .ref (q 24)) X hT hG fl_X7_19 22 rfl rfl rfl dX7_measureAll_16 ?_
  obtain ⟨gKeys_4, gNexts_5, aBusy_6, ec7, h⟩ := bnd3_some h
  refine g_callVv [.ref (q 24)] [] 27 X hT hG ml_X7_135 (c_X6_measure_27_24 hq ec7) rfl rfl rfl rfl rfl hl.1 (Nat.le_of_ble_eq_true rfl) (by rw [hR]; exact ⟨Nat.le_of_ble_eq_true rfl, Nat.le_of_ble_eq_true rfl⟩) dX7_measureAll_19 (fun H locs hG => ?_)
  have hG : GH D cI cZ layB q s ([iReadings, iAlterations, iRankings, iLetters, iCurrent, iDue, iSize, iLsize], [], [gCosts, gWorths, gMiddles, gApart, gApartWithout, gNeeded, gUps_1, gDowns_2, gKeys_4, gNexts_5, gShutKeys, aCodes, aPbegins, aPends, aPlengths, aBegins, aEnds, aLengths, aRanks, aRoadsByRank, aRow, aRanksBefore, aBusy_6, aOpen, aShut]) H locs := hG
  refine lv_aload_n hx hb dX7_measureAll_22 rfl (lv_at hl 0 rfl) ?_
  refine g_get (v := .ref (q 28)) X hT hG fl_X7_47 22 rfl rfl rfl dX7_measureAll_23 ?_
  refine lv_aload_n hx hb dX7_measureAll_26 rfl (lv_at hl 0 rfl) ?_
  refine g_get (v := .ref (q 24)) X hT hG fl_X7_19 22 rfl rfl rfl dX7_measureAll_27 ?_
  refine lv_aload_n hx hb dX7_measureAll_30 rfl (lv_at hl 0 rfl) ?_
  refine g_get (v := .ref (q 27)) X hT hG fl_X7_40 22 rfl rfl rfl dX7_measureAll_31 ?_
  refine g_get (v := .ref (q 8)) X hT hG fl_X7_137 27 rfl rfl rfl dX7_measureAll_34 ?_
  obtain ⟨aOpen_8, ec9, h⟩ := bnd1_some h
  refine g_callVv [.ref (q 24), .ref (q 8)] [] 28 X hT hG ml_X7_140 (c_X5_measure_28_24_8 hq ec9) rfl rfl rfl rfl rfl hl.1 (Nat.le_of_ble_eq_true rfl) (by rw [hR]; exact ⟨Nat.le_of_ble_eq_true rfl, Nat.le_of_ble_eq_true rfl⟩) dX7_measureAll_37 (fun H locs hG => ?_)
  have hG : GH D cI cZ layB q s ([iReadings, iAlterations, iRankings, iLetters, iCurrent, iDue, iSize, iLsize], [], [gCosts, gWorths, gMiddles, gApart, gApartWithout, gNeeded, gUps_1, gDowns_2, gKeys_4, gNexts_5, gShutKeys, aCodes, aPbegins, aPends, aPlengths, aBegins, aEnds, aLengths, aRanks, aRoadsByRank, aRow, aRanksBefore, aBusy_6, aOpen_8, aShut]) H locs := hG
  cases h
  rw [hQ]
  exact g_vret X hT hG hr hlk dX7_measureAll_40
def f7_roads (fu : Nat) (iLetters : Int32) (aCodes : (Nat → Int32)) (aPbegins : (Nat → Int32)) (aPends : (Nat → Int32)) (aPlengths : (Nat → Int32)) (iReadings : Int32) (iSize : Int32) (iLsize : Int32) (gCosts : (Nat → Int32)) (gWorths : (Nat → Int32)) (gMiddles : (Nat → Int32)) (gApart : (Nat → Int32)) (gApartWithout : (Nat → Int32)) (gNeeded : (Nat → Int32)) (gUps : (Nat → Int32)) (gDowns : (Nat → Int32)) (gKeys : (Nat → Int32)) (gNexts : (Nat → Int32)) (aBegins : (Nat → Int32)) (aEnds : (Nat → Int32)) (aLengths : (Nat → Int32)) (aRanks : (Nat → Int32)) (aRoadsByRank : (Nat → Int32)) (aBusy : (Nat → Int32)) (aOpen : (Nat → Int32)) : Option (Int32 × Int32 × Int32 × Int32 × Int32 × Int32 × Int32 × (Nat → Int32) × (Nat → Int32) × (Nat → Int32) × (Nat → Int32) × (Nat → Int32) × (Nat → Int32) × (Nat → Int32) × (Nat → Int32) × (Nat → Int32) × (Nat → Int32) × (Nat → Int32) × (Nat → Int32) × (Nat → Int32) × (Nat → Int32) × (Nat → Int32) × (Nat → Int32) × (Nat → Int32) × (Nat → Int32) × (Nat → Int32) × (Nat → Int32)) :=
  bnd6 (f4_isWhole fu iLetters aCodes aPbegins aPends aPlengths) fun (r_1 : Int32) (iCurrent_2 : Int32) (iDue_3 : Int32) (aPbegins_4 : (Nat → Int32)) (aPends_5 : (Nat → Int32)) (aPlengths_6 : (Nat → Int32)) => if r_1 = 0 then (some ((-103), iReadings, iLetters, iCurrent_2, iDue_3, iSize, iLsize, gCosts, gWorths, gMiddles, gApart, gApartWithout, gNeeded, gUps, gDowns, gKeys, gNexts, aPbegins_4, aPends_5, aPlengths_6, aBegins, aEnds, aLengths, aRanks, aRoadsByRank, aBusy, aOpen)) else bnd5 (f3_take fu iCurrent_2 aPbegins_4 aBegins aPends_5 aEnds aPlengths_6 aLengths gCosts) fun (iSize_9 : Int32) (gCosts_10 : (Nat → Int32)) (aBegins_11 : (Nat → Int32)) (aEnds_12 : (Nat → Int32)) (aLengths_13 : (Nat → Int32)) => bd ((iReadings + 1)) fun iReadings_15 => bnd8 (f2_findOrder fu iSize_9 gCosts_10 aLengths_13 gWorths gMiddles aRanks gApart gApartWithout gNeeded aRoadsByRank) fun (iLsize_16 : Int32) (gWorths_17 : (Nat → Int32)) (gMiddles_18 : (Nat → Int32)) (gApart_19 : (Nat → Int32)) (gApartWithout_20 : (Nat → Int32)) (gNeeded_21 : (Nat → Int32)) (aRanks_22 : (Nat → Int32)) (aRoadsByRank_23 : (Nat → Int32)) => bnd6 (f7_measureAll fu iLsize_16 gWorths_17 aRanks_22 gUps gDowns iSize_9 gCosts_10 aLengths_13 gKeys gNexts aBusy aOpen aBegins_11 aEnds_12) fun (gUps_25 : (Nat → Int32)) (gDowns_26 : (Nat → Int32)) (gKeys_27 : (Nat → Int32)) (gNexts_28 : (Nat → Int32)) (aBusy_29 : (Nat → Int32)) (aOpen_30 : (Nat → Int32)) => some (iSize_9, iReadings_15, 0, iCurrent_2, iDue_3, iSize_9, iLsize_16, gCosts_10, gWorths_17, gMiddles_18, gApart_19, gApartWithout_20, gNeeded_21, gUps_25, gDowns_26, gKeys_27, gNexts_28, aPbegins_4, aPends_5, aPlengths_6, aBegins_11, aEnds_12, aLengths_13, aRanks_22, aRoadsByRank_23, aBusy_29, aOpen_30)
set_option maxHeartbeats 4000000 in
set_option maxRecDepth 100000 in
theorem c_X7_roads (hq : gJ layB q) {fu : Nat} {o_r : Int32} {o_iReadings : Int32} {o_iLetters : Int32} {o_iCurrent : Int32} {o_iDue : Int32} {o_iSize : Int32} {o_iLsize : Int32} {o_gCosts : (Nat → Int32)} {o_gWorths : (Nat → Int32)} {o_gMiddles : (Nat → Int32)} {o_gApart : (Nat → Int32)} {o_gApartWithout : (Nat → Int32)} {o_gNeeded : (Nat → Int32)} {o_gUps : (Nat → Int32)} {o_gDowns : (Nat → Int32)} {o_gKeys : (Nat → Int32)} {o_gNexts : (Nat → Int32)} {o_aPbegins : (Nat → Int32)} {o_aPends : (Nat → Int32)} {o_aPlengths : (Nat → Int32)} {o_aBegins : (Nat → Int32)} {o_aEnds : (Nat → Int32)} {o_aLengths : (Nat → Int32)} {o_aRanks : (Nat → Int32)} {o_aRoadsByRank : (Nat → Int32)} {o_aBusy : (Nat → Int32)} {o_aOpen : (Nat → Int32)} (h : f7_roads fu iLetters aCodes aPbegins aPends aPlengths iReadings iSize iLsize gCosts gWorths gMiddles gApart gApartWithout gNeeded gUps gDowns gKeys gNexts aBegins aEnds aLengths aRanks aRoadsByRank aBusy aOpen = some (o_r, o_iReadings, o_iLetters, o_iCurrent, o_iDue, o_iSize, o_iLsize, o_gCosts, o_gWorths, o_gMiddles, o_gApart, o_gApartWithout, o_gNeeded, o_gUps, o_gDowns, o_gKeys, o_gNexts, o_aPbegins, o_aPends, o_aPlengths, o_aBegins, o_aEnds, o_aLengths, o_aRanks, o_aRoadsByRank, o_aBusy, o_aOpen)) :
    GM l yX7_roads cX7_roads 1 (some .int) 6 148 D cI cZ layB q [.ref (q 22)] ([iReadings, iAlterations, iRankings, iLetters, iCurrent, iDue, iSize, iLsize], [], [gCosts, gWorths, gMiddles, gApart, gApartWithout, gNeeded, gUps, gDowns, gKeys, gNexts, gShutKeys, aCodes, aPbegins, aPends, aPlengths, aBegins, aEnds, aLengths, aRanks, aRoadsByRank, aRow, aRanksBefore, aBusy, aOpen, aShut]) (some (.int o_r)) ([o_iReadings, iAlterations, iRankings, o_iLetters, o_iCurrent, o_iDue, o_iSize, o_iLsize], [], [o_gCosts, o_gWorths, o_gMiddles, o_gApart, o_gApartWithout, o_gNeeded, o_gUps, o_gDowns, o_gKeys, o_gNexts, gShutKeys, aCodes, o_aPbegins, o_aPends, o_aPlengths, o_aBegins, o_aEnds, o_aLengths, o_aRanks, o_aRoadsByRank, aRow, aRanksBefore, o_aBusy, o_aOpen, aShut]) := by
  refine GM.go RX7 (by decide) rfl (Nat.le_of_ble_eq_true rfl) ?_
  intro p e s m args below meth c ls R Q H locs X hr hlk hT hG hl hR hQ
  have hx := X.1
  have hb := X.2.1
  have hl : lv_has ls 1 [(0, .ref (q 22))] := hl
  unfold f7_roads at h
  refine lv_aload_n hx hb dX7_roads_0 rfl (lv_at hl 0 rfl) ?_
  refine g_get (v := .ref (q 23)) X hT hG fl_X7_10 22 rfl rfl rfl dX7_roads_1 ?_
  obtain ⟨r_1, iCurrent_2, iDue_3, aPbegins_4, aPends_5, aPlengths_6, ec7, h⟩ := bnd6_some h
  refine g_callVr [] [] 23 X hT hG ml_X7_63 (c_X4_isWhole hq ec7) rfl rfl rfl rfl rfl hl.1 (Nat.le_of_ble_eq_true rfl) (by rw [hR]; exact ⟨Nat.le_of_ble_eq_true rfl, Nat.le_of_ble_eq_true rfl⟩) dX7_roads_4 (fun H locs hG => ?_)
  have hG : GH D cI cZ layB q s ([iReadings, iAlterations, iRankings, iLetters, iCurrent_2, iDue_3, iSize, iLsize], [], [gCosts, gWorths, gMiddles, gApart, gApartWithout, gNeeded, gUps, gDowns, gKeys, gNexts, gShutKeys, aCodes, aPbegins_4, aPends_5, aPlengths_6, aBegins, aEnds, aLengths, aRanks, aRoadsByRank, aRow, aRanksBefore, aBusy, aOpen, aShut]) H locs := hG
  refine lv_if_ne (tgt := 13) hx hb dX7_roads_7 (by decide) (fun cb8 => ?_) (fun cb8 => ?_)
  · have h := ite_f cb8 h
    refine lv_aload_n hx hb dX7_roads_13 rfl (lv_at hl 0 rfl) ?_
    refine g_get (v := .ref (q 24)) X hT hG fl_X7_19 22 rfl rfl rfl dX7_roads_14 ?_
    refine lv_aload_n hx hb dX7_roads_17 rfl (lv_at hl 0 rfl) ?_
    refine g_get (v := .ref (q 23)) X hT hG fl_X7_10 22 rfl rfl rfl dX7_roads_18 ?_
    obtain ⟨iSize_9, gCosts_10, aBegins_11, aEnds_12, aLengths_13, ec14, h⟩ := bnd5_some h
    refine g_callVv [.ref (q 23)] [] 24 X hT hG ml_X7_67 (c_X3_take_24_23 hq ec14) rfl rfl rfl rfl rfl hl.1 (Nat.le_of_ble_eq_true rfl) (by rw [hR]; exact ⟨Nat.le_of_ble_eq_true rfl, Nat.le_of_ble_eq_true rfl⟩) dX7_roads_21 (fun H locs hG => ?_)
    have hG : GH D cI cZ layB q s ([iReadings, iAlterations, iRankings, iLetters, iCurrent_2, iDue_3, iSize_9, iLsize], [], [gCosts_10, gWorths, gMiddles, gApart, gApartWithout, gNeeded, gUps, gDowns, gKeys, gNexts, gShutKeys, aCodes, aPbegins_4, aPends_5, aPlengths_6, aBegins_11, aEnds_12, aLengths_13, aRanks, aRoadsByRank, aRow, aRanksBefore, aBusy, aOpen, aShut]) H locs := hG
    refine lv_aload_n hx hb dX7_roads_24 rfl (lv_at hl 0 rfl) ?_
    refine g_get (v := .ref (q 23)) X hT hG fl_X7_10 22 rfl rfl rfl dX7_roads_25 ?_
    refine lv_iconst (v := 0) hx hb dX7_roads_28 (by decide) ?_
    refine g_putI (w' := ([iReadings, iAlterations, iRankings, 0, iCurrent_2, iDue_3, iSize_9, iLsize], [], [gCosts_10, gWorths, gMiddles, gApart, gApartWithout, gNeeded, gUps, gDowns, gKeys, gNexts, gShutKeys, aCodes, aPbegins_4, aPends_5, aPlengths_6, aBegins_11, aEnds_12, aLengths_13, aRanks, aRoadsByRank, aRow, aRanksBefore, aBusy, aOpen, aShut])) X hT hq hG fp_X7_51 23 rfl rfl gu_B_iLetters (Nat.le_of_ble_eq_true rfl) rfl dX7_roads_29 (fun H locs hG => ?_)
    refine lv_aload_n hx hb dX7_roads_32 rfl (lv_at hl 0 rfl) ?_
    refine lv_dup hx hb dX7_roads_33 rfl ?_
    refine g_get (v := .int iReadings) X hT hG fl_X7_71 22 rfl rfl rfl dX7_roads_34 ?_
    refine lv_iconst (v := 1) hx hb dX7_roads_37 (by decide) ?_
    refine lv_iadd hx hb dX7_roads_38 ?_
    refine lv_topi (fun iReadings_15 eiReadings_15 => ?_)
    have h := bd_e eiReadings_15 h
    refine g_putI (w' := ([iReadings_15, iAlterations, iRankings, 0, iCurrent_2, iDue_3, iSize_9, iLsize], [], [gCosts_10, gWorths, gMiddles, gApart, gApartWithout, gNeeded, gUps, gDowns, gKeys, gNexts, gShutKeys, aCodes, aPbegins_4, aPends_5, aPlengths_6, aBegins_11, aEnds_12, aLengths_13, aRanks, aRoadsByRank, aRow, aRanksBefore, aBusy, aOpen, aShut])) X hT hq hG fp_X7_71 22 rfl rfl gu_B_iReadings (Nat.le_of_ble_eq_true rfl) rfl dX7_roads_39 (fun H locs hG => ?_)
    refine lv_aload_n hx hb dX7_roads_42 rfl (lv_at hl 0 rfl) ?_
    refine g_get (v := .ref (q 25)) X hT hG fl_X7_26 22 rfl rfl rfl dX7_roads_43 ?_
    refine lv_aload_n hx hb dX7_roads_46 rfl (lv_at hl 0 rfl) ?_
    refine g_get (v := .ref (q 24)) X hT hG fl_X7_19 22 rfl rfl rfl dX7_roads_47 ?_
    obtain ⟨iLsize_16, gWorths_17, gMiddles_18, gApart_19, gApartWithout_20, gNeeded_21, aRanks_22, aRoadsByRank_23, ec24, h⟩ := bnd8_some h
    refine g_callVv [.ref (q 24)] [] 25 X hT hG ml_X7_74 (c_X2_findOrder_25_24 hq ec24) rfl rfl rfl rfl rfl hl.1 (Nat.le_of_ble_eq_true rfl) (by rw [hR]; exact ⟨Nat.le_of_ble_eq_true rfl, Nat.le_of_ble_eq_true rfl⟩) dX7_roads_50 (fun H locs hG => ?_)
    have hG : GH D cI cZ layB q s ([iReadings_15, iAlterations, iRankings, 0, iCurrent_2, iDue_3, iSize_9, iLsize_16], [], [gCosts_10, gWorths_17, gMiddles_18, gApart_19, gApartWithout_20, gNeeded_21, gUps, gDowns, gKeys, gNexts, gShutKeys, aCodes, aPbegins_4, aPends_5, aPlengths_6, aBegins_11, aEnds_12, aLengths_13, aRanks_22, aRoadsByRank_23, aRow, aRanksBefore, aBusy, aOpen, aShut]) H locs := hG
    refine lv_aload_n hx hb dX7_roads_53 rfl (lv_at hl 0 rfl) ?_
    obtain ⟨gUps_25, gDowns_26, gKeys_27, gNexts_28, aBusy_29, aOpen_30, ec31, h⟩ := bnd6_some h
    refine g_callVv [] [] 22 X hT hG ml_X7_78 (c_X7_measureAll hq ec31) rfl rfl rfl rfl rfl hl.1 (Nat.le_of_ble_eq_true rfl) (by rw [hR]; exact ⟨Nat.le_of_ble_eq_true rfl, Nat.le_of_ble_eq_true rfl⟩) dX7_roads_54 (fun H locs hG => ?_)
    have hG : GH D cI cZ layB q s ([iReadings_15, iAlterations, iRankings, 0, iCurrent_2, iDue_3, iSize_9, iLsize_16], [], [gCosts_10, gWorths_17, gMiddles_18, gApart_19, gApartWithout_20, gNeeded_21, gUps_25, gDowns_26, gKeys_27, gNexts_28, gShutKeys, aCodes, aPbegins_4, aPends_5, aPlengths_6, aBegins_11, aEnds_12, aLengths_13, aRanks_22, aRoadsByRank_23, aRow, aRanksBefore, aBusy_29, aOpen_30, aShut]) H locs := hG
    refine lv_aload_n hx hb dX7_roads_57 rfl (lv_at hl 0 rfl) ?_
    refine g_get (v := .ref (q 24)) X hT hG fl_X7_19 22 rfl rfl rfl dX7_roads_58 ?_
    refine g_get (v := .int iSize_9) X hT hG fl_X7_81 24 rfl rfl rfl dX7_roads_61 ?_
    cases h
    rw [hQ]
    exact g_iret X hT hG hr hlk dX7_roads_64
  · have h := ite_t cb8 h
    refine lv_bipush (v := (-103)) hx hb dX7_roads_10 (by decide) ?_
    cases h
    rw [hQ]
    exact g_iret X hT hG hr hlk dX7_roads_12
def f3_has (p1 : Int32) (iSize : Int32) : Option (Int32) :=
  bnd1 (if p1 < 0 then (some 0) else if iSize ≤ p1 then (some 0) else some 1) fun (y_1 : Int32) => ckb y_1 (some y_1)
set_option maxHeartbeats 4000000 in
set_option maxRecDepth 100000 in
theorem c_X3_has (hq : gJ layB q) {p1 : Int32} {o_r : Int32} (h : f3_has p1 iSize = some o_r) :
    GM l yX3_has cX3_has 2 (some .boolean) 0 0 D cI cZ layB q [.ref (q 24), .int p1] ([iReadings, iAlterations, iRankings, iLetters, iCurrent, iDue, iSize, iLsize], [], [gCosts, gWorths, gMiddles, gApart, gApartWithout, gNeeded, gUps, gDowns, gKeys, gNexts, gShutKeys, aCodes, aPbegins, aPends, aPlengths, aBegins, aEnds, aLengths, aRanks, aRoadsByRank, aRow, aRanksBefore, aBusy, aOpen, aShut]) (some (.int o_r)) ([iReadings, iAlterations, iRankings, iLetters, iCurrent, iDue, iSize, iLsize], [], [gCosts, gWorths, gMiddles, gApart, gApartWithout, gNeeded, gUps, gDowns, gKeys, gNexts, gShutKeys, aCodes, aPbegins, aPends, aPlengths, aBegins, aEnds, aLengths, aRanks, aRoadsByRank, aRow, aRanksBefore, aBusy, aOpen, aShut]) := by
  refine GM.go RX3 (by decide) rfl (Nat.le_of_ble_eq_true rfl) ?_
  intro p e s m args below meth c ls R Q H locs X hr hlk hT hG hl hR hQ
  have hx := X.1
  have hb := X.2.1
  have hl : lv_has ls 2 [(0, .ref (q 24)), (1, .int p1)] := hl
  unfold f3_has at h
  refine lv_iload_n hx hb dX3_has_0 rfl (lv_at hl 1 rfl) ?_
  obtain ⟨y_1, er2, h⟩ := bnd1_some h
  have J2 : ∀ (H : Heap) (locs : List Loc) (ls : Array Slot), GH D cI cZ layB q s ([iReadings, iAlterations, iRankings, iLetters, iCurrent, iDue, iSize, iLsize], [], [gCosts, gWorths, gMiddles, gApart, gApartWithout, gNeeded, gUps, gDowns, gKeys, gNexts, gShutKeys, aCodes, aPbegins, aPends, aPlengths, aBegins, aEnds, aLengths, aRanks, aRoadsByRank, aRow, aRanksBefore, aBusy, aOpen, aShut]) H locs → lv_has ls 2 [] → W p l e R s m args below meth c H locs 0 0 Q (F0 m 17 ls [.int y_1]) := by
    intro H locs ls hG hl
    obtain ⟨hz, h⟩ := ckb_some h
    cases h
    rw [hQ]
    exact g_zret X hT hG hr hlk hz dX3_has_17
  refine lv_if_lt (tgt := 16) hx hb dX3_has_1 (by decide) (fun cb3 => ?_) (fun cb3 => ?_)
  · have er2 := ite_t cb3 er2
    refine lv_iconst (v := 0) hx hb dX3_has_16 (by decide) ?_
    cases er2
    exact J2 H locs ls hG (lv_sub hl [] rfl)
  · have er2 := ite_f cb3 er2
    refine lv_iload_n hx hb dX3_has_4 rfl (lv_at hl 1 rfl) ?_
    refine lv_aload_n hx hb dX3_has_5 rfl (lv_at hl 0 rfl) ?_
    refine g_get (v := .int iSize) X hT hG fl_X3_34 24 rfl rfl rfl dX3_has_6 ?_
    refine lv_icmp_ge (tgt := 16) hx hb dX3_has_9 (by decide) (fun cb4 => ?_) (fun cb4 => ?_)
    · have er2 := ite_t cb4 er2
      refine lv_iconst (v := 0) hx hb dX3_has_16 (by decide) ?_
      cases er2
      exact J2 H locs ls hG (lv_sub hl [] rfl)
    · have er2 := ite_f cb4 er2
      refine lv_iconst (v := 1) hx hb dX3_has_12 (by decide) ?_
      refine lv_goto (tgt := 17) hx hb dX3_has_13 (by decide) ?_
      cases er2
      exact J2 H locs ls hG (lv_sub hl [] rfl)
def f2_keepOrder_b1 (fu : Nat) (iLsize_1 : Int32) (x2_6 : Int32) (gWorths_7 : (Nat → Int32)) (gMiddles_8 : (Nat → Int32)) (gApart_9 : (Nat → Int32)) (gApartWithout_10 : (Nat → Int32)) (gNeeded_11 : (Nat → Int32)) (aRanks_12 : (Nat → Int32)) (aRoadsByRank_13 : (Nat → Int32)) : Option ((Int32 × (Nat → Int32) × (Nat → Int32) × (Nat → Int32) × (Nat → Int32) × (Nat → Int32) × (Nat → Int32) × (Nat → Int32)) ⊕ ((Nat → Int32) × (Nat → Int32) × (Nat → Int32) × (Nat → Int32) × (Nat → Int32) × (Nat → Int32) × (Nat → Int32))) :=
  if iLsize_1 ≤ x2_6 then (some (.inr (gWorths_7, gMiddles_8, gApart_9, gApartWithout_10, gNeeded_11, aRanks_12, aRoadsByRank_13))) else bnd1 (f2_measureFree fu iLsize_1 aRanks_12 (-1) gWorths_7 gApart_9) fun (gApart_23 : (Nat → Int32)) => ckin x2_6 12 (bnd6 (f2_giveRank fu iLsize_1 aRanks_12 (aRoadsByRank_13 x2_6.toNatClampNeg) gWorths_7 gApartWithout_10 gApart_23 gNeeded_11 gMiddles_8 x2_6 aRoadsByRank_13) fun (gWorths_26 : (Nat → Int32)) (gMiddles_27 : (Nat → Int32)) (gApartWithout_28 : (Nat → Int32)) (gNeeded_29 : (Nat → Int32)) (aRanks_30 : (Nat → Int32)) (aRoadsByRank_31 : (Nat → Int32)) => bd (x2_6 + 1) fun x2_33 => some (.inl (x2_33, gWorths_26, gMiddles_27, gApart_23, gApartWithout_28, gNeeded_29, aRanks_30, aRoadsByRank_31)))
def f2_keepOrder (fu : Nat) (iSize : Int32) (gCosts : (Nat → Int32)) (aLengths : (Nat → Int32)) (gWorths : (Nat → Int32)) (gMiddles : (Nat → Int32)) (aRanks : (Nat → Int32)) (gApart : (Nat → Int32)) (gApartWithout : (Nat → Int32)) (gNeeded : (Nat → Int32)) (aRoadsByRank : (Nat → Int32)) : Option (Int32 × (Nat → Int32) × (Nat → Int32) × (Nat → Int32) × (Nat → Int32) × (Nat → Int32) × (Nat → Int32) × (Nat → Int32)) :=
  bnd4 (f2_startAnew fu iSize gCosts aLengths gWorths gMiddles aRanks) fun (iLsize_1 : Int32) (gWorths_2 : (Nat → Int32)) (gMiddles_3 : (Nat → Int32)) (aRanks_4 : (Nat → Int32)) => bnd7 (lpG (fun z => f2_keepOrder_b1 fu iLsize_1 z.1 z.2.1 z.2.2.1 z.2.2.2.1 z.2.2.2.2.1 z.2.2.2.2.2.1 z.2.2.2.2.2.2.1 z.2.2.2.2.2.2.2) fu ((0 : Int32), gWorths_2, gMiddles_3, gApart, gApartWithout, gNeeded, aRanks_4, aRoadsByRank)) fun (gWorths_14 : (Nat → Int32)) (gMiddles_15 : (Nat → Int32)) (gApart_16 : (Nat → Int32)) (gApartWithout_17 : (Nat → Int32)) (gNeeded_18 : (Nat → Int32)) (aRanks_19 : (Nat → Int32)) (aRoadsByRank_20 : (Nat → Int32)) => some (iLsize_1, gWorths_14, gMiddles_15, gApart_16, gApartWithout_17, gNeeded_18, aRanks_19, aRoadsByRank_20)
set_option maxHeartbeats 4000000 in
set_option maxRecDepth 100000 in
theorem c_X2_keepOrder_25_24 (hq : gJ layB q) {fu : Nat} {o_iLsize : Int32} {o_gWorths : (Nat → Int32)} {o_gMiddles : (Nat → Int32)} {o_gApart : (Nat → Int32)} {o_gApartWithout : (Nat → Int32)} {o_gNeeded : (Nat → Int32)} {o_aRanks : (Nat → Int32)} {o_aRoadsByRank : (Nat → Int32)} (h : f2_keepOrder fu iSize gCosts aLengths gWorths gMiddles aRanks gApart gApartWithout gNeeded aRoadsByRank = some (o_iLsize, o_gWorths, o_gMiddles, o_gApart, o_gApartWithout, o_gNeeded, o_aRanks, o_aRoadsByRank)) :
    GM l yX2_keepOrder cX2_keepOrder 3 none 5 126 D cI cZ layB q [.ref (q 25), .ref (q 24)] ([iReadings, iAlterations, iRankings, iLetters, iCurrent, iDue, iSize, iLsize], [], [gCosts, gWorths, gMiddles, gApart, gApartWithout, gNeeded, gUps, gDowns, gKeys, gNexts, gShutKeys, aCodes, aPbegins, aPends, aPlengths, aBegins, aEnds, aLengths, aRanks, aRoadsByRank, aRow, aRanksBefore, aBusy, aOpen, aShut]) none ([iReadings, iAlterations, iRankings, iLetters, iCurrent, iDue, iSize, o_iLsize], [], [gCosts, o_gWorths, o_gMiddles, o_gApart, o_gApartWithout, o_gNeeded, gUps, gDowns, gKeys, gNexts, gShutKeys, aCodes, aPbegins, aPends, aPlengths, aBegins, aEnds, aLengths, o_aRanks, o_aRoadsByRank, aRow, aRanksBefore, aBusy, aOpen, aShut]) := by
  refine GM.go RX2 (by decide) rfl (Nat.le_of_ble_eq_true rfl) ?_
  intro p e s m args below meth c ls R Q H locs X hr hlk hT hG hl hR hQ
  have hx := X.1
  have hb := X.2.1
  have hl : lv_has ls 3 [(0, .ref (q 25)), (1, .ref (q 24))] := hl
  unfold f2_keepOrder at h
  refine lv_aload_n hx hb dX2_keepOrder_0 rfl (lv_at hl 0 rfl) ?_
  refine lv_aload_n hx hb dX2_keepOrder_1 rfl (lv_at hl 1 rfl) ?_
  obtain ⟨iLsize_1, gWorths_2, gMiddles_3, aRanks_4, ec5, h⟩ := bnd4_some h
  refine g_callVv [.ref (q 24)] [] 25 X hT hG ml_X2_43 (c_X2_startAnew_25_24 hq ec5) rfl rfl rfl rfl rfl hl.1 (Nat.le_of_ble_eq_true rfl) (by rw [hR]; exact ⟨Nat.le_of_ble_eq_true rfl, Nat.le_of_ble_eq_true rfl⟩) dX2_keepOrder_2 (fun H locs hG => ?_)
  have hG : GH D cI cZ layB q s ([iReadings, iAlterations, iRankings, iLetters, iCurrent, iDue, iSize, iLsize_1], [], [gCosts, gWorths_2, gMiddles_3, gApart, gApartWithout, gNeeded, gUps, gDowns, gKeys, gNexts, gShutKeys, aCodes, aPbegins, aPends, aPlengths, aBegins, aEnds, aLengths, aRanks_4, aRoadsByRank, aRow, aRanksBefore, aBusy, aOpen, aShut]) H locs := hG
  refine lv_iconst (v := 0) hx hb dX2_keepOrder_5 (by decide) ?_
  refine lv_istore_n (lv' := [(2, .int 0), (0, .ref (q 25)), (1, .ref (q 24))]) hx hb dX2_keepOrder_6 rfl hl (by decide) rfl (fun ls hl => ?_)
  obtain ⟨gWorths_14, gMiddles_15, gApart_16, gApartWithout_17, gNeeded_18, aRanks_19, aRoadsByRank_20, eL21, h⟩ := bnd7_some h
  have JX21 : ∀ (H : Heap) (locs : List Loc) (ls : Array Slot), GH D cI cZ layB q s ([iReadings, iAlterations, iRankings, iLetters, iCurrent, iDue, iSize, iLsize_1], [], [gCosts, gWorths_14, gMiddles_15, gApart_16, gApartWithout_17, gNeeded_18, gUps, gDowns, gKeys, gNexts, gShutKeys, aCodes, aPbegins, aPends, aPlengths, aBegins, aEnds, aLengths, aRanks_19, aRoadsByRank_20, aRow, aRanksBefore, aBusy, aOpen, aShut]) H locs → lv_has ls 3 [] → W p l e R s m args below meth c H locs 0 0 Q (F0 m 41 ls []) := by
    intro H locs ls hG hl
    cases h
    rw [hQ]
    exact g_vret X hT hG hr hlk dX2_keepOrder_41
  refine lpG_W (Wh := fun z => ∀ (H : Heap) (locs : List Loc) (ls : Array Slot), GH D cI cZ layB q s ([iReadings, iAlterations, iRankings, iLetters, iCurrent, iDue, iSize, iLsize_1], [], [gCosts, z.2.1, z.2.2.1, z.2.2.2.1, z.2.2.2.2.1, z.2.2.2.2.2.1, gUps, gDowns, gKeys, gNexts, gShutKeys, aCodes, aPbegins, aPends, aPlengths, aBegins, aEnds, aLengths, z.2.2.2.2.2.2.1, z.2.2.2.2.2.2.2, aRow, aRanksBefore, aBusy, aOpen, aShut]) H locs → lv_has ls 3 [(0, .ref (q 25)), (2, .int (z.1))] → W p l e R s m args below meth c H locs 0 0 Q (F0 m 7 ls [])) ?_ fu _ eL21 H locs ls hG (lv_sub hl [1, 0] rfl)
  intro z rr21 hb21 hin21 hout21
  obtain ⟨x2_6, gWorths_7, gMiddles_8, gApart_9, gApartWithout_10, gNeeded_11, aRanks_12, aRoadsByRank_13⟩ := z
  intro H locs ls hG hl
  have hb21 : f2_keepOrder_b1 fu iLsize_1 x2_6 gWorths_7 gMiddles_8 gApart_9 gApartWithout_10 gNeeded_11 aRanks_12 aRoadsByRank_13 = some rr21 := hb21
  have hG : GH D cI cZ layB q s ([iReadings, iAlterations, iRankings, iLetters, iCurrent, iDue, iSize, iLsize_1], [], [gCosts, gWorths_7, gMiddles_8, gApart_9, gApartWithout_10, gNeeded_11, gUps, gDowns, gKeys, gNexts, gShutKeys, aCodes, aPbegins, aPends, aPlengths, aBegins, aEnds, aLengths, aRanks_12, aRoadsByRank_13, aRow, aRanksBefore, aBusy, aOpen, aShut]) H locs := hG
  have hl : lv_has ls 3 [(0, .ref (q 25)), (2, .int x2_6)] := hl
  unfold f2_keepOrder_b1 at hb21
  refine lv_iload_n hx hb dX2_keepOrder_7 rfl (lv_at hl 1 rfl) ?_
  refine lv_aload_n hx hb dX2_keepOrder_8 rfl (lv_at hl 0 rfl) ?_
  refine g_get (v := .int iLsize_1) X hT hG fl_X2_47 25 rfl rfl rfl dX2_keepOrder_9 ?_
  refine lv_icmp_ge (tgt := 41) hx hb dX2_keepOrder_12 (by decide) (fun cb22 => ?_) (fun cb22 => ?_)
  · have hb21 := ite_t cb22 hb21
    have eo := hout21 _ (Option.some.inj hb21).symm
    cases eo
    exact JX21 H locs ls hG (lv_sub hl [] rfl)
  · have hb21 := ite_f cb22 hb21
    refine lv_aload_n hx hb dX2_keepOrder_15 rfl (lv_at hl 0 rfl) ?_
    refine lv_aload_n hx hb dX2_keepOrder_16 rfl (lv_at hl 0 rfl) ?_
    refine g_get (v := .ref (q 3)) X hT hG fl_X2_34 25 rfl rfl rfl dX2_keepOrder_17 ?_
    refine lv_iconst (v := (-1)) hx hb dX2_keepOrder_20 (by decide) ?_
    obtain ⟨gApart_23, ec24, hb21⟩ := bnd1_some hb21
    refine g_callVv [.ref (q 3), .int (-1)] [] 25 X hT hG ml_X2_51 (c_X2_measureFree_25_3 hq ec24) rfl rfl rfl rfl rfl hl.1 (Nat.le_of_ble_eq_true rfl) (by rw [hR]; exact ⟨Nat.le_of_ble_eq_true rfl, Nat.le_of_ble_eq_true rfl⟩) dX2_keepOrder_21 (fun H locs hG => ?_)
    have hG : GH D cI cZ layB q s ([iReadings, iAlterations, iRankings, iLetters, iCurrent, iDue, iSize, iLsize_1], [], [gCosts, gWorths_7, gMiddles_8, gApart_23, gApartWithout_10, gNeeded_11, gUps, gDowns, gKeys, gNexts, gShutKeys, aCodes, aPbegins, aPends, aPlengths, aBegins, aEnds, aLengths, aRanks_12, aRoadsByRank_13, aRow, aRanksBefore, aBusy, aOpen, aShut]) H locs := hG
    refine lv_aload_n hx hb dX2_keepOrder_24 rfl (lv_at hl 0 rfl) ?_
    refine lv_aload_n hx hb dX2_keepOrder_25 rfl (lv_at hl 0 rfl) ?_
    refine g_get (v := .ref (q 37)) X hT hG fl_X2_25 25 rfl rfl rfl dX2_keepOrder_26 ?_
    refine lv_iload_n hx hb dX2_keepOrder_29 rfl (lv_at hl 1 rfl) ?_
    obtain ⟨hi25, hb21⟩ := ckin_some hb21
    refine g_ald (f := aRoadsByRank_13) X hT hG 37 rfl rfl hi25 dX2_keepOrder_30 ?_
    refine lv_iload_n hx hb dX2_keepOrder_31 rfl (lv_at hl 1 rfl) ?_
    obtain ⟨gWorths_26, gMiddles_27, gApartWithout_28, gNeeded_29, aRanks_30, aRoadsByRank_31, ec32, hb21⟩ := bnd6_some hb21
    refine g_callVv [.int (aRoadsByRank_13 x2_6.toNatClampNeg), .int x2_6] [] 25 X hT hG ml_X2_59 (c_X2_giveRank hq ec32) rfl rfl rfl rfl rfl hl.1 (Nat.le_of_ble_eq_true rfl) (by rw [hR]; exact ⟨Nat.le_of_ble_eq_true rfl, Nat.le_of_ble_eq_true rfl⟩) dX2_keepOrder_32 (fun H locs hG => ?_)
    have hG : GH D cI cZ layB q s ([iReadings, iAlterations, iRankings, iLetters, iCurrent, iDue, iSize, iLsize_1], [], [gCosts, gWorths_26, gMiddles_27, gApart_23, gApartWithout_28, gNeeded_29, gUps, gDowns, gKeys, gNexts, gShutKeys, aCodes, aPbegins, aPends, aPlengths, aBegins, aEnds, aLengths, aRanks_30, aRoadsByRank_31, aRow, aRanksBefore, aBusy, aOpen, aShut]) H locs := hG
    obtain ⟨x2_33, ex2_33⟩ : ∃ z : Int32, z = x2_6 + 1 := ⟨_, rfl⟩
    have hb21 := bd_e ex2_33 hb21
    refine lv_iinc (v := x2_33) (lv' := [(2, .int x2_33), (0, .ref (q 25))]) hx hb dX2_keepOrder_35 hl (k := 1) rfl (by rw [ex2_33]; rfl) (by decide) rfl (fun ls hl => ?_)
    refine lv_goto (tgt := 7) hx hb dX2_keepOrder_38 (by decide) ?_
    exact hin21 _ (Option.some.inj hb21).symm H locs ls hG (lv_sub hl [1, 0] rfl)
def f7_makeAnew (fu : Nat) (iAlterations : Int32) (iSize : Int32) (gCosts : (Nat → Int32)) (aLengths : (Nat → Int32)) (gWorths : (Nat → Int32)) (gMiddles : (Nat → Int32)) (aRanks : (Nat → Int32)) (gApart : (Nat → Int32)) (gApartWithout : (Nat → Int32)) (gNeeded : (Nat → Int32)) (aRoadsByRank : (Nat → Int32)) (gUps : (Nat → Int32)) (gDowns : (Nat → Int32)) (gKeys : (Nat → Int32)) (gNexts : (Nat → Int32)) (aBusy : (Nat → Int32)) (aOpen : (Nat → Int32)) (aBegins : (Nat → Int32)) (aEnds : (Nat → Int32)) : Option (Int32 × Int32 × (Nat → Int32) × (Nat → Int32) × (Nat → Int32) × (Nat → Int32) × (Nat → Int32) × (Nat → Int32) × (Nat → Int32) × (Nat → Int32) × (Nat → Int32) × (Nat → Int32) × (Nat → Int32) × (Nat → Int32) × (Nat → Int32)) :=
  bd ((iAlterations + 1)) fun iAlterations_1 => bnd8 (f2_keepOrder fu iSize gCosts aLengths gWorths gMiddles aRanks gApart gApartWithout gNeeded aRoadsByRank) fun (iLsize_2 : Int32) (gWorths_3 : (Nat → Int32)) (gMiddles_4 : (Nat → Int32)) (gApart_5 : (Nat → Int32)) (gApartWithout_6 : (Nat → Int32)) (gNeeded_7 : (Nat → Int32)) (aRanks_8 : (Nat → Int32)) (aRoadsByRank_9 : (Nat → Int32)) => bnd6 (f7_measureAll fu iLsize_2 gWorths_3 aRanks_8 gUps gDowns iSize gCosts aLengths gKeys gNexts aBusy aOpen aBegins aEnds) fun (gUps_11 : (Nat → Int32)) (gDowns_12 : (Nat → Int32)) (gKeys_13 : (Nat → Int32)) (gNexts_14 : (Nat → Int32)) (aBusy_15 : (Nat → Int32)) (aOpen_16 : (Nat → Int32)) => some (iAlterations_1, iLsize_2, gWorths_3, gMiddles_4, gApart_5, gApartWithout_6, gNeeded_7, gUps_11, gDowns_12, gKeys_13, gNexts_14, aRanks_8, aRoadsByRank_9, aBusy_15, aOpen_16)
set_option maxHeartbeats 4000000 in
set_option maxRecDepth 100000 in
theorem c_X7_makeAnew (hq : gJ layB q) {fu : Nat} {o_iAlterations : Int32} {o_iLsize : Int32} {o_gWorths : (Nat → Int32)} {o_gMiddles : (Nat → Int32)} {o_gApart : (Nat → Int32)} {o_gApartWithout : (Nat → Int32)} {o_gNeeded : (Nat → Int32)} {o_gUps : (Nat → Int32)} {o_gDowns : (Nat → Int32)} {o_gKeys : (Nat → Int32)} {o_gNexts : (Nat → Int32)} {o_aRanks : (Nat → Int32)} {o_aRoadsByRank : (Nat → Int32)} {o_aBusy : (Nat → Int32)} {o_aOpen : (Nat → Int32)} (h : f7_makeAnew fu iAlterations iSize gCosts aLengths gWorths gMiddles aRanks gApart gApartWithout gNeeded aRoadsByRank gUps gDowns gKeys gNexts aBusy aOpen aBegins aEnds = some (o_iAlterations, o_iLsize, o_gWorths, o_gMiddles, o_gApart, o_gApartWithout, o_gNeeded, o_gUps, o_gDowns, o_gKeys, o_gNexts, o_aRanks, o_aRoadsByRank, o_aBusy, o_aOpen)) :
    GM l yX7_makeAnew cX7_makeAnew 1 none 6 148 D cI cZ layB q [.ref (q 22)] ([iReadings, iAlterations, iRankings, iLetters, iCurrent, iDue, iSize, iLsize], [], [gCosts, gWorths, gMiddles, gApart, gApartWithout, gNeeded, gUps, gDowns, gKeys, gNexts, gShutKeys, aCodes, aPbegins, aPends, aPlengths, aBegins, aEnds, aLengths, aRanks, aRoadsByRank, aRow, aRanksBefore, aBusy, aOpen, aShut]) none ([iReadings, o_iAlterations, iRankings, iLetters, iCurrent, iDue, iSize, o_iLsize], [], [gCosts, o_gWorths, o_gMiddles, o_gApart, o_gApartWithout, o_gNeeded, o_gUps, o_gDowns, o_gKeys, o_gNexts, gShutKeys, aCodes, aPbegins, aPends, aPlengths, aBegins, aEnds, aLengths, o_aRanks, o_aRoadsByRank, aRow, aRanksBefore, o_aBusy, o_aOpen, aShut]) := by
  refine GM.go RX7 (by decide) rfl (Nat.le_of_ble_eq_true rfl) ?_
  intro p e s m args below meth c ls R Q H locs X hr hlk hT hG hl hR hQ
  have hx := X.1
  have hb := X.2.1
  have hl : lv_has ls 1 [(0, .ref (q 22))] := hl
  unfold f7_makeAnew at h
  refine lv_aload_n hx hb dX7_makeAnew_0 rfl (lv_at hl 0 rfl) ?_
  refine lv_dup hx hb dX7_makeAnew_1 rfl ?_
  refine g_get (v := .int iAlterations) X hT hG fl_X7_125 22 rfl rfl rfl dX7_makeAnew_2 ?_
  refine lv_iconst (v := 1) hx hb dX7_makeAnew_5 (by decide) ?_
  refine lv_iadd hx hb dX7_makeAnew_6 ?_
  refine lv_topi (fun iAlterations_1 eiAlterations_1 => ?_)
  have h := bd_e eiAlterations_1 h
  refine g_putI (w' := ([iReadings, iAlterations_1, iRankings, iLetters, iCurrent, iDue, iSize, iLsize], [], [gCosts, gWorths, gMiddles, gApart, gApartWithout, gNeeded, gUps, gDowns, gKeys, gNexts, gShutKeys, aCodes, aPbegins, aPends, aPlengths, aBegins, aEnds, aLengths, aRanks, aRoadsByRank, aRow, aRanksBefore, aBusy, aOpen, aShut])) X hT hq hG fp_X7_125 22 rfl rfl gu_B_iAlterations (Nat.le_of_ble_eq_true rfl) rfl dX7_makeAnew_7 (fun H locs hG => ?_)
  refine lv_aload_n hx hb dX7_makeAnew_10 rfl (lv_at hl 0 rfl) ?_
  refine g_get (v := .ref (q 25)) X hT hG fl_X7_26 22 rfl rfl rfl dX7_makeAnew_11 ?_
  refine lv_aload_n hx hb dX7_makeAnew_14 rfl (lv_at hl 0 rfl) ?_
  refine g_get (v := .ref (q 24)) X hT hG fl_X7_19 22 rfl rfl rfl dX7_makeAnew_15 ?_
  obtain ⟨iLsize_2, gWorths_3, gMiddles_4, gApart_5, gApartWithout_6, gNeeded_7, aRanks_8, aRoadsByRank_9, ec10, h⟩ := bnd8_some h
  refine g_callVv [.ref (q 24)] [] 25 X hT hG ml_X7_128 (c_X2_keepOrder_25_24 hq ec10) rfl rfl rfl rfl rfl hl.1 (Nat.le_of_ble_eq_true rfl) (by rw [hR]; exact ⟨Nat.le_of_ble_eq_true rfl, Nat.le_of_ble_eq_true rfl⟩) dX7_makeAnew_18 (fun H locs hG => ?_)
  have hG : GH D cI cZ layB q s ([iReadings, iAlterations_1, iRankings, iLetters, iCurrent, iDue, iSize, iLsize_2], [], [gCosts, gWorths_3, gMiddles_4, gApart_5, gApartWithout_6, gNeeded_7, gUps, gDowns, gKeys, gNexts, gShutKeys, aCodes, aPbegins, aPends, aPlengths, aBegins, aEnds, aLengths, aRanks_8, aRoadsByRank_9, aRow, aRanksBefore, aBusy, aOpen, aShut]) H locs := hG
  refine lv_aload_n hx hb dX7_makeAnew_21 rfl (lv_at hl 0 rfl) ?_
  obtain ⟨gUps_11, gDowns_12, gKeys_13, gNexts_14, aBusy_15, aOpen_16, ec17, h⟩ := bnd6_some h
  refine g_callVv [] [] 22 X hT hG ml_X7_78 (c_X7_measureAll hq ec17) rfl rfl rfl rfl rfl hl.1 (Nat.le_of_ble_eq_true rfl) (by rw [hR]; exact ⟨Nat.le_of_ble_eq_true rfl, Nat.le_of_ble_eq_true rfl⟩) dX7_makeAnew_22 (fun H locs hG => ?_)
  have hG : GH D cI cZ layB q s ([iReadings, iAlterations_1, iRankings, iLetters, iCurrent, iDue, iSize, iLsize_2], [], [gCosts, gWorths_3, gMiddles_4, gApart_5, gApartWithout_6, gNeeded_7, gUps_11, gDowns_12, gKeys_13, gNexts_14, gShutKeys, aCodes, aPbegins, aPends, aPlengths, aBegins, aEnds, aLengths, aRanks_8, aRoadsByRank_9, aRow, aRanksBefore, aBusy_15, aOpen_16, aShut]) H locs := hG
  cases h
  rw [hQ]
  exact g_vret X hT hG hr hlk dX7_makeAnew_25
end
