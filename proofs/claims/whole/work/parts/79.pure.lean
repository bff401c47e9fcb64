/-! the relation of the two worlds, and each method keeps it -/
def RC (biReadings biAlterations biRankings biLetters biCurrent biDue biSize biLsize : Int32) (bgCosts bgWorths bgMiddles bgApart bgApartWithout bgNeeded bgUps bgDowns bgKeys bgNexts bgShutKeys baCodes baPbegins baPends baPlengths baBegins baEnds baLengths baRanks baRoadsByRank baRow baRanksBefore baBusy baOpen baShut : Nat → Int32) (miPageLength miRoads miRead miAltered miRanked miStage miFigures miNewRoads miTold miRouted miRouteSum : Int32) (mjH : Int64) (maPage maBeginOf maEndOf maLengthOf maCosts maRankOf maRoadAt maWorths maMiddles maLeasts maBusy maNewBegin maNewEnd maNewLength maIsLeft maAround maWhole maIsNeeded maWereRanks maWaitFrom maWaitTo maToldAt maRisen maUps maTried maRoutes : Nat → Int32) : Prop := (∃ N cd, N ≤ 60 ∧ biLetters = nI N ∧ miPageLength = nI N ∧ CDS N cd baCodes maPage) ∧ (biReadings = miRead ∧ biAlterations = miAltered ∧ biRankings = miRanked) ∧ ∃ n beg en len tc ord rkf, N0 n beg en len tc ∧ NH cB n beg en len tc biSize baBegins baEnds baLengths bgCosts ∧ NH cM n beg en len tc miRoads maBeginOf maEndOf maLengthOf maCosts ∧ Perm n ord rkf ∧ biLsize = nI n ∧ DA n len tc ord rkf bgWorths bgMiddles baRanks baRoadsByRank ∧ DA n len tc ord rkf maWorths maMiddles maRankOf maRoadAt ∧ DB n beg en len tc ord rkf bgUps bgDowns bgKeys bgNexts baBusy baOpen ∧ DM n len tc maLeasts maBusy
theorem rc_start : RC 0 0 0 0 0 0 0 0 (fun _ => 0) (fun _ => 0) (fun _ => 0) (fun _ => 0) (fun _ => 0) (fun _ => 0) (fun _ => 0) (fun _ => 0) (fun _ => 0) (fun _ => 0) (fun _ => 0) (fun _ => 0) (fun _ => 0) (fun _ => 0) (fun _ => 0) (fun _ => 0) (fun _ => 0) (fun _ => 0) (fun _ => 0) (fun _ => 0) (fun _ => 0) (fun _ => 0) (fun _ => 0) (fun j => if j < 64 then 268435456 else 0) (fun _ => 0) 0 0 0 0 0 0 0 0 0 0 0 0 (fun _ => 0) (fun _ => 0) (fun _ => 0) (fun _ => 0) (fun _ => 0) (fun _ => 0) (fun _ => 0) (fun _ => 0) (fun _ => 0) (fun _ => 0) (fun _ => 0) (fun _ => 0) (fun _ => 0) (fun _ => 0) (fun _ => 0) (fun _ => 0) (fun _ => 0) (fun _ => 0) (fun _ => 0) (fun _ => 0) (fun _ => 0) (fun _ => 0) (fun _ => 0) (fun _ => 0) (fun _ => 0) (fun _ => 0) := by
  have hz : ∀ f t, f < 8 → t < 8 → (if 8 * f + t < 64 then (268435456 : Int32) else 0) = nI (rOp 0 (stp (fun _ => 0) (fun _ _ => 0)) (fun _ => 0) (fun _ => 0) (fun _ => 0) 99 f t) := fun f t hf ht => by
    rw [if_pos (by omega)]
    unfold rOp
    split <;> rfl
  exact ⟨⟨0, fun _ => 0, by decide, rfl, rfl, fun j hj => by omega⟩, ⟨rfl, rfl, rfl⟩, 0, fun _ => 0, fun _ => 0, fun _ => 0, fun _ _ => 0, fun _ => 0, fun _ => 0, ⟨by decide, fun r hr => by omega, fun r hr => by omega, fun r hr => by omega, fun r s hr => by omega⟩, ⟨rfl, fun r hr => by omega, fun r hr => by omega, fun r hr => by omega, fun r s hr => by omega⟩, ⟨rfl, fun r hr => by omega, fun r hr => by omega, fun r hr => by omega, fun r s hr => by omega⟩, ⟨fun k hk => by omega, fun k hk => by omega⟩, rfl, ⟨fun r s hr => by omega, fun r s hr => by omega, fun r hr => by omega, fun r hr => by omega⟩, ⟨fun r s hr => by omega, fun r s hr => by omega, fun r hr => by omega, fun r hr => by omega⟩, ⟨fun r s hr => by omega, fun r s hr => by omega, fun r s hr => by omega, fun r s hr => by omega, fun r hr => by omega, hz⟩, fun r s hr => by omega, fun r hr => by omega⟩
theorem s_letter {biReadings biAlterations biRankings biLetters biCurrent biDue biSize biLsize : Int32} {bgCosts bgWorths bgMiddles bgApart bgApartWithout bgNeeded bgUps bgDowns bgKeys bgNexts bgShutKeys baCodes baPbegins baPends baPlengths baBegins baEnds baLengths baRanks baRoadsByRank baRow baRanksBefore baBusy baOpen baShut : Nat → Int32} {miPageLength miRoads miRead miAltered miRanked miStage miFigures miNewRoads miTold miRouted miRouteSum : Int32} {mjH : Int64} {maPage maBeginOf maEndOf maLengthOf maCosts maRankOf maRoadAt maWorths maMiddles maLeasts maBusy maNewBegin maNewEnd maNewLength maIsLeft maAround maWhole maIsNeeded maWereRanks maWaitFrom maWaitTo maToldAt maRisen maUps maTried maRoutes : Nat → Int32} (h : RC biReadings biAlterations biRankings biLetters biCurrent biDue biSize biLsize bgCosts bgWorths bgMiddles bgApart bgApartWithout bgNeeded bgUps bgDowns bgKeys bgNexts bgShutKeys baCodes baPbegins baPends baPlengths baBegins baEnds baLengths baRanks baRoadsByRank baRow baRanksBefore baBusy baOpen baShut miPageLength miRoads miRead miAltered miRanked miStage miFigures miNewRoads miTold miRouted miRouteSum mjH maPage maBeginOf maEndOf maLengthOf maCosts maRankOf maRoadAt maWorths maMiddles maLeasts maBusy maNewBegin maNewEnd maNewLength maIsLeft maAround maWhole maIsNeeded maWereRanks maWaitFrom maWaitTo maToldAt maRisen maUps maTried maRoutes) (a1 : Int32) : ∃ (r : Int32) (obiLetters : Int32) (obaCodes : Nat → Int32) (omiPageLength : Int32) (omaPage : Nat → Int32), f7_letter a1 biLetters baCodes = some (r, obiLetters, obaCodes) ∧ f8_letter a1 miPageLength maPage = some (r, omiPageLength, omaPage) ∧ RC biReadings biAlterations biRankings obiLetters biCurrent biDue biSize biLsize bgCosts bgWorths bgMiddles bgApart bgApartWithout bgNeeded bgUps bgDowns bgKeys bgNexts bgShutKeys obaCodes baPbegins baPends baPlengths baBegins baEnds baLengths baRanks baRoadsByRank baRow baRanksBefore baBusy baOpen baShut omiPageLength miRoads miRead miAltered miRanked miStage miFigures miNewRoads miTold miRouted miRouteSum mjH omaPage maBeginOf maEndOf maLengthOf maCosts maRankOf maRoadAt maWorths maMiddles maLeasts maBusy maNewBegin maNewEnd maNewLength maIsLeft maAround maWhole maIsNeeded maWereRanks maWaitFrom maWaitTo maToldAt maRisen maUps maTried maRoutes := by
  obtain ⟨⟨N, cd, hN, rfl, rfl, hcd⟩, hrest⟩ := h
  rcases rng_c a1 32 126 (by decide) (by decide) with ⟨k, k1, k2, rfl, k3, k4, k5⟩ | ⟨k1, k2⟩
  · by_cases hlt : N < 60
    · refine ⟨nI (N + 1), nI (N + 1), upd baCodes N (nI k), nI (N + 1), upd maPage N (nI k), ?_, ?_, ⟨N + 1, fun j => if j = N then k else cd j, by omega, rfl, rfl, fun j hj => ?_⟩, hrest⟩
      · unfold f7_letter f4_put
        rw [if_neg (show ¬ nI k < (32 : Int32) from k3), if_pos (show nI k ≤ (126 : Int32) from k4), if_pos (show nI N < (60 : Int32) from nI_lt hlt (by decide)), if_neg (show ¬ (60 : Int32) ≤ nI N from nI_ge hlt (by decide)), ckN hlt, clN (by omega), bd_s, nI_1, bd_s, bnd2_s, bnd2_s]
      · unfold f8_letter
        rw [show f8_within (nI k) 32 126 = some 1 from k5, bnd1_s, if_neg i10, if_neg (show ¬ nI N = (60 : Int32) from fun q => by have := (nI_inj (a := N) (b := 60) (by omega) (by decide)).mp q; omega), ckN hlt, clN (by omega), bd_s, nI_1, bd_s]
      · dsimp only
        rw [upds, upds]
        by_cases q : j = N
        · rw [if_pos q, if_pos q, if_pos q]; exact ⟨rfl, rfl, k1, k2⟩
        · rw [if_neg q, if_neg q, if_neg q]; exact hcd j (by omega)
    · refine ⟨-104, nI N, baCodes, nI N, maPage, ?_, ?_, ⟨N, cd, hN, rfl, rfl, hcd⟩, hrest⟩
      · unfold f7_letter
        rw [if_neg (show ¬ nI k < (32 : Int32) from k3), if_pos (show nI k ≤ (126 : Int32) from k4), if_neg (show ¬ nI N < (60 : Int32) from nI_nlt (show 60 ≤ N by omega) (by omega))]
      · unfold f8_letter
        rw [show f8_within (nI k) 32 126 = some 1 from k5, bnd1_s, if_neg i10, if_pos (show nI N = (60 : Int32) by rw [show N = 60 by omega]; rfl)]
  · refine ⟨-102, nI N, baCodes, nI N, maPage, ?_, ?_, ⟨N, cd, hN, rfl, rfl, hcd⟩, hrest⟩
    · unfold f7_letter
      rcases k1 with q | q
      · rw [if_pos (show a1 < (32 : Int32) from q)]
      · rw [if_neg (show ¬ a1 < (32 : Int32) from q.1), if_neg (show ¬ a1 ≤ (126 : Int32) from q.2)]
    · unfold f8_letter
      rw [show f8_within a1 32 126 = some 0 from k2, bnd1_s, if_pos rfl]
theorem s_blank {biReadings biAlterations biRankings biLetters biCurrent biDue biSize biLsize : Int32} {bgCosts bgWorths bgMiddles bgApart bgApartWithout bgNeeded bgUps bgDowns bgKeys bgNexts bgShutKeys baCodes baPbegins baPends baPlengths baBegins baEnds baLengths baRanks baRoadsByRank baRow baRanksBefore baBusy baOpen baShut : Nat → Int32} {miPageLength miRoads miRead miAltered miRanked miStage miFigures miNewRoads miTold miRouted miRouteSum : Int32} {mjH : Int64} {maPage maBeginOf maEndOf maLengthOf maCosts maRankOf maRoadAt maWorths maMiddles maLeasts maBusy maNewBegin maNewEnd maNewLength maIsLeft maAround maWhole maIsNeeded maWereRanks maWaitFrom maWaitTo maToldAt maRisen maUps maTried maRoutes : Nat → Int32} (h : RC biReadings biAlterations biRankings biLetters biCurrent biDue biSize biLsize bgCosts bgWorths bgMiddles bgApart bgApartWithout bgNeeded bgUps bgDowns bgKeys bgNexts bgShutKeys baCodes baPbegins baPends baPlengths baBegins baEnds baLengths baRanks baRoadsByRank baRow baRanksBefore baBusy baOpen baShut miPageLength miRoads miRead miAltered miRanked miStage miFigures miNewRoads miTold miRouted miRouteSum mjH maPage maBeginOf maEndOf maLengthOf maCosts maRankOf maRoadAt maWorths maMiddles maLeasts maBusy maNewBegin maNewEnd maNewLength maIsLeft maAround maWhole maIsNeeded maWereRanks maWaitFrom maWaitTo maToldAt maRisen maUps maTried maRoutes) : ∃ (r : Int32) (obiLetters : Int32) (omiPageLength : Int32), f7_blank biLetters = some (r, obiLetters) ∧ f8_blank miPageLength = some (r, omiPageLength) ∧ RC biReadings biAlterations biRankings obiLetters biCurrent biDue biSize biLsize bgCosts bgWorths bgMiddles bgApart bgApartWithout bgNeeded bgUps bgDowns bgKeys bgNexts bgShutKeys baCodes baPbegins baPends baPlengths baBegins baEnds baLengths baRanks baRoadsByRank baRow baRanksBefore baBusy baOpen baShut omiPageLength miRoads miRead miAltered miRanked miStage miFigures miNewRoads miTold miRouted miRouteSum mjH maPage maBeginOf maEndOf maLengthOf maCosts maRankOf maRoadAt maWorths maMiddles maLeasts maBusy maNewBegin maNewEnd maNewLength maIsLeft maAround maWhole maIsNeeded maWereRanks maWaitFrom maWaitTo maToldAt maRisen maUps maTried maRoutes := by
  obtain ⟨⟨N, cd, hN, rfl, rfl, hcd⟩, hrest⟩ := h
  exact ⟨nI N, 0, 0, rfl, rfl, ⟨0, cd, by decide, rfl, rfl, fun j hj => by omega⟩, hrest⟩
theorem s_fault {biReadings biAlterations biRankings biLetters biCurrent biDue biSize biLsize : Int32} {bgCosts bgWorths bgMiddles bgApart bgApartWithout bgNeeded bgUps bgDowns bgKeys bgNexts bgShutKeys baCodes baPbegins baPends baPlengths baBegins baEnds baLengths baRanks baRoadsByRank baRow baRanksBefore baBusy baOpen baShut : Nat → Int32} {miPageLength miRoads miRead miAltered miRanked miStage miFigures miNewRoads miTold miRouted miRouteSum : Int32} {mjH : Int64} {maPage maBeginOf maEndOf maLengthOf maCosts maRankOf maRoadAt maWorths maMiddles maLeasts maBusy maNewBegin maNewEnd maNewLength maIsLeft maAround maWhole maIsNeeded maWereRanks maWaitFrom maWaitTo maToldAt maRisen maUps maTried maRoutes : Nat → Int32} (h : RC biReadings biAlterations biRankings biLetters biCurrent biDue biSize biLsize bgCosts bgWorths bgMiddles bgApart bgApartWithout bgNeeded bgUps bgDowns bgKeys bgNexts bgShutKeys baCodes baPbegins baPends baPlengths baBegins baEnds baLengths baRanks baRoadsByRank baRow baRanksBefore baBusy baOpen baShut miPageLength miRoads miRead miAltered miRanked miStage miFigures miNewRoads miTold miRouted miRouteSum mjH maPage maBeginOf maEndOf maLengthOf maCosts maRankOf maRoadAt maWorths maMiddles maLeasts maBusy maNewBegin maNewEnd maNewLength maIsLeft maAround maWhole maIsNeeded maWereRanks maWaitFrom maWaitTo maToldAt maRisen maUps maTried maRoutes) : ∃ (r : Int32) (obiCurrent : Int32) (obiDue : Int32) (obaPbegins : Nat → Int32) (obaPends : Nat → Int32) (obaPlengths : Nat → Int32) (omiStage : Int32) (omiFigures : Int32) (omiNewRoads : Int32) (omaNewBegin : Nat → Int32) (omaNewEnd : Nat → Int32) (omaNewLength : Nat → Int32), f7_fault 1000 biLetters baCodes baPbegins baPends baPlengths = some (r, obiCurrent, obiDue, obaPbegins, obaPends, obaPlengths) ∧ f8_fault 1000 miPageLength maPage maNewBegin maNewEnd maNewLength = some (r, omiStage, omiFigures, omiNewRoads, omaNewBegin, omaNewEnd, omaNewLength) ∧ RC biReadings biAlterations biRankings biLetters obiCurrent obiDue biSize biLsize bgCosts bgWorths bgMiddles bgApart bgApartWithout bgNeeded bgUps bgDowns bgKeys bgNexts bgShutKeys baCodes obaPbegins obaPends obaPlengths baBegins baEnds baLengths baRanks baRoadsByRank baRow baRanksBefore baBusy baOpen baShut miPageLength miRoads miRead miAltered miRanked omiStage omiFigures omiNewRoads miTold miRouted miRouteSum mjH maPage maBeginOf maEndOf maLengthOf maCosts maRankOf maRoadAt maWorths maMiddles maLeasts maBusy omaNewBegin omaNewEnd omaNewLength maIsLeft maAround maWhole maIsNeeded maWereRanks maWaitFrom maWaitTo maToldAt maRisen maUps maTried maRoutes := by
  obtain ⟨⟨N, cd, hN, rfl, rfl, hcd⟩, hrest⟩ := h
  rcases scan_s (fu := 1000) hN (by decide) hcd baPbegins baPends baPlengths maNewBegin maNewEnd maNewLength with ⟨p, ⟨x1, x2, x3, x4, x5⟩, ⟨y1, y2, y3, y4, y5, y6⟩, _, e1, e2⟩ | ⟨c, d, f, beg, en, len, x1, x2, x3, x4, x5, y1, y2, y3, y4, y5, y6, e1, e2, _⟩
  · refine ⟨nI p, x1, x2, x3, x4, x5, y1, y2, y3, y4, y5, y6, ?_, ?_, ⟨N, cd, hN, rfl, rfl, hcd⟩, hrest⟩
    · unfold f7_fault
      rw [e1, bnd6_s]
    · unfold f8_fault
      rw [e2, bnd7_s]
  · refine ⟨nI N, x1, x2, x3, x4, x5, y1, y2, y3, y4, y5, y6, ?_, ?_, ⟨N, cd, hN, rfl, rfl, hcd⟩, hrest⟩
    · unfold f7_fault
      rw [e1, bnd6_s]
    · unfold f8_fault
      rw [e2, bnd7_s]
theorem s_roads {biReadings biAlterations biRankings biLetters biCurrent biDue biSize biLsize : Int32} {bgCosts bgWorths bgMiddles bgApart bgApartWithout bgNeeded bgUps bgDowns bgKeys bgNexts bgShutKeys baCodes baPbegins baPends baPlengths baBegins baEnds baLengths baRanks baRoadsByRank baRow baRanksBefore baBusy baOpen baShut : Nat → Int32} {miPageLength miRoads miRead miAltered miRanked miStage miFigures miNewRoads miTold miRouted miRouteSum : Int32} {mjH : Int64} {maPage maBeginOf maEndOf maLengthOf maCosts maRankOf maRoadAt maWorths maMiddles maLeasts maBusy maNewBegin maNewEnd maNewLength maIsLeft maAround maWhole maIsNeeded maWereRanks maWaitFrom maWaitTo maToldAt maRisen maUps maTried maRoutes : Nat → Int32} (h : RC biReadings biAlterations biRankings biLetters biCurrent biDue biSize biLsize bgCosts bgWorths bgMiddles bgApart bgApartWithout bgNeeded bgUps bgDowns bgKeys bgNexts bgShutKeys baCodes baPbegins baPends baPlengths baBegins baEnds baLengths baRanks baRoadsByRank baRow baRanksBefore baBusy baOpen baShut miPageLength miRoads miRead miAltered miRanked miStage miFigures miNewRoads miTold miRouted miRouteSum mjH maPage maBeginOf maEndOf maLengthOf maCosts maRankOf maRoadAt maWorths maMiddles maLeasts maBusy maNewBegin maNewEnd maNewLength maIsLeft maAround maWhole maIsNeeded maWereRanks maWaitFrom maWaitTo maToldAt maRisen maUps maTried maRoutes) : ∃ (r : Int32) (obiReadings : Int32) (obiLetters : Int32) (obiCurrent : Int32) (obiDue : Int32) (obiSize : Int32) (obiLsize : Int32) (obgCosts : Nat → Int32) (obgWorths : Nat → Int32) (obgMiddles : Nat → Int32) (obgApart : Nat → Int32) (obgApartWithout : Nat → Int32) (obgNeeded : Nat → Int32) (obgUps : Nat → Int32) (obgDowns : Nat → Int32) (obgKeys : Nat → Int32) (obgNexts : Nat → Int32) (obaPbegins : Nat → Int32) (obaPends : Nat → Int32) (obaPlengths : Nat → Int32) (obaBegins : Nat → Int32) (obaEnds : Nat → Int32) (obaLengths : Nat → Int32) (obaRanks : Nat → Int32) (obaRoadsByRank : Nat → Int32) (obaBusy : Nat → Int32) (obaOpen : Nat → Int32) (omiPageLength : Int32) (omiRoads : Int32) (omiRead : Int32) (omiStage : Int32) (omiFigures : Int32) (omiNewRoads : Int32) (omaBeginOf : Nat → Int32) (omaEndOf : Nat → Int32) (omaLengthOf : Nat → Int32) (omaCosts : Nat → Int32) (omaRankOf : Nat → Int32) (omaRoadAt : Nat → Int32) (omaWorths : Nat → Int32) (omaMiddles : Nat → Int32) (omaLeasts : Nat → Int32) (omaBusy : Nat → Int32) (omaNewBegin : Nat → Int32) (omaNewEnd : Nat → Int32) (omaNewLength : Nat → Int32) (omaIsLeft : Nat → Int32) (omaAround : Nat → Int32) (omaWhole : Nat → Int32) (omaIsNeeded : Nat → Int32), f7_roads 1000 biLetters baCodes baPbegins baPends baPlengths biReadings biSize biLsize bgCosts bgWorths bgMiddles bgApart bgApartWithout bgNeeded bgUps bgDowns bgKeys bgNexts baBegins baEnds baLengths baRanks baRoadsByRank baBusy baOpen = some (r, obiReadings, obiLetters, obiCurrent, obiDue, obiSize, obiLsize, obgCosts, obgWorths, obgMiddles, obgApart, obgApartWithout, obgNeeded, obgUps, obgDowns, obgKeys, obgNexts, obaPbegins, obaPends, obaPlengths, obaBegins, obaEnds, obaLengths, obaRanks, obaRoadsByRank, obaBusy, obaOpen) ∧ f8_roads 1000 miPageLength maPage maNewBegin maNewEnd maNewLength miRoads miRead maBeginOf maEndOf maLengthOf maCosts maRankOf maRoadAt maWorths maMiddles maLeasts maBusy maIsLeft maAround maWhole maIsNeeded = some (r, omiPageLength, omiRoads, omiRead, omiStage, omiFigures, omiNewRoads, omaBeginOf, omaEndOf, omaLengthOf, omaCosts, omaRankOf, omaRoadAt, omaWorths, omaMiddles, omaLeasts, omaBusy, omaNewBegin, omaNewEnd, omaNewLength, omaIsLeft, omaAround, omaWhole, omaIsNeeded) ∧ RC obiReadings biAlterations biRankings obiLetters obiCurrent obiDue obiSize obiLsize obgCosts obgWorths obgMiddles obgApart obgApartWithout obgNeeded obgUps obgDowns obgKeys obgNexts bgShutKeys baCodes obaPbegins obaPends obaPlengths obaBegins obaEnds obaLengths obaRanks obaRoadsByRank baRow baRanksBefore obaBusy obaOpen baShut omiPageLength omiRoads omiRead miAltered miRanked omiStage omiFigures omiNewRoads miTold miRouted miRouteSum mjH maPage omaBeginOf omaEndOf omaLengthOf omaCosts omaRankOf omaRoadAt omaWorths omaMiddles omaLeasts omaBusy omaNewBegin omaNewEnd omaNewLength omaIsLeft omaAround omaWhole omaIsNeeded maWereRanks maWaitFrom maWaitTo maToldAt maRisen maUps maTried maRoutes := by
  obtain ⟨⟨N, cd, hN, rfl, rfl, hcd⟩, hC, hrest⟩ := h
  rcases scan_s (fu := 1000) hN (by decide) hcd baPbegins baPends baPlengths maNewBegin maNewEnd maNewLength with ⟨p, ⟨x1, x2, x3, x4, x5⟩, ⟨y1, y2, y3, y4, y5, y6⟩, hp, e1, e2⟩ | ⟨c, d, f, beg, en, len, x1, x2, x3, x4, x5, y1, y2, y3, y4, y5, y6, e1, e2, hR⟩
  · refine ⟨-103, biReadings, nI N, x1, x2, biSize, biLsize, bgCosts, bgWorths, bgMiddles, bgApart, bgApartWithout, bgNeeded, bgUps, bgDowns, bgKeys, bgNexts, x3, x4, x5, baBegins, baEnds, baLengths, baRanks, baRoadsByRank, baBusy, baOpen, nI N, miRoads, miRead, y1, y2, y3, maBeginOf, maEndOf, maLengthOf, maCosts, maRankOf, maRoadAt, maWorths, maMiddles, maLeasts, maBusy, y4, y5, y6, maIsLeft, maAround, maWhole, maIsNeeded, ?_, ?_, ⟨N, cd, hN, rfl, rfl, hcd⟩, hC, hrest⟩
    · unfold f7_roads f4_isWhole
      rw [e1, bnd6_s, if_neg (fun q => by have := (nI_inj (by omega) (by omega)).mp q; omega), bnd1_s, ckb0, bnd6_s, if_pos rfl]
    · unfold f8_roads
      rw [e2, bnd7_s, if_pos (nI_lt hp (by omega))]
  · obtain ⟨rfl, rfl, rfl, rfl, rfl, g1, g2, g3, g4, g5, g6, g7, g8, g9⟩ := hR
    by_cases hd : 3 ≤ d
    · have hW : f4_isWhole 1000 (nI N) baCodes baPbegins baPends baPlengths = some (1, nI c, nI d, x3, x4, x5) := by
        unfold f4_isWhole
        rw [e1, bnd6_s, if_pos rfl]
        rcases (show d = 3 ∨ d = 4 by omega) with rfl | rfl
        · rw [if_pos (show nI 3 = 3 from rfl), bnd1_s, ckb1]
        · rw [if_neg (show ¬ nI 4 = 3 by decide), if_pos (show nI 4 = 4 from rfl), bnd1_s, ckb1]
      have hf1 : 1 ≤ f := by
        rcases (show d = 3 ∨ d = 4 by omega) with q | q
        · have := (g5 q).1; omega
        · have := (g6 q).1; omega
      have h0 : N0 (c + 1) beg en len (tc0 beg en) := ⟨by omega, fun r hr => ⟨(g7 r (by omega)).2.2, (g8 r (by omega)).2.2.1⟩, fun r hr => (g8 r (by omega)).2.2.2, fun r hr => ⟨(g9 r (by omega)).2.2.1, (g9 r (by omega)).2.2.2⟩, tc0_ok⟩
      obtain ⟨b', e', l', g', t1, hB⟩ := take_s (b := baBegins) (e := baEnds) (l := baLengths) (g := bgCosts) h0 (nI_1 c) (fun j hj => (g7 j (by omega)).1) (fun j hj => (g8 j (by omega)).1) (fun j hj => (g9 j (by omega)).1)
      obtain ⟨mb', me', ml', t2, t3⟩ := copy3_s (n := c + 1) (nb := y4) (ne := y5) (nl := y6) (b := maBeginOf) (e := maEndOf) (l := maLengthOf) h0.1
      have hb1 : Rp1 (c + 1) mb' beg := fun j hj => by rw [(t3 j hj).1]; exact (g7 j (by omega)).2.1
      have hb2 : Rp1 (c + 1) me' en := fun j hj => by rw [(t3 j hj).2.1]; exact (g8 j (by omega)).2.1
      have hb3 : Rp1 (c + 1) ml' len := fun j hj => by rw [(t3 j hj).2.2]; exact (g9 j (by omega)).2.1
      obtain ⟨mg', t4, t5⟩ := roadsC_s (fu := 1000) (g := maCosts) h0.1 (by omega) (by decide) hb1 hb2 h0.2.1
      have hM : NH cM (c + 1) beg en len (tc0 beg en) (nI (c + 1)) mb' me' ml' mg' := ⟨rfl, hb1, hb2, hb3, t5⟩
      obtain ⟨rkf, hP⟩ := ford_perm h0.1 h0.S
      obtain ⟨w', m', a1', a2', ne', rk', rbr', u1, u2⟩ := findOrderB_s (fu := 1000) (w := bgWorths) (m := bgMiddles) (rk := baRanks) (a1 := bgApart) (a2 := bgApartWithout) (ne := bgNeeded) (rbr := baRoadsByRank) h0.1 (by omega) hB.2.2.2.2 hB.2.2.2.1 h0.S
      have hA := DA_of hP u2
      obtain ⟨bu', bd', bk', bx', bz', bo', u3, hD⟩ := measureAll_s (u := bgUps) (d := bgDowns) (k := bgKeys) (x := bgNexts) (z := baBusy) (o := baOpen) h0 hB hP hA
      obtain ⟨mw', mm', il', ar', wh', mne', ro', ra', v1, v2⟩ := findOrderM_s (fu := 1000) (il := maIsLeft) (w := maWorths) (m := maMiddles) (ro := maRankOf) (ra := maRoadAt) (ar := maAround) (wh := maWhole) (ne := maIsNeeded) h0.1 (by decide) hM.2.2.2.2 hM.2.2.2.1 h0.S
      have hAM := DA_ofM hP v2
      obtain ⟨mk', mz', v3, v4, v5⟩ := layWays_s (fu := 1000) (k := maLeasts) (bu := maBusy) h0.1 (by decide) hM.2.2.2.2 hM.2.2.2.1 h0.2.2.2.1
      refine ⟨nI (c + 1), biReadings + 1, 0, nI c, nI d, nI (c + 1), nI (c + 1), g', w', m', a1', a2', ne', bu', bd', bk', bx', x3, x4, x5, b', e', l', rk', rbr', bz', bo', 0, nI (c + 1), miRead + 1, nI (min d 2), nI f, nI c, mb', me', ml', mg', ro', ra', mw', mm', mk', mz', y4, y5, y6, il', ar', wh', mne', ?_, ?_, ⟨0, cd, by decide, rfl, rfl, fun j hj => by omega⟩, ⟨by rw [hC.1], hC.2⟩, c + 1, beg, en, len, tc0 beg en, ford (c + 1) (stp len (tc0 beg en)), rkf, h0, hB, hM, hP, rfl, hA, hAM, hD, v4, v5⟩
      · unfold f7_roads
        rw [hW, bnd6_s, if_neg i10, t1, bnd5_s, bd_s, u1, bnd8_s, u3, bnd6_s]
      · unfold f8_roads
        rw [e2, bnd7_s, if_neg (nI_nlt (Nat.le_refl N) (by omega)), show min d 2 = 2 by omega, if_neg (show ¬ nI 2 < 2 by decide), if_neg (nI_ne0 (by omega) (by omega)), nI_1, bd_s, t2, bnd3_s, t4, bnd1_s, v1, bnd8_s, v3, bnd2_s, bd_s]
    · refine ⟨-103, biReadings, nI N, nI c, nI d, biSize, biLsize, bgCosts, bgWorths, bgMiddles, bgApart, bgApartWithout, bgNeeded, bgUps, bgDowns, bgKeys, bgNexts, x3, x4, x5, baBegins, baEnds, baLengths, baRanks, baRoadsByRank, baBusy, baOpen, nI N, miRoads, miRead, nI (min d 2), nI f, nI c, maBeginOf, maEndOf, maLengthOf, maCosts, maRankOf, maRoadAt, maWorths, maMiddles, maLeasts, maBusy, y4, y5, y6, maIsLeft, maAround, maWhole, maIsNeeded, ?_, ?_, ⟨N, cd, hN, rfl, rfl, hcd⟩, hC, hrest⟩
      · unfold f7_roads f4_isWhole
        rw [e1, bnd6_s, if_pos rfl]
        rcases (show d = 0 ∨ d = 1 ∨ d = 2 by omega) with rfl | rfl | rfl
        · rw [if_neg (show ¬ nI 0 = 3 by decide), if_neg (show ¬ nI 0 = 4 by decide), bnd1_s, ckb0, bnd6_s, if_pos rfl]
        · rw [if_neg (show ¬ nI 1 = 3 by decide), if_neg (show ¬ nI 1 = 4 by decide), bnd1_s, ckb0, bnd6_s, if_pos rfl]
        · rw [if_neg (show ¬ nI 2 = 3 by decide), if_neg (show ¬ nI 2 = 4 by decide), bnd1_s, ckb0, bnd6_s, if_pos rfl]
      · unfold f8_roads
        rw [e2, bnd7_s, if_neg (nI_nlt (Nat.le_refl N) (by omega))]
        rcases (show d = 0 ∨ d = 1 ∨ d = 2 by omega) with rfl | rfl | rfl
        · rw [if_pos (show nI (min 0 2) < 2 by decide)]
        · rw [if_pos (show nI (min 1 2) < 2 by decide)]
        · have hf0 : f = 0 := g4 rfl
          subst hf0
          rw [if_neg (show ¬ nI (min 2 2) < 2 by decide), if_pos (show nI 0 = 0 from rfl)]
theorem s_stretch {biReadings biAlterations biRankings biLetters biCurrent biDue biSize biLsize : Int32} {bgCosts bgWorths bgMiddles bgApart bgApartWithout bgNeeded bgUps bgDowns bgKeys bgNexts bgShutKeys baCodes baPbegins baPends baPlengths baBegins baEnds baLengths baRanks baRoadsByRank baRow baRanksBefore baBusy baOpen baShut : Nat → Int32} {miPageLength miRoads miRead miAltered miRanked miStage miFigures miNewRoads miTold miRouted miRouteSum : Int32} {mjH : Int64} {maPage maBeginOf maEndOf maLengthOf maCosts maRankOf maRoadAt maWorths maMiddles maLeasts maBusy maNewBegin maNewEnd maNewLength maIsLeft maAround maWhole maIsNeeded maWereRanks maWaitFrom maWaitTo maToldAt maRisen maUps maTried maRoutes : Nat → Int32} (h : RC biReadings biAlterations biRankings biLetters biCurrent biDue biSize biLsize bgCosts bgWorths bgMiddles bgApart bgApartWithout bgNeeded bgUps bgDowns bgKeys bgNexts bgShutKeys baCodes baPbegins baPends baPlengths baBegins baEnds baLengths baRanks baRoadsByRank baRow baRanksBefore baBusy baOpen baShut miPageLength miRoads miRead miAltered miRanked miStage miFigures miNewRoads miTold miRouted miRouteSum mjH maPage maBeginOf maEndOf maLengthOf maCosts maRankOf maRoadAt maWorths maMiddles maLeasts maBusy maNewBegin maNewEnd maNewLength maIsLeft maAround maWhole maIsNeeded maWereRanks maWaitFrom maWaitTo maToldAt maRisen maUps maTried maRoutes) (a1 a2 : Int32) : ∃ (r : Int32) (obiAlterations : Int32) (obiLsize : Int32) (obgWorths : Nat → Int32) (obgMiddles : Nat → Int32) (obgApart : Nat → Int32) (obgApartWithout : Nat → Int32) (obgNeeded : Nat → Int32) (obgUps : Nat → Int32) (obgDowns : Nat → Int32) (obgKeys : Nat → Int32) (obgNexts : Nat → Int32) (obaLengths : Nat → Int32) (obaRanks : Nat → Int32) (obaRoadsByRank : Nat → Int32) (obaBusy : Nat → Int32) (obaOpen : Nat → Int32) (omiAltered : Int32) (omaLengthOf : Nat → Int32) (omaRankOf : Nat → Int32) (omaRoadAt : Nat → Int32) (omaWorths : Nat → Int32) (omaMiddles : Nat → Int32) (omaLeasts : Nat → Int32) (omaBusy : Nat → Int32) (omaIsLeft : Nat → Int32) (omaAround : Nat → Int32) (omaWhole : Nat → Int32) (omaIsNeeded : Nat → Int32), f7_stretch 1000 a1 biSize biAlterations biLsize bgWorths bgMiddles bgApart bgApartWithout bgNeeded bgUps bgDowns bgKeys bgNexts baLengths baRanks baRoadsByRank baBusy baOpen a2 bgCosts baBegins baEnds = some (r, obiAlterations, obiLsize, obgWorths, obgMiddles, obgApart, obgApartWithout, obgNeeded, obgUps, obgDowns, obgKeys, obgNexts, obaLengths, obaRanks, obaRoadsByRank, obaBusy, obaOpen) ∧ f8_stretch 1000 a1 miRoads miAltered maLengthOf maRankOf maRoadAt maWorths maMiddles maLeasts maBusy maIsLeft maAround maWhole maIsNeeded a2 maCosts = some (r, omiAltered, omaLengthOf, omaRankOf, omaRoadAt, omaWorths, omaMiddles, omaLeasts, omaBusy, omaIsLeft, omaAround, omaWhole, omaIsNeeded) ∧ RC biReadings obiAlterations biRankings biLetters biCurrent biDue biSize obiLsize bgCosts obgWorths obgMiddles obgApart obgApartWithout obgNeeded obgUps obgDowns obgKeys obgNexts bgShutKeys baCodes baPbegins baPends baPlengths baBegins baEnds obaLengths obaRanks obaRoadsByRank baRow baRanksBefore obaBusy obaOpen baShut miPageLength miRoads miRead omiAltered miRanked miStage miFigures miNewRoads miTold miRouted miRouteSum mjH maPage maBeginOf maEndOf omaLengthOf maCosts omaRankOf omaRoadAt omaWorths omaMiddles omaLeasts omaBusy maNewBegin maNewEnd maNewLength omaIsLeft omaAround omaWhole omaIsNeeded maWereRanks maWaitFrom maWaitTo maToldAt maRisen maUps maTried maRoutes := by
  obtain ⟨hL, hC, n, beg, en, len, tc, ord, rkf, h0, hB, hM, hP, hLs, hA, hAM, hD, hDM⟩ := h
  obtain rfl := hB.1
  obtain rfl := hM.1
  subst hLs
  have hn := h0.1
  rcases has_c a1 n hn with ⟨r, hr, rfl, q1, q2⟩ | ⟨q1, q2⟩
  · rcases rng_c a2 1 99 (by decide) (by decide) with ⟨k, k1, k2, rfl, k3, k4, k5⟩ | ⟨k1, k2⟩
    · obtain ⟨w', m', a1', a2', ne', u', d', k', x', rk', rbr', z', o', f1, f2, f3⟩ := makeAnew_s (al := biAlterations) (w := bgWorths) (m := bgMiddles) (rk := baRanks) (a1 := bgApart) (a2 := bgApartWithout) (ne := bgNeeded) (u := bgUps) (d := bgDowns) (k := bgKeys) (x := bgNexts) (z := baBusy) (o := baOpen) (stretch_N (r := r) h0 k1 k2) (stretch_H (r := r) (k := k) hB) hP hA.2.2.2
      obtain ⟨mw', mm', il', ar', wh', mne', ro', ra', mk', mz', g1, g2, g3⟩ := alter_s (al := miAltered) (w := maWorths) (m := maMiddles) (ro := maRankOf) (il := maIsLeft) (ar := maAround) (wh := maWhole) (ne := maIsNeeded) (k := maLeasts) (z := maBusy) (stretch_N (r := r) h0 k1 k2) (stretch_H (r := r) (k := k) hM) hP hAM.2.2.2
      refine ⟨nI (len r), biAlterations + 1, nI n, w', m', a1', a2', ne', u', d', k', x', upd baLengths r (nI k), rk', rbr', z', o', miAltered + 1, upd maLengthOf r (nI k), ro', ra', mw', mm', mk', mz', il', ar', wh', mne', ?_, ?_, hL, ⟨hC.1, by rw [hC.2.1], hC.2.2⟩, n, beg, en, fun j => if j = r then k else len j, tc, ord, rkf, stretch_N (r := r) h0 k1 k2, stretch_H (r := r) (k := k) hB, stretch_H (r := r) (k := k) hM, hP, rfl, f2, g2, f3, g3⟩
      · unfold f7_stretch
        rw [q1, bnd1_s, if_neg i10, if_neg (show ¬ nI k < (1 : Int32) from k3), if_pos (show nI k ≤ (99 : Int32) from k4), ckN (by omega), clN (by omega), bd_s, ckN (by omega), bd_s, f1, bnd15_s, hB.2.2.2.1 r hr]
      · unfold f8_stretch
        rw [q2, bnd1_s, if_neg i10, show f8_within (nI k) 1 99 = some 1 from k5, bnd1_s, if_neg i10, ckN (by omega), clN (by omega), bd_s, ckN (by omega), bd_s, g1, bnd11_s, hM.2.2.2.1 r hr]
    · refine ⟨-102, biAlterations, nI n, bgWorths, bgMiddles, bgApart, bgApartWithout, bgNeeded, bgUps, bgDowns, bgKeys, bgNexts, baLengths, baRanks, baRoadsByRank, baBusy, baOpen, miAltered, maLengthOf, maRankOf, maRoadAt, maWorths, maMiddles, maLeasts, maBusy, maIsLeft, maAround, maWhole, maIsNeeded, ?_, ?_, hL, hC, n, beg, en, len, tc, ord, rkf, h0, hB, hM, hP, rfl, hA, hAM, hD, hDM⟩
      · unfold f7_stretch
        rw [q1, bnd1_s, if_neg i10]
        rcases k1 with q | q
        · rw [if_pos (show a2 < (1 : Int32) from q)]
        · rw [if_neg (show ¬ a2 < (1 : Int32) from q.1), if_neg (show ¬ a2 ≤ (99 : Int32) from q.2)]
      · unfold f8_stretch
        rw [q2, bnd1_s, if_neg i10, show f8_within a2 1 99 = some 0 from k2, bnd1_s, if_pos rfl]
  · refine ⟨-101, biAlterations, nI n, bgWorths, bgMiddles, bgApart, bgApartWithout, bgNeeded, bgUps, bgDowns, bgKeys, bgNexts, baLengths, baRanks, baRoadsByRank, baBusy, baOpen, miAltered, maLengthOf, maRankOf, maRoadAt, maWorths, maMiddles, maLeasts, maBusy, maIsLeft, maAround, maWhole, maIsNeeded, ?_, ?_, hL, hC, n, beg, en, len, tc, ord, rkf, h0, hB, hM, hP, rfl, hA, hAM, hD, hDM⟩
    · unfold f7_stretch
      rw [q1, bnd1_s, if_pos rfl]
    · unfold f8_stretch
      rw [q2, bnd1_s, if_pos rfl]
theorem s_turn {biReadings biAlterations biRankings biLetters biCurrent biDue biSize biLsize : Int32} {bgCosts bgWorths bgMiddles bgApart bgApartWithout bgNeeded bgUps bgDowns bgKeys bgNexts bgShutKeys baCodes baPbegins baPends baPlengths baBegins baEnds baLengths baRanks baRoadsByRank baRow baRanksBefore baBusy baOpen baShut : Nat → Int32} {miPageLength miRoads miRead miAltered miRanked miStage miFigures miNewRoads miTold miRouted miRouteSum : Int32} {mjH : Int64} {maPage maBeginOf maEndOf maLengthOf maCosts maRankOf maRoadAt maWorths maMiddles maLeasts maBusy maNewBegin maNewEnd maNewLength maIsLeft maAround maWhole maIsNeeded maWereRanks maWaitFrom maWaitTo maToldAt maRisen maUps maTried maRoutes : Nat → Int32} (h : RC biReadings biAlterations biRankings biLetters biCurrent biDue biSize biLsize bgCosts bgWorths bgMiddles bgApart bgApartWithout bgNeeded bgUps bgDowns bgKeys bgNexts bgShutKeys baCodes baPbegins baPends baPlengths baBegins baEnds baLengths baRanks baRoadsByRank baRow baRanksBefore baBusy baOpen baShut miPageLength miRoads miRead miAltered miRanked miStage miFigures miNewRoads miTold miRouted miRouteSum mjH maPage maBeginOf maEndOf maLengthOf maCosts maRankOf maRoadAt maWorths maMiddles maLeasts maBusy maNewBegin maNewEnd maNewLength maIsLeft maAround maWhole maIsNeeded maWereRanks maWaitFrom maWaitTo maToldAt maRisen maUps maTried maRoutes) (a1 a2 a3 : Int32) : ∃ (r : Int32) (obiAlterations : Int32) (obiLsize : Int32) (obgCosts : Nat → Int32) (obgWorths : Nat → Int32) (obgMiddles : Nat → Int32) (obgApart : Nat → Int32) (obgApartWithout : Nat → Int32) (obgNeeded : Nat → Int32) (obgUps : Nat → Int32) (obgDowns : Nat → Int32) (obgKeys : Nat → Int32) (obgNexts : Nat → Int32) (obaRanks : Nat → Int32) (obaRoadsByRank : Nat → Int32) (obaBusy : Nat → Int32) (obaOpen : Nat → Int32) (omiAltered : Int32) (omaCosts : Nat → Int32) (omaRankOf : Nat → Int32) (omaRoadAt : Nat → Int32) (omaWorths : Nat → Int32) (omaMiddles : Nat → Int32) (omaLeasts : Nat → Int32) (omaBusy : Nat → Int32) (omaIsLeft : Nat → Int32) (omaAround : Nat → Int32) (omaWhole : Nat → Int32) (omaIsNeeded : Nat → Int32), f7_turn 1000 a1 biSize a2 biAlterations biLsize bgCosts bgWorths bgMiddles bgApart bgApartWithout bgNeeded bgUps bgDowns bgKeys bgNexts baRanks baRoadsByRank baBusy baOpen a3 baLengths baBegins baEnds = some (r, obiAlterations, obiLsize, obgCosts, obgWorths, obgMiddles, obgApart, obgApartWithout, obgNeeded, obgUps, obgDowns, obgKeys, obgNexts, obaRanks, obaRoadsByRank, obaBusy, obaOpen) ∧ f8_turn 1000 a1 miRoads a2 miAltered maCosts maRankOf maRoadAt maWorths maMiddles maLeasts maBusy maIsLeft maAround maWhole maIsNeeded maEndOf maBeginOf a3 maLengthOf = some (r, omiAltered, omaCosts, omaRankOf, omaRoadAt, omaWorths, omaMiddles, omaLeasts, omaBusy, omaIsLeft, omaAround, omaWhole, omaIsNeeded) ∧ RC biReadings obiAlterations biRankings biLetters biCurrent biDue biSize obiLsize obgCosts obgWorths obgMiddles obgApart obgApartWithout obgNeeded obgUps obgDowns obgKeys obgNexts bgShutKeys baCodes baPbegins baPends baPlengths baBegins baEnds baLengths obaRanks obaRoadsByRank baRow baRanksBefore obaBusy obaOpen baShut miPageLength miRoads miRead omiAltered miRanked miStage miFigures miNewRoads miTold miRouted miRouteSum mjH maPage maBeginOf maEndOf maLengthOf omaCosts omaRankOf omaRoadAt omaWorths omaMiddles omaLeasts omaBusy maNewBegin maNewEnd maNewLength omaIsLeft omaAround omaWhole omaIsNeeded maWereRanks maWaitFrom maWaitTo maToldAt maRisen maUps maTried maRoutes := by
  obtain ⟨hL, hC, n, beg, en, len, tc, ord, rkf, h0, hB, hM, hP, hLs, hA, hAM, hD, hDM⟩ := h
  obtain rfl := hB.1
  obtain rfl := hM.1
  subst hLs
  have hn := h0.1
  rcases both_c a1 a2 n hn with ⟨r, s, hr, hs, rfl, rfl, q1, q2⟩ | ⟨q1, q2⟩
  · by_cases hrs : en r = beg s
    · have hT := h0.2.2.2.2 r s hr hs
      have hne : tc r s ≠ 52 := fun q => hT.2.mp q hrs
      have hgo : ∀ t, t ≤ 51 → cB t = a3 → f7_turn 1000 (nI r) (nI n) (nI s) biAlterations (nI n) bgCosts bgWorths bgMiddles bgApart bgApartWithout bgNeeded bgUps bgDowns bgKeys bgNexts baRanks baRoadsByRank baBusy baOpen a3 baLengths baBegins baEnds = f7_turn_k1 1000 (nI r) (nI s) bgCosts a3 biAlterations (nI n) baLengths bgWorths bgMiddles baRanks bgApart bgApartWithout bgNeeded baRoadsByRank bgUps bgDowns bgKeys bgNexts baBusy baOpen baBegins baEnds ∧ f8_turn 1000 (nI r) (nI n) (nI s) miAltered maCosts maRankOf maRoadAt maWorths maMiddles maLeasts maBusy maIsLeft maAround maWhole maIsNeeded maEndOf maBeginOf a3 maLengthOf = f8_turn_k1 1000 (nI r) (nI s) maCosts a3 miAltered (nI n) maIsLeft maLengthOf maWorths maMiddles maRankOf maRoadAt maAround maWhole maIsNeeded maLeasts maBusy := fun t ht h3 => by
        unfold f7_turn f8_turn
        rw [q1, q2, bnd1_s, bnd1_s, if_neg i10, if_neg i10, hasTurn_s hn hB.2.2.2.2 h0.2.2.2.2 hr hs, isTurn_s hn hM.2.1 hM.2.2.1 h0.2.1 hr hs, if_pos hrs, bnd1_s, bnd1_s, if_neg i10, if_neg i10]
        by_cases h51 : t = 51
        · have e5 : a3 = -5 := by rw [← h3]; exact cB_51.mpr h51
          rw [if_pos e5, if_pos e5]
          exact ⟨rfl, rfl⟩
        · have e5 : ¬ a3 = -5 := fun q => h51 (cB_51.mp (h3.trans q))
          rw [cB_le (show t ≤ 50 by omega)] at h3
          subst h3
          rw [if_neg e5, if_neg e5, if_neg (nI_pos (by omega)), if_pos (show nI t ≤ (50 : Int32) from nI_le (show t ≤ 50 by omega) (by decide)), show f8_within (nI t) 0 50 = f8_within (nI t) (nI 0) (nI 50) from rfl, within_s (by omega) (by decide) (by decide), if_pos ⟨by omega, by omega⟩, bnd1_s, if_neg i10]
          exact ⟨rfl, rfl⟩
      have hfin : ∀ t, t ≤ 51 → cB t = a3 → ∃ (r0 : Int32) (obiAlterations : Int32) (obiLsize : Int32) (obgCosts : Nat → Int32) (obgWorths : Nat → Int32) (obgMiddles : Nat → Int32) (obgApart : Nat → Int32) (obgApartWithout : Nat → Int32) (obgNeeded : Nat → Int32) (obgUps : Nat → Int32) (obgDowns : Nat → Int32) (obgKeys : Nat → Int32) (obgNexts : Nat → Int32) (obaRanks : Nat → Int32) (obaRoadsByRank : Nat → Int32) (obaBusy : Nat → Int32) (obaOpen : Nat → Int32) (omiAltered : Int32) (omaCosts : Nat → Int32) (omaRankOf : Nat → Int32) (omaRoadAt : Nat → Int32) (omaWorths : Nat → Int32) (omaMiddles : Nat → Int32) (omaLeasts : Nat → Int32) (omaBusy : Nat → Int32) (omaIsLeft : Nat → Int32) (omaAround : Nat → Int32) (omaWhole : Nat → Int32) (omaIsNeeded : Nat → Int32), f7_turn 1000 (nI r) (nI n) (nI s) biAlterations (nI n) bgCosts bgWorths bgMiddles bgApart bgApartWithout bgNeeded bgUps bgDowns bgKeys bgNexts baRanks baRoadsByRank baBusy baOpen a3 baLengths baBegins baEnds = some (r0, obiAlterations, obiLsize, obgCosts, obgWorths, obgMiddles, obgApart, obgApartWithout, obgNeeded, obgUps, obgDowns, obgKeys, obgNexts, obaRanks, obaRoadsByRank, obaBusy, obaOpen) ∧ f8_turn 1000 (nI r) (nI n) (nI s) miAltered maCosts maRankOf maRoadAt maWorths maMiddles maLeasts maBusy maIsLeft maAround maWhole maIsNeeded maEndOf maBeginOf a3 maLengthOf = some (r0, omiAltered, omaCosts, omaRankOf, omaRoadAt, omaWorths, omaMiddles, omaLeasts, omaBusy, omaIsLeft, omaAround, omaWhole, omaIsNeeded) ∧ RC biReadings obiAlterations biRankings biLetters biCurrent biDue (nI n) obiLsize obgCosts obgWorths obgMiddles obgApart obgApartWithout obgNeeded obgUps obgDowns obgKeys obgNexts bgShutKeys baCodes baPbegins baPends baPlengths baBegins baEnds baLengths obaRanks obaRoadsByRank baRow baRanksBefore obaBusy obaOpen baShut miPageLength (nI n) miRead omiAltered miRanked miStage miFigures miNewRoads miTold miRouted miRouteSum mjH maPage maBeginOf maEndOf maLengthOf omaCosts omaRankOf omaRoadAt omaWorths omaMiddles omaLeasts omaBusy maNewBegin maNewEnd maNewLength omaIsLeft omaAround omaWhole omaIsNeeded maWereRanks maWaitFrom maWaitTo maToldAt maRisen maUps maTried maRoutes := fun t ht h3 => by
        obtain ⟨w', m', a1', a2', ne', u', d', k', x', rk', rbr', z', o', f1, f2, f3⟩ := turnB_s (r := r) (s := s) (t := t) (al := biAlterations) (w := bgWorths) (m := bgMiddles) (rk := baRanks) (a1 := bgApart) (a2 := bgApartWithout) (ne := bgNeeded) (u := bgUps) (d := bgDowns) (k := bgKeys) (x := bgNexts) (z := baBusy) (o := baOpen) h0 hB hP hA.2.2.2 hr hs hrs ht
        obtain ⟨mw', mm', il', ar', wh', mne', ro', ra', mk', mz', g1, g2, g3⟩ := turnM_s (r := r) (s := s) (t := t) (al := miAltered) (w := maWorths) (m := maMiddles) (ro := maRankOf) (il := maIsLeft) (ar := maAround) (wh := maWhole) (ne := maIsNeeded) (k := maLeasts) (z := maBusy) h0 hM hP hAM.2.2.2 hr hs hrs ht
        have e := hgo t ht h3
        rw [cBM hne hT.1] at f1
        have h4 : cM t = a3 := by rw [← cBM (by omega) (by omega)]; exact h3
        rw [h3] at f1
        rw [h4] at g1
        exact ⟨cM (tc r s), biAlterations + 1, nI n, upd bgCosts (12 * r + s) a3, w', m', a1', a2', ne', u', d', k', x', rk', rbr', z', o', miAltered + 1, upd maCosts (12 * r + s) a3, ro', ra', mw', mm', mk', mz', il', ar', wh', mne', e.1.trans f1, e.2.trans g1, hL, ⟨hC.1, by rw [hC.2.1], hC.2.2⟩, n, beg, en, len, fun r' s' => if r' = r ∧ s' = s then t else tc r' s', ord, rkf, turn_N (r := r) (s := s) h0 hrs ht, by rw [← h3]; exact turn_H (r := r) (s := s) (t := t) hn hs hB, by rw [← h4]; exact turn_H (r := r) (s := s) (t := t) hn hs hM, hP, rfl, f2, g2, f3, g3⟩
      by_cases e5 : a3 = -5
      · exact hfin 51 (by decide) (by rw [e5]; rfl)
      · rcases rng_c a3 0 50 (by decide) (by decide) with ⟨k, k1, k2, rfl, k3, k4, k5⟩ | ⟨k1, k2⟩
        · exact hfin k (by omega) (cB_le k2)
        · refine ⟨-102, biAlterations, nI n, bgCosts, bgWorths, bgMiddles, bgApart, bgApartWithout, bgNeeded, bgUps, bgDowns, bgKeys, bgNexts, baRanks, baRoadsByRank, baBusy, baOpen, miAltered, maCosts, maRankOf, maRoadAt, maWorths, maMiddles, maLeasts, maBusy, maIsLeft, maAround, maWhole, maIsNeeded, ?_, ?_, hL, hC, n, beg, en, len, tc, ord, rkf, h0, hB, hM, hP, rfl, hA, hAM, hD, hDM⟩
          · unfold f7_turn
            rw [q1, bnd1_s, if_neg i10, hasTurn_s hn hB.2.2.2.2 h0.2.2.2.2 hr hs, if_pos hrs, bnd1_s, if_neg i10, if_neg e5]
            rcases k1 with q | q
            · rw [if_pos (show a3 < (0 : Int32) from q)]
            · rw [if_neg (show ¬ a3 < (0 : Int32) from q.1), if_neg (show ¬ a3 ≤ (50 : Int32) from q.2)]
          · unfold f8_turn
            rw [q2, bnd1_s, if_neg i10, isTurn_s hn hM.2.1 hM.2.2.1 h0.2.1 hr hs, if_pos hrs, bnd1_s, if_neg i10, if_neg e5, show f8_within a3 0 50 = some 0 from k2, bnd1_s, if_pos rfl]
    · refine ⟨-103, biAlterations, nI n, bgCosts, bgWorths, bgMiddles, bgApart, bgApartWithout, bgNeeded, bgUps, bgDowns, bgKeys, bgNexts, baRanks, baRoadsByRank, baBusy, baOpen, miAltered, maCosts, maRankOf, maRoadAt, maWorths, maMiddles, maLeasts, maBusy, maIsLeft, maAround, maWhole, maIsNeeded, ?_, ?_, hL, hC, n, beg, en, len, tc, ord, rkf, h0, hB, hM, hP, rfl, hA, hAM, hD, hDM⟩
      · unfold f7_turn
        rw [q1, bnd1_s, if_neg i10, hasTurn_s hn hB.2.2.2.2 h0.2.2.2.2 hr hs, if_neg hrs, bnd1_s, if_pos rfl]
      · unfold f8_turn
        rw [q2, bnd1_s, if_neg i10, isTurn_s hn hM.2.1 hM.2.2.1 h0.2.1 hr hs, if_neg hrs, bnd1_s, if_pos rfl]
  · refine ⟨-101, biAlterations, nI n, bgCosts, bgWorths, bgMiddles, bgApart, bgApartWithout, bgNeeded, bgUps, bgDowns, bgKeys, bgNexts, baRanks, baRoadsByRank, baBusy, baOpen, miAltered, maCosts, maRankOf, maRoadAt, maWorths, maMiddles, maLeasts, maBusy, maIsLeft, maAround, maWhole, maIsNeeded, ?_, ?_, hL, hC, n, beg, en, len, tc, ord, rkf, h0, hB, hM, hP, rfl, hA, hAM, hD, hDM⟩
    · unfold f7_turn
      rw [q1, bnd1_s, if_pos rfl]
    · unfold f8_turn
      rw [q2, bnd1_s, if_pos rfl]
theorem s_rank {biReadings biAlterations biRankings biLetters biCurrent biDue biSize biLsize : Int32} {bgCosts bgWorths bgMiddles bgApart bgApartWithout bgNeeded bgUps bgDowns bgKeys bgNexts bgShutKeys baCodes baPbegins baPends baPlengths baBegins baEnds baLengths baRanks baRoadsByRank baRow baRanksBefore baBusy baOpen baShut : Nat → Int32} {miPageLength miRoads miRead miAltered miRanked miStage miFigures miNewRoads miTold miRouted miRouteSum : Int32} {mjH : Int64} {maPage maBeginOf maEndOf maLengthOf maCosts maRankOf maRoadAt maWorths maMiddles maLeasts maBusy maNewBegin maNewEnd maNewLength maIsLeft maAround maWhole maIsNeeded maWereRanks maWaitFrom maWaitTo maToldAt maRisen maUps maTried maRoutes : Nat → Int32} (h : RC biReadings biAlterations biRankings biLetters biCurrent biDue biSize biLsize bgCosts bgWorths bgMiddles bgApart bgApartWithout bgNeeded bgUps bgDowns bgKeys bgNexts bgShutKeys baCodes baPbegins baPends baPlengths baBegins baEnds baLengths baRanks baRoadsByRank baRow baRanksBefore baBusy baOpen baShut miPageLength miRoads miRead miAltered miRanked miStage miFigures miNewRoads miTold miRouted miRouteSum mjH maPage maBeginOf maEndOf maLengthOf maCosts maRankOf maRoadAt maWorths maMiddles maLeasts maBusy maNewBegin maNewEnd maNewLength maIsLeft maAround maWhole maIsNeeded maWereRanks maWaitFrom maWaitTo maToldAt maRisen maUps maTried maRoutes) : ∃ (r : Int32) (obiRankings : Int32) (obiLsize : Int32) (obgWorths : Nat → Int32) (obgMiddles : Nat → Int32) (obgApart : Nat → Int32) (obgApartWithout : Nat → Int32) (obgNeeded : Nat → Int32) (obgUps : Nat → Int32) (obgDowns : Nat → Int32) (obgKeys : Nat → Int32) (obgNexts : Nat → Int32) (obaRanks : Nat → Int32) (obaRoadsByRank : Nat → Int32) (obaRanksBefore : Nat → Int32) (obaBusy : Nat → Int32) (obaOpen : Nat → Int32) (omiRanked : Int32) (omaRankOf : Nat → Int32) (omaRoadAt : Nat → Int32) (omaWorths : Nat → Int32) (omaMiddles : Nat → Int32) (omaIsLeft : Nat → Int32) (omaAround : Nat → Int32) (omaWhole : Nat → Int32) (omaIsNeeded : Nat → Int32) (omaWereRanks : Nat → Int32), f7_rank 1000 biRankings baRanks baRanksBefore biSize bgCosts baLengths bgWorths bgMiddles bgApart bgApartWithout bgNeeded baRoadsByRank bgUps bgDowns bgKeys bgNexts baBusy baOpen baBegins baEnds = some (r, obiRankings, obiLsize, obgWorths, obgMiddles, obgApart, obgApartWithout, obgNeeded, obgUps, obgDowns, obgKeys, obgNexts, obaRanks, obaRoadsByRank, obaRanksBefore, obaBusy, obaOpen) ∧ f8_rank 1000 miRoads maRankOf maWereRanks maIsLeft maCosts maLengthOf maWorths maMiddles maRoadAt maAround maWhole maIsNeeded miRanked = some (r, omiRanked, omaRankOf, omaRoadAt, omaWorths, omaMiddles, omaIsLeft, omaAround, omaWhole, omaIsNeeded, omaWereRanks) ∧ RC biReadings biAlterations obiRankings biLetters biCurrent biDue biSize obiLsize bgCosts obgWorths obgMiddles obgApart obgApartWithout obgNeeded obgUps obgDowns obgKeys obgNexts bgShutKeys baCodes baPbegins baPends baPlengths baBegins baEnds baLengths obaRanks obaRoadsByRank baRow obaRanksBefore obaBusy obaOpen baShut miPageLength miRoads miRead miAltered omiRanked miStage miFigures miNewRoads miTold miRouted miRouteSum mjH maPage maBeginOf maEndOf maLengthOf maCosts omaRankOf omaRoadAt omaWorths omaMiddles maLeasts maBusy maNewBegin maNewEnd maNewLength omaIsLeft omaAround omaWhole omaIsNeeded omaWereRanks maWaitFrom maWaitTo maToldAt maRisen maUps maTried maRoutes := by
  obtain ⟨hL, hC, n, beg, en, len, tc, ord, rkf, h0, hB, hM, hP, hLs, hA, hAM, hD, hDM⟩ := h
  obtain rfl := hB.1
  obtain rfl := hM.1
  subst hLs
  have hn := h0.1
  obtain ⟨rkg, hQ⟩ := ford_perm hn h0.S
  obtain ⟨w', m', a1', a2', ne', u', d', k', x', rk', rbr', rkb', z', o', f1, f2, f3⟩ := rankB_s (rkf := rkf) (al := biRankings) (w := bgWorths) (m := bgMiddles) (rk := baRanks) (rkb := baRanksBefore) (rbr := baRoadsByRank) (a1 := bgApart) (a2 := bgApartWithout) (ne := bgNeeded) (u := bgUps) (d := bgDowns) (k := bgKeys) (x := bgNexts) (z := baBusy) (o := baOpen) h0 hB hQ (fun r hr => ⟨hA.2.2.1 r hr, (hP.2 r hr).1⟩)
  obtain ⟨mw', mm', il', ar', wh', mne', ro', ra', we', g1, g2⟩ := rankM_s (rkf := rkf) (al := miRanked) (w := maWorths) (m := maMiddles) (ro := maRankOf) (ra := maRoadAt) (we := maWereRanks) (il := maIsLeft) (ar := maAround) (wh := maWhole) (ne := maIsNeeded) h0 hM hQ (fun r hr => ⟨hAM.2.2.1 r hr, (hP.2 r hr).1⟩)
  exact ⟨_, _, _, _, _, _, _, _, _, _, _, _, _, _, _, _, _, _, _, _, _, _, _, _, _, _, _, f1, g1, hL, ⟨hC.1, hC.2.1, by rw [hC.2.2]⟩, n, beg, en, len, tc, ford n (stp len tc), rkg, h0, hB, hM, hQ, rfl, f2, g2, f3, hDM⟩
theorem s_road {biReadings biAlterations biRankings biLetters biCurrent biDue biSize biLsize : Int32} {bgCosts bgWorths bgMiddles bgApart bgApartWithout bgNeeded bgUps bgDowns bgKeys bgNexts bgShutKeys baCodes baPbegins baPends baPlengths baBegins baEnds baLengths baRanks baRoadsByRank baRow baRanksBefore baBusy baOpen baShut : Nat → Int32} {miPageLength miRoads miRead miAltered miRanked miStage miFigures miNewRoads miTold miRouted miRouteSum : Int32} {mjH : Int64} {maPage maBeginOf maEndOf maLengthOf maCosts maRankOf maRoadAt maWorths maMiddles maLeasts maBusy maNewBegin maNewEnd maNewLength maIsLeft maAround maWhole maIsNeeded maWereRanks maWaitFrom maWaitTo maToldAt maRisen maUps maTried maRoutes : Nat → Int32} (h : RC biReadings biAlterations biRankings biLetters biCurrent biDue biSize biLsize bgCosts bgWorths bgMiddles bgApart bgApartWithout bgNeeded bgUps bgDowns bgKeys bgNexts bgShutKeys baCodes baPbegins baPends baPlengths baBegins baEnds baLengths baRanks baRoadsByRank baRow baRanksBefore baBusy baOpen baShut miPageLength miRoads miRead miAltered miRanked miStage miFigures miNewRoads miTold miRouted miRouteSum mjH maPage maBeginOf maEndOf maLengthOf maCosts maRankOf maRoadAt maWorths maMiddles maLeasts maBusy maNewBegin maNewEnd maNewLength maIsLeft maAround maWhole maIsNeeded maWereRanks maWaitFrom maWaitTo maToldAt maRisen maUps maTried maRoutes) (a1 a2 : Int32) : ∃ (r : Int32), f7_road 1000 a1 biSize a2 baBegins baEnds baLengths baRanks biLsize bgMiddles baBusy = some r ∧ f8_road 1000 a1 miRoads a2 maBeginOf maEndOf maLengthOf maRankOf maWorths maMiddles maBusy = some r ∧ RC biReadings biAlterations biRankings biLetters biCurrent biDue biSize biLsize bgCosts bgWorths bgMiddles bgApart bgApartWithout bgNeeded bgUps bgDowns bgKeys bgNexts bgShutKeys baCodes baPbegins baPends baPlengths baBegins baEnds baLengths baRanks baRoadsByRank baRow baRanksBefore baBusy baOpen baShut miPageLength miRoads miRead miAltered miRanked miStage miFigures miNewRoads miTold miRouted miRouteSum mjH maPage maBeginOf maEndOf maLengthOf maCosts maRankOf maRoadAt maWorths maMiddles maLeasts maBusy maNewBegin maNewEnd maNewLength maIsLeft maAround maWhole maIsNeeded maWereRanks maWaitFrom maWaitTo maToldAt maRisen maUps maTried maRoutes := by
  obtain ⟨hL, hC, n, beg, en, len, tc, ord, rkf, h0, hB, hM, hP, hLs, hA, hAM, hD, hDM⟩ := h
  obtain rfl := hB.1
  obtain rfl := hM.1
  subst hLs
  have hn := h0.1
  rcases has_c a1 n hn with ⟨r, hr, rfl, q1, q2⟩ | ⟨q1, q2⟩
  · rcases rng_c a2 0 5 (by decide) (by decide) with ⟨k, k1, k2, rfl, k3, k4, k5⟩ | ⟨k1, k2⟩
    · refine ⟨_, roadB_s h0 hB hA hD hr k2, ?_, hL, hC, n, beg, en, len, tc, ord, rkf, h0, hB, hM, hP, rfl, hA, hAM, hD, hDM⟩
      unfold f8_road
      rw [q2, bnd1_s, if_neg i10, show f8_within (nI k) 0 5 = some 1 from k5, bnd1_s, if_neg i10, roadM_s h0 hM hP hAM hDM hr k2, bnd1_s, bnd1_s]
    · refine ⟨-102, ?_, ?_, hL, hC, n, beg, en, len, tc, ord, rkf, h0, hB, hM, hP, rfl, hA, hAM, hD, hDM⟩
      · unfold f7_road
        rw [q1, bnd1_s, if_neg i10, if_neg (show ¬ a2 = 0 from rng_ne (k := 0) k1 (by decide) (by decide) (by decide)), if_neg (show ¬ a2 = 1 from rng_ne (k := 1) k1 (by decide) (by decide) (by decide)), if_neg (show ¬ a2 = 2 from rng_ne (k := 2) k1 (by decide) (by decide) (by decide)), if_neg (show ¬ a2 = 3 from rng_ne (k := 3) k1 (by decide) (by decide) (by decide)), if_neg (show ¬ a2 = 4 from rng_ne (k := 4) k1 (by decide) (by decide) (by decide)), if_neg (show ¬ a2 = 5 from rng_ne (k := 5) k1 (by decide) (by decide) (by decide))]
      · unfold f8_road
        rw [q2, bnd1_s, if_neg i10, show f8_within a2 0 5 = some 0 from k2, bnd1_s, if_pos rfl, bnd1_s]
  · refine ⟨-101, ?_, ?_, hL, hC, n, beg, en, len, tc, ord, rkf, h0, hB, hM, hP, rfl, hA, hAM, hD, hDM⟩
    · unfold f7_road
      rw [q1, bnd1_s, if_pos rfl]
    · unfold f8_road
      rw [q2, bnd1_s, if_pos rfl]
theorem s_cost {biReadings biAlterations biRankings biLetters biCurrent biDue biSize biLsize : Int32} {bgCosts bgWorths bgMiddles bgApart bgApartWithout bgNeeded bgUps bgDowns bgKeys bgNexts bgShutKeys baCodes baPbegins baPends baPlengths baBegins baEnds baLengths baRanks baRoadsByRank baRow baRanksBefore baBusy baOpen baShut : Nat → Int32} {miPageLength miRoads miRead miAltered miRanked miStage miFigures miNewRoads miTold miRouted miRouteSum : Int32} {mjH : Int64} {maPage maBeginOf maEndOf maLengthOf maCosts maRankOf maRoadAt maWorths maMiddles maLeasts maBusy maNewBegin maNewEnd maNewLength maIsLeft maAround maWhole maIsNeeded maWereRanks maWaitFrom maWaitTo maToldAt maRisen maUps maTried maRoutes : Nat → Int32} (h : RC biReadings biAlterations biRankings biLetters biCurrent biDue biSize biLsize bgCosts bgWorths bgMiddles bgApart bgApartWithout bgNeeded bgUps bgDowns bgKeys bgNexts bgShutKeys baCodes baPbegins baPends baPlengths baBegins baEnds baLengths baRanks baRoadsByRank baRow baRanksBefore baBusy baOpen baShut miPageLength miRoads miRead miAltered miRanked miStage miFigures miNewRoads miTold miRouted miRouteSum mjH maPage maBeginOf maEndOf maLengthOf maCosts maRankOf maRoadAt maWorths maMiddles maLeasts maBusy maNewBegin maNewEnd maNewLength maIsLeft maAround maWhole maIsNeeded maWereRanks maWaitFrom maWaitTo maToldAt maRisen maUps maTried maRoutes) (a1 a2 : Int32) : ∃ (r : Int32), f7_cost a1 biSize a2 bgCosts = some r ∧ f8_cost a1 miRoads a2 maEndOf maBeginOf maCosts = some r ∧ RC biReadings biAlterations biRankings biLetters biCurrent biDue biSize biLsize bgCosts bgWorths bgMiddles bgApart bgApartWithout bgNeeded bgUps bgDowns bgKeys bgNexts bgShutKeys baCodes baPbegins baPends baPlengths baBegins baEnds baLengths baRanks baRoadsByRank baRow baRanksBefore baBusy baOpen baShut miPageLength miRoads miRead miAltered miRanked miStage miFigures miNewRoads miTold miRouted miRouteSum mjH maPage maBeginOf maEndOf maLengthOf maCosts maRankOf maRoadAt maWorths maMiddles maLeasts maBusy maNewBegin maNewEnd maNewLength maIsLeft maAround maWhole maIsNeeded maWereRanks maWaitFrom maWaitTo maToldAt maRisen maUps maTried maRoutes := by
  obtain ⟨hL, hC, n, beg, en, len, tc, ord, rkf, h0, hB, hM, hP, hLs, hA, hAM, hD, hDM⟩ := h
  obtain rfl := hB.1
  obtain rfl := hM.1
  subst hLs
  have hn := h0.1
  rcases both_c a1 a2 n hn with ⟨r, s, hr, hs, rfl, rfl, q1, q2⟩ | ⟨q1, q2⟩
  · have hT := h0.2.2.2.2 r s hr hs
    by_cases hrs : en r = beg s
    · refine ⟨cM (tc r s), ?_, ?_, hL, hC, n, beg, en, len, tc, ord, rkf, h0, hB, hM, hP, rfl, hA, hAM, hD, hDM⟩
      · unfold f7_cost
        rw [q1, bnd1_s, if_neg i10, hasTurn_s hn hB.2.2.2.2 h0.2.2.2.2 hr hs, if_pos hrs, bnd1_s, if_neg i10, get_s (by omega) (by omega), bnd1_s, bnd1_s, hB.2.2.2.2 r s hr hs, cBM (fun q => hT.2.mp q hrs) hT.1]
      · unfold f8_cost
        rw [q2, bnd1_s, if_neg i10, isTurn_s hn hM.2.1 hM.2.2.1 h0.2.1 hr hs, if_pos hrs, bnd1_s, if_neg i10, nx_m, nI_add, ckN (show 12 * r + s < 144 by omega), clN (by omega), bnd1_s, hM.2.2.2.2 r s hr hs]
    · refine ⟨-103, ?_, ?_, hL, hC, n, beg, en, len, tc, ord, rkf, h0, hB, hM, hP, rfl, hA, hAM, hD, hDM⟩
      · unfold f7_cost
        rw [q1, bnd1_s, if_neg i10, hasTurn_s hn hB.2.2.2.2 h0.2.2.2.2 hr hs, if_neg hrs, bnd1_s, if_pos rfl, bnd1_s]
      · unfold f8_cost
        rw [q2, bnd1_s, if_neg i10, isTurn_s hn hM.2.1 hM.2.2.1 h0.2.1 hr hs, if_neg hrs, bnd1_s, if_pos rfl, bnd1_s]
  · refine ⟨-101, ?_, ?_, hL, hC, n, beg, en, len, tc, ord, rkf, h0, hB, hM, hP, rfl, hA, hAM, hD, hDM⟩
    · unfold f7_cost
      rw [q1, bnd1_s, if_pos rfl]
    · unfold f8_cost
      rw [q2, bnd1_s, if_pos rfl]
theorem s_order {biReadings biAlterations biRankings biLetters biCurrent biDue biSize biLsize : Int32} {bgCosts bgWorths bgMiddles bgApart bgApartWithout bgNeeded bgUps bgDowns bgKeys bgNexts bgShutKeys baCodes baPbegins baPends baPlengths baBegins baEnds baLengths baRanks baRoadsByRank baRow baRanksBefore baBusy baOpen baShut : Nat → Int32} {miPageLength miRoads miRead miAltered miRanked miStage miFigures miNewRoads miTold miRouted miRouteSum : Int32} {mjH : Int64} {maPage maBeginOf maEndOf maLengthOf maCosts maRankOf maRoadAt maWorths maMiddles maLeasts maBusy maNewBegin maNewEnd maNewLength maIsLeft maAround maWhole maIsNeeded maWereRanks maWaitFrom maWaitTo maToldAt maRisen maUps maTried maRoutes : Nat → Int32} (h : RC biReadings biAlterations biRankings biLetters biCurrent biDue biSize biLsize bgCosts bgWorths bgMiddles bgApart bgApartWithout bgNeeded bgUps bgDowns bgKeys bgNexts bgShutKeys baCodes baPbegins baPends baPlengths baBegins baEnds baLengths baRanks baRoadsByRank baRow baRanksBefore baBusy baOpen baShut miPageLength miRoads miRead miAltered miRanked miStage miFigures miNewRoads miTold miRouted miRouteSum mjH maPage maBeginOf maEndOf maLengthOf maCosts maRankOf maRoadAt maWorths maMiddles maLeasts maBusy maNewBegin maNewEnd maNewLength maIsLeft maAround maWhole maIsNeeded maWereRanks maWaitFrom maWaitTo maToldAt maRisen maUps maTried maRoutes) (a1 : Int32) : ∃ (r : Int32), f7_order a1 biSize baRoadsByRank = some r ∧ f8_order a1 miRoads maRoadAt = some r ∧ RC biReadings biAlterations biRankings biLetters biCurrent biDue biSize biLsize bgCosts bgWorths bgMiddles bgApart bgApartWithout bgNeeded bgUps bgDowns bgKeys bgNexts bgShutKeys baCodes baPbegins baPends baPlengths baBegins baEnds baLengths baRanks baRoadsByRank baRow baRanksBefore baBusy baOpen baShut miPageLength miRoads miRead miAltered miRanked miStage miFigures miNewRoads miTold miRouted miRouteSum mjH maPage maBeginOf maEndOf maLengthOf maCosts maRankOf maRoadAt maWorths maMiddles maLeasts maBusy maNewBegin maNewEnd maNewLength maIsLeft maAround maWhole maIsNeeded maWereRanks maWaitFrom maWaitTo maToldAt maRisen maUps maTried maRoutes := by
  obtain ⟨hL, hC, n, beg, en, len, tc, ord, rkf, h0, hB, hM, hP, hLs, hA, hAM, hD, hDM⟩ := h
  obtain rfl := hB.1
  obtain rfl := hM.1
  subst hLs
  have hn := h0.1
  rcases has_c a1 n hn with ⟨r, hr, rfl, q1, q2⟩ | ⟨q1, q2⟩
  · refine ⟨nI (ord r), ?_, ?_, hL, hC, n, beg, en, len, tc, ord, rkf, h0, hB, hM, hP, rfl, hA, hAM, hD, hDM⟩
    · unfold f7_order
      rw [q1, bnd1_s, if_neg i10, ckN (by omega), clN (by omega), bnd1_s, hA.2.2.2 r hr]
    · unfold f8_order
      rw [q2, bnd1_s, if_neg i10, ckN (by omega), clN (by omega), bnd1_s, hAM.2.2.2 r hr]
  · refine ⟨-101, ?_, ?_, hL, hC, n, beg, en, len, tc, ord, rkf, h0, hB, hM, hP, rfl, hA, hAM, hD, hDM⟩
    · unfold f7_order
      rw [q1, bnd1_s, if_pos rfl, bnd1_s]
    · unfold f8_order
      rw [q2, bnd1_s, if_pos rfl, bnd1_s]
theorem s_least {biReadings biAlterations biRankings biLetters biCurrent biDue biSize biLsize : Int32} {bgCosts bgWorths bgMiddles bgApart bgApartWithout bgNeeded bgUps bgDowns bgKeys bgNexts bgShutKeys baCodes baPbegins baPends baPlengths baBegins baEnds baLengths baRanks baRoadsByRank baRow baRanksBefore baBusy baOpen baShut : Nat → Int32} {miPageLength miRoads miRead miAltered miRanked miStage miFigures miNewRoads miTold miRouted miRouteSum : Int32} {mjH : Int64} {maPage maBeginOf maEndOf maLengthOf maCosts maRankOf maRoadAt maWorths maMiddles maLeasts maBusy maNewBegin maNewEnd maNewLength maIsLeft maAround maWhole maIsNeeded maWereRanks maWaitFrom maWaitTo maToldAt maRisen maUps maTried maRoutes : Nat → Int32} (h : RC biReadings biAlterations biRankings biLetters biCurrent biDue biSize biLsize bgCosts bgWorths bgMiddles bgApart bgApartWithout bgNeeded bgUps bgDowns bgKeys bgNexts bgShutKeys baCodes baPbegins baPends baPlengths baBegins baEnds baLengths baRanks baRoadsByRank baRow baRanksBefore baBusy baOpen baShut miPageLength miRoads miRead miAltered miRanked miStage miFigures miNewRoads miTold miRouted miRouteSum mjH maPage maBeginOf maEndOf maLengthOf maCosts maRankOf maRoadAt maWorths maMiddles maLeasts maBusy maNewBegin maNewEnd maNewLength maIsLeft maAround maWhole maIsNeeded maWereRanks maWaitFrom maWaitTo maToldAt maRisen maUps maTried maRoutes) (a1 a2 : Int32) : ∃ (r : Int32), f7_least a1 biSize a2 bgKeys = some r ∧ f8_least a1 miRoads a2 maLeasts = some r ∧ RC biReadings biAlterations biRankings biLetters biCurrent biDue biSize biLsize bgCosts bgWorths bgMiddles bgApart bgApartWithout bgNeeded bgUps bgDowns bgKeys bgNexts bgShutKeys baCodes baPbegins baPends baPlengths baBegins baEnds baLengths baRanks baRoadsByRank baRow baRanksBefore baBusy baOpen baShut miPageLength miRoads miRead miAltered miRanked miStage miFigures miNewRoads miTold miRouted miRouteSum mjH maPage maBeginOf maEndOf maLengthOf maCosts maRankOf maRoadAt maWorths maMiddles maLeasts maBusy maNewBegin maNewEnd maNewLength maIsLeft maAround maWhole maIsNeeded maWereRanks maWaitFrom maWaitTo maToldAt maRisen maUps maTried maRoutes := by
  obtain ⟨hL, hC, n, beg, en, len, tc, ord, rkf, h0, hB, hM, hP, hLs, hA, hAM, hD, hDM⟩ := h
  obtain rfl := hB.1
  obtain rfl := hM.1
  subst hLs
  have hn := h0.1
  rcases both_c a1 a2 n hn with ⟨r, s, hr, hs, rfl, rfl, q1, q2⟩ | ⟨q1, q2⟩
  · refine ⟨orN (fw (scl 1 (stp len tc)) n r s), ?_, ?_, hL, hC, n, beg, en, len, tc, ord, rkf, h0, hB, hM, hP, rfl, hA, hAM, hD, hDM⟩
    · unfold f7_least
      rw [q1, bnd1_s, if_neg i10, leastB_s h0 hD hr hs, bnd1_s, bnd1_s]
    · unfold f8_least
      rw [q2, bnd1_s, if_neg i10, leastM_s h0 hDM hr hs, bnd1_s, bnd1_s]
  · refine ⟨-101, ?_, ?_, hL, hC, n, beg, en, len, tc, ord, rkf, h0, hB, hM, hP, rfl, hA, hAM, hD, hDM⟩
    · unfold f7_least
      rw [q1, bnd1_s, if_pos rfl, bnd1_s]
    · unfold f8_least
      rw [q2, bnd1_s, if_pos rfl, bnd1_s]
theorem s_way {biReadings biAlterations biRankings biLetters biCurrent biDue biSize biLsize : Int32} {bgCosts bgWorths bgMiddles bgApart bgApartWithout bgNeeded bgUps bgDowns bgKeys bgNexts bgShutKeys baCodes baPbegins baPends baPlengths baBegins baEnds baLengths baRanks baRoadsByRank baRow baRanksBefore baBusy baOpen baShut : Nat → Int32} {miPageLength miRoads miRead miAltered miRanked miStage miFigures miNewRoads miTold miRouted miRouteSum : Int32} {mjH : Int64} {maPage maBeginOf maEndOf maLengthOf maCosts maRankOf maRoadAt maWorths maMiddles maLeasts maBusy maNewBegin maNewEnd maNewLength maIsLeft maAround maWhole maIsNeeded maWereRanks maWaitFrom maWaitTo maToldAt maRisen maUps maTried maRoutes : Nat → Int32} (h : RC biReadings biAlterations biRankings biLetters biCurrent biDue biSize biLsize bgCosts bgWorths bgMiddles bgApart bgApartWithout bgNeeded bgUps bgDowns bgKeys bgNexts bgShutKeys baCodes baPbegins baPends baPlengths baBegins baEnds baLengths baRanks baRoadsByRank baRow baRanksBefore baBusy baOpen baShut miPageLength miRoads miRead miAltered miRanked miStage miFigures miNewRoads miTold miRouted miRouteSum mjH maPage maBeginOf maEndOf maLengthOf maCosts maRankOf maRoadAt maWorths maMiddles maLeasts maBusy maNewBegin maNewEnd maNewLength maIsLeft maAround maWhole maIsNeeded maWereRanks maWaitFrom maWaitTo maToldAt maRisen maUps maTried maRoutes) (a1 a2 a3 : Int32) : ∃ (r : Int32), f7_way 1000 a1 biSize a2 bgKeys a3 bgNexts = some r ∧ f8_way 1000 a1 miRoads a2 maLeasts a3 maCosts maLengthOf = some r ∧ RC biReadings biAlterations biRankings biLetters biCurrent biDue biSize biLsize bgCosts bgWorths bgMiddles bgApart bgApartWithout bgNeeded bgUps bgDowns bgKeys bgNexts bgShutKeys baCodes baPbegins baPends baPlengths baBegins baEnds baLengths baRanks baRoadsByRank baRow baRanksBefore baBusy baOpen baShut miPageLength miRoads miRead miAltered miRanked miStage miFigures miNewRoads miTold miRouted miRouteSum mjH maPage maBeginOf maEndOf maLengthOf maCosts maRankOf maRoadAt maWorths maMiddles maLeasts maBusy maNewBegin maNewEnd maNewLength maIsLeft maAround maWhole maIsNeeded maWereRanks maWaitFrom maWaitTo maToldAt maRisen maUps maTried maRoutes := by
  obtain ⟨hL, hC, n, beg, en, len, tc, ord, rkf, h0, hB, hM, hP, hLs, hA, hAM, hD, hDM⟩ := h
  obtain rfl := hB.1
  obtain rfl := hM.1
  subst hLs
  have hn := h0.1
  rcases both_c a1 a2 n hn with ⟨r, s, hr, hs, rfl, rfl, q1, q2⟩ | ⟨q1, q2⟩
  · obtain ⟨v, e1, e2⟩ := roadOn_s h0 hM hD hDM hr hs a3 q1 q2
    exact ⟨v, e1, e2, hL, hC, n, beg, en, len, tc, ord, rkf, h0, hB, hM, hP, rfl, hA, hAM, hD, hDM⟩
  · refine ⟨-101, ?_, ?_, hL, hC, n, beg, en, len, tc, ord, rkf, h0, hB, hM, hP, rfl, hA, hAM, hD, hDM⟩
    · unfold f7_way
      rw [q1, bnd1_s, if_pos rfl, bnd1_s]
    · unfold f8_way
      rw [q2, bnd1_s, if_pos rfl]
theorem s_arc {biReadings biAlterations biRankings biLetters biCurrent biDue biSize biLsize : Int32} {bgCosts bgWorths bgMiddles bgApart bgApartWithout bgNeeded bgUps bgDowns bgKeys bgNexts bgShutKeys baCodes baPbegins baPends baPlengths baBegins baEnds baLengths baRanks baRoadsByRank baRow baRanksBefore baBusy baOpen baShut : Nat → Int32} {miPageLength miRoads miRead miAltered miRanked miStage miFigures miNewRoads miTold miRouted miRouteSum : Int32} {mjH : Int64} {maPage maBeginOf maEndOf maLengthOf maCosts maRankOf maRoadAt maWorths maMiddles maLeasts maBusy maNewBegin maNewEnd maNewLength maIsLeft maAround maWhole maIsNeeded maWereRanks maWaitFrom maWaitTo maToldAt maRisen maUps maTried maRoutes : Nat → Int32} (h : RC biReadings biAlterations biRankings biLetters biCurrent biDue biSize biLsize bgCosts bgWorths bgMiddles bgApart bgApartWithout bgNeeded bgUps bgDowns bgKeys bgNexts bgShutKeys baCodes baPbegins baPends baPlengths baBegins baEnds baLengths baRanks baRoadsByRank baRow baRanksBefore baBusy baOpen baShut miPageLength miRoads miRead miAltered miRanked miStage miFigures miNewRoads miTold miRouted miRouteSum mjH maPage maBeginOf maEndOf maLengthOf maCosts maRankOf maRoadAt maWorths maMiddles maLeasts maBusy maNewBegin maNewEnd maNewLength maIsLeft maAround maWhole maIsNeeded maWereRanks maWaitFrom maWaitTo maToldAt maRisen maUps maTried maRoutes) (a1 a2 a3 : Int32) : ∃ (r : Int32) (obaRow : Nat → Int32) (omiTold : Int32) (omaWaitFrom : Nat → Int32) (omaWaitTo : Nat → Int32) (omaToldAt : Nat → Int32), f7_arc 1000 a1 biSize a2 baRow a3 bgWorths bgMiddles baRanks = some (r, obaRow) ∧ f8_arc 1000 a1 miRoads a2 miTold maWaitFrom maWaitTo maToldAt a3 maWorths maMiddles maRankOf = some (r, omiTold, omaWaitFrom, omaWaitTo, omaToldAt) ∧ RC biReadings biAlterations biRankings biLetters biCurrent biDue biSize biLsize bgCosts bgWorths bgMiddles bgApart bgApartWithout bgNeeded bgUps bgDowns bgKeys bgNexts bgShutKeys baCodes baPbegins baPends baPlengths baBegins baEnds baLengths baRanks baRoadsByRank obaRow baRanksBefore baBusy baOpen baShut miPageLength miRoads miRead miAltered miRanked miStage miFigures miNewRoads omiTold miRouted miRouteSum mjH maPage maBeginOf maEndOf maLengthOf maCosts maRankOf maRoadAt maWorths maMiddles maLeasts maBusy maNewBegin maNewEnd maNewLength maIsLeft maAround maWhole maIsNeeded maWereRanks omaWaitFrom omaWaitTo omaToldAt maRisen maUps maTried maRoutes := by
  obtain ⟨hL, hC, n, beg, en, len, tc, ord, rkf, h0, hB, hM, hP, hLs, hA, hAM, hD, hDM⟩ := h
  obtain rfl := hB.1
  obtain rfl := hM.1
  subst hLs
  have hn := h0.1
  rcases both_c a1 a2 n hn with ⟨r, s, hr, hs, rfl, rfl, q1, q2⟩ | ⟨q1, q2⟩
  · rcases rng_c a3 0 3 (by decide) (by decide) with ⟨k, k1, k2, rfl, k3, k4, k5⟩ | ⟨k1, k2⟩
    · obtain ⟨row', e1⟩ := arcB_s h0 hP hA hr hs k2 baRow q1
      obtain ⟨t', wf', wt', ta', e2⟩ := arcM_s h0 hP hAM hr hs k2 miTold maWaitFrom maWaitTo maToldAt
      refine ⟨_, row', t', wf', wt', ta', e1, ?_, hL, hC, n, beg, en, len, tc, ord, rkf, h0, hB, hM, hP, rfl, hA, hAM, hD, hDM⟩
      unfold f8_arc
      rw [q2, bnd1_s, if_neg i10, show f8_within (nI k) 0 3 = some 1 from k5, bnd1_s, if_neg i10, e2, bnd5_s, bnd5_s]
    · refine ⟨-102, baRow, miTold, maWaitFrom, maWaitTo, maToldAt, ?_, ?_, hL, hC, n, beg, en, len, tc, ord, rkf, h0, hB, hM, hP, rfl, hA, hAM, hD, hDM⟩
      · unfold f7_arc
        rw [q1, bnd1_s, if_neg i10]
        rcases k1 with q | q
        · rw [if_pos (show a3 < (0 : Int32) from q)]
        · rw [if_neg (show ¬ a3 < (0 : Int32) from q.1), if_neg (show ¬ a3 ≤ (3 : Int32) from q.2)]
      · unfold f8_arc
        rw [q2, bnd1_s, if_neg i10, show f8_within a3 0 3 = some 0 from k2, bnd1_s, if_pos rfl, bnd5_s]
  · refine ⟨-101, baRow, miTold, maWaitFrom, maWaitTo, maToldAt, ?_, ?_, hL, hC, n, beg, en, len, tc, ord, rkf, h0, hB, hM, hP, rfl, hA, hAM, hD, hDM⟩
    · unfold f7_arc
      rw [q1, bnd1_s, if_pos rfl]
    · unfold f8_arc
      rw [q2, bnd1_s, if_pos rfl]
theorem s_unpacked {biReadings biAlterations biRankings biLetters biCurrent biDue biSize biLsize : Int32} {bgCosts bgWorths bgMiddles bgApart bgApartWithout bgNeeded bgUps bgDowns bgKeys bgNexts bgShutKeys baCodes baPbegins baPends baPlengths baBegins baEnds baLengths baRanks baRoadsByRank baRow baRanksBefore baBusy baOpen baShut : Nat → Int32} {miPageLength miRoads miRead miAltered miRanked miStage miFigures miNewRoads miTold miRouted miRouteSum : Int32} {mjH : Int64} {maPage maBeginOf maEndOf maLengthOf maCosts maRankOf maRoadAt maWorths maMiddles maLeasts maBusy maNewBegin maNewEnd maNewLength maIsLeft maAround maWhole maIsNeeded maWereRanks maWaitFrom maWaitTo maToldAt maRisen maUps maTried maRoutes : Nat → Int32} (h : RC biReadings biAlterations biRankings biLetters biCurrent biDue biSize biLsize bgCosts bgWorths bgMiddles bgApart bgApartWithout bgNeeded bgUps bgDowns bgKeys bgNexts bgShutKeys baCodes baPbegins baPends baPlengths baBegins baEnds baLengths baRanks baRoadsByRank baRow baRanksBefore baBusy baOpen baShut miPageLength miRoads miRead miAltered miRanked miStage miFigures miNewRoads miTold miRouted miRouteSum mjH maPage maBeginOf maEndOf maLengthOf maCosts maRankOf maRoadAt maWorths maMiddles maLeasts maBusy maNewBegin maNewEnd maNewLength maIsLeft maAround maWhole maIsNeeded maWereRanks maWaitFrom maWaitTo maToldAt maRisen maUps maTried maRoutes) (a1 a2 a3 : Int32) : ∃ (r : Int32) (obaRow : Nat → Int32) (omiTold : Int32) (omaWaitFrom : Nat → Int32) (omaWaitTo : Nat → Int32) (omaToldAt : Nat → Int32), f7_unpacked 1000 a1 biSize a2 baRow bgWorths bgMiddles a3 = some (r, obaRow) ∧ f8_unpacked 1000 a1 miRoads a2 miTold maWaitFrom maWaitTo maToldAt maWorths maMiddles a3 = some (r, omiTold, omaWaitFrom, omaWaitTo, omaToldAt) ∧ RC biReadings biAlterations biRankings biLetters biCurrent biDue biSize biLsize bgCosts bgWorths bgMiddles bgApart bgApartWithout bgNeeded bgUps bgDowns bgKeys bgNexts bgShutKeys baCodes baPbegins baPends baPlengths baBegins baEnds baLengths baRanks baRoadsByRank obaRow baRanksBefore baBusy baOpen baShut miPageLength miRoads miRead miAltered miRanked miStage miFigures miNewRoads omiTold miRouted miRouteSum mjH maPage maBeginOf maEndOf maLengthOf maCosts maRankOf maRoadAt maWorths maMiddles maLeasts maBusy maNewBegin maNewEnd maNewLength maIsLeft maAround maWhole maIsNeeded maWereRanks omaWaitFrom omaWaitTo omaToldAt maRisen maUps maTried maRoutes := by
  obtain ⟨hL, hC, n, beg, en, len, tc, ord, rkf, h0, hB, hM, hP, hLs, hA, hAM, hD, hDM⟩ := h
  obtain rfl := hB.1
  obtain rfl := hM.1
  subst hLs
  have hn := h0.1
  rcases both_c a1 a2 n hn with ⟨r, s, hr, hs, rfl, rfl, q1, q2⟩ | ⟨q1, q2⟩
  · have hww := hAM.1 r s hr hs
    by_cases hw : WW n len tc ord r s < FA
    · have hMd : ∀ u x, u < n → x < n → MM n len tc ord u x = 99 ∨ MM n len tc ord u x < n := fun u x hu hx => by
        rcases Md_ok h0 hP u x hu hx with q | q
        · exact Or.inl q
        · exact Or.inr q.1
      have hll := upl_len hn h0.S.1 (UH_of hn h0.S hP) r s hr hs hw
      obtain ⟨row', e1, e3⟩ := unpack_s (fu := 1000) (row := baRow) hn (by decide) h0.S.1 (UH_of hn h0.S hP) hA.2.1 hMd hr hs hw
      obtain ⟨wf', wt', ta', e2, e4⟩ := layUnpacked_s (fu := 1000) (wf := maWaitFrom) (wt := maWaitTo) (ta := maToldAt) hn (by decide) h0.S.1 (UH_of hn h0.S hP) hAM.2.1 hMd hr hs hw
      generalize hle : (upl (kst n (stp len tc) ord n).2.1 r s).length = L at hll e1 e2 e3 e4
      have eB : ∀ v, (if a3 < 0 then (some (-1 : Int32)) else if nI (1 + L) ≤ a3 then (some (-1)) else ckin a3 12 (some (row' a3.toNatClampNeg))) = some v → f7_unpacked 1000 (nI r) (nI n) (nI s) baRow bgWorths bgMiddles a3 = some (v, row') := fun v hv => by
        unfold f7_unpacked
        rw [q1, bnd1_s, if_neg i10, hasArc_s hn hA.1 hr hs, if_pos hw, bnd1_s, if_neg i10, e1, bnd2_s, hv, bnd1_s]
      have eM : ∀ v, (bnd1 (f8_within a3 0 (nI (1 + L) - 1)) fun (r_11 : Int32) => (if r_11 = 0 then (some (-1 : Int32)) else ckin a3 64 (some (ta' a3.toNatClampNeg)))) = some v → f8_unpacked 1000 (nI r) (nI n) (nI s) miTold maWaitFrom maWaitTo maToldAt maWorths maMiddles a3 = some (v, nI (1 + L), wf', wt', ta') := fun v hv => by
        unfold f8_unpacked
        rw [q2, bnd1_s, if_neg i10, nx_m, nI_add, ckN (show 12 * r + s < 144 by omega), clN (by omega), hww.1, if_pos ((FA_lt hww.2).mpr hw), e2, bnd4_s]
        cases hy : f8_within a3 0 (nI (1 + L) - 1) with
        | none => rw [hy] at hv; exact absurd hv (fun q => by cases q)
        | some y =>
          rw [hy, bnd1_s] at hv
          rw [bnd1_s, hv, bnd1_s]
      have e5 : nI (1 + L) - 1 = nI L := by rw [show (1 : Int32) = nI 1 from rfl, pk_sub (by omega), show 1 + L - 1 = L by omega]
      rw [e5] at eM
      rcases rng_c a3 0 L (Nat.zero_le _) (by omega) with ⟨k, k1, k2, rfl, k3, k4, k5⟩ | ⟨k1, k2⟩
      · refine ⟨nI ((r :: upl (kst n (stp len tc) ord n).2.1 r s).getD k 0), row', nI (1 + L), wf', wt', ta', eB _ ?_, eM _ ?_, hL, hC, n, beg, en, len, tc, ord, rkf, h0, hB, hM, hP, rfl, hA, hAM, hD, hDM⟩
        · rw [if_neg (nI_pos (by omega)), if_neg (nI_ge (show k < 1 + L by omega) (by omega)), ckN (show k < 12 by omega), clN (by omega), e3 k (by omega)]
        · rw [show f8_within (nI k) 0 (nI L) = some 1 from k5, bnd1_s, if_neg i10, ckN (show k < 64 by omega), clN (by omega), e4 k (by omega)]
      · refine ⟨-1, row', nI (1 + L), wf', wt', ta', eB _ ?_, eM _ ?_, hL, hC, n, beg, en, len, tc, ord, rkf, h0, hB, hM, hP, rfl, hA, hAM, hD, hDM⟩
        · rcases k1 with q | q
          · rw [if_pos (show a3 < (0 : Int32) from q)]
          · have h9 : nI (1 + L) ≤ a3 := by
              have h8 := q.2
              rw [Int32.le_iff_toInt_le, nI_toInt (by omega)] at h8
              rw [Int32.le_iff_toInt_le, nI_toInt (by omega)]
              omega
            rw [if_neg (show ¬ a3 < (0 : Int32) from q.1), if_pos h9]
        · rw [show f8_within a3 0 (nI L) = some 0 from k2, bnd1_s, if_pos rfl]
    · refine ⟨-1, baRow, miTold, maWaitFrom, maWaitTo, maToldAt, ?_, ?_, hL, hC, n, beg, en, len, tc, ord, rkf, h0, hB, hM, hP, rfl, hA, hAM, hD, hDM⟩
      · unfold f7_unpacked
        rw [q1, bnd1_s, if_neg i10, hasArc_s hn hA.1 hr hs, if_neg hw, bnd1_s, if_pos rfl]
      · unfold f8_unpacked
        rw [q2, bnd1_s, if_neg i10, nx_m, nI_add, ckN (show 12 * r + s < 144 by omega), clN (by omega), hww.1, if_neg (fun q => hw ((FA_lt hww.2).mp q))]
  · refine ⟨-101, baRow, miTold, maWaitFrom, maWaitTo, maToldAt, ?_, ?_, hL, hC, n, beg, en, len, tc, ord, rkf, h0, hB, hM, hP, rfl, hA, hAM, hD, hDM⟩
    · unfold f7_unpacked
      rw [q1, bnd1_s, if_pos rfl]
    · unfold f8_unpacked
      rw [q2, bnd1_s, if_pos rfl]
theorem s_up {biReadings biAlterations biRankings biLetters biCurrent biDue biSize biLsize : Int32} {bgCosts bgWorths bgMiddles bgApart bgApartWithout bgNeeded bgUps bgDowns bgKeys bgNexts bgShutKeys baCodes baPbegins baPends baPlengths baBegins baEnds baLengths baRanks baRoadsByRank baRow baRanksBefore baBusy baOpen baShut : Nat → Int32} {miPageLength miRoads miRead miAltered miRanked miStage miFigures miNewRoads miTold miRouted miRouteSum : Int32} {mjH : Int64} {maPage maBeginOf maEndOf maLengthOf maCosts maRankOf maRoadAt maWorths maMiddles maLeasts maBusy maNewBegin maNewEnd maNewLength maIsLeft maAround maWhole maIsNeeded maWereRanks maWaitFrom maWaitTo maToldAt maRisen maUps maTried maRoutes : Nat → Int32} (h : RC biReadings biAlterations biRankings biLetters biCurrent biDue biSize biLsize bgCosts bgWorths bgMiddles bgApart bgApartWithout bgNeeded bgUps bgDowns bgKeys bgNexts bgShutKeys baCodes baPbegins baPends baPlengths baBegins baEnds baLengths baRanks baRoadsByRank baRow baRanksBefore baBusy baOpen baShut miPageLength miRoads miRead miAltered miRanked miStage miFigures miNewRoads miTold miRouted miRouteSum mjH maPage maBeginOf maEndOf maLengthOf maCosts maRankOf maRoadAt maWorths maMiddles maLeasts maBusy maNewBegin maNewEnd maNewLength maIsLeft maAround maWhole maIsNeeded maWereRanks maWaitFrom maWaitTo maToldAt maRisen maUps maTried maRoutes) (a1 a2 : Int32) : ∃ (r : Int32) (omaRisen : Nat → Int32), f7_up a1 biSize a2 bgUps = some r ∧ f8_up 1000 a1 miRoads a2 maRisen maRoadAt maWorths = some (r, omaRisen) ∧ RC biReadings biAlterations biRankings biLetters biCurrent biDue biSize biLsize bgCosts bgWorths bgMiddles bgApart bgApartWithout bgNeeded bgUps bgDowns bgKeys bgNexts bgShutKeys baCodes baPbegins baPends baPlengths baBegins baEnds baLengths baRanks baRoadsByRank baRow baRanksBefore baBusy baOpen baShut miPageLength miRoads miRead miAltered miRanked miStage miFigures miNewRoads miTold miRouted miRouteSum mjH maPage maBeginOf maEndOf maLengthOf maCosts maRankOf maRoadAt maWorths maMiddles maLeasts maBusy maNewBegin maNewEnd maNewLength maIsLeft maAround maWhole maIsNeeded maWereRanks maWaitFrom maWaitTo maToldAt omaRisen maUps maTried maRoutes := by
  obtain ⟨hL, hC, n, beg, en, len, tc, ord, rkf, h0, hB, hM, hP, hLs, hA, hAM, hD, hDM⟩ := h
  obtain rfl := hB.1
  obtain rfl := hM.1
  subst hLs
  have hn := h0.1
  rcases both_c a1 a2 n hn with ⟨r, s, hr, hs, rfl, rfl, q1, q2⟩ | ⟨q1, q2⟩
  · obtain ⟨a', e1⟩ := risenUp_s h0 hP hAM hr hs maRisen
    have hg := hD.1 r s hr hs
    refine ⟨orN (fw (dU rkf (WW n len tc ord)) n r s), a', ?_, ?_, hL, hC, n, beg, en, len, tc, ord, rkf, h0, hB, hM, hP, rfl, hA, hAM, hD, hDM⟩
    · unfold f7_up
      rw [q1, bnd1_s, if_neg i10, get_s (by omega) (by omega), bnd1_s, hg.1, orNone_s hg.2, bnd1_s, bnd1_s]
    · unfold f8_up
      rw [q2, bnd1_s, if_neg i10, e1, bnd2_s, bnd2_s]
  · refine ⟨-101, maRisen, ?_, ?_, hL, hC, n, beg, en, len, tc, ord, rkf, h0, hB, hM, hP, rfl, hA, hAM, hD, hDM⟩
    · unfold f7_up
      rw [q1, bnd1_s, if_pos rfl, bnd1_s]
    · unfold f8_up
      rw [q2, bnd1_s, if_pos rfl, bnd2_s]
theorem s_down {biReadings biAlterations biRankings biLetters biCurrent biDue biSize biLsize : Int32} {bgCosts bgWorths bgMiddles bgApart bgApartWithout bgNeeded bgUps bgDowns bgKeys bgNexts bgShutKeys baCodes baPbegins baPends baPlengths baBegins baEnds baLengths baRanks baRoadsByRank baRow baRanksBefore baBusy baOpen baShut : Nat → Int32} {miPageLength miRoads miRead miAltered miRanked miStage miFigures miNewRoads miTold miRouted miRouteSum : Int32} {mjH : Int64} {maPage maBeginOf maEndOf maLengthOf maCosts maRankOf maRoadAt maWorths maMiddles maLeasts maBusy maNewBegin maNewEnd maNewLength maIsLeft maAround maWhole maIsNeeded maWereRanks maWaitFrom maWaitTo maToldAt maRisen maUps maTried maRoutes : Nat → Int32} (h : RC biReadings biAlterations biRankings biLetters biCurrent biDue biSize biLsize bgCosts bgWorths bgMiddles bgApart bgApartWithout bgNeeded bgUps bgDowns bgKeys bgNexts bgShutKeys baCodes baPbegins baPends baPlengths baBegins baEnds baLengths baRanks baRoadsByRank baRow baRanksBefore baBusy baOpen baShut miPageLength miRoads miRead miAltered miRanked miStage miFigures miNewRoads miTold miRouted miRouteSum mjH maPage maBeginOf maEndOf maLengthOf maCosts maRankOf maRoadAt maWorths maMiddles maLeasts maBusy maNewBegin maNewEnd maNewLength maIsLeft maAround maWhole maIsNeeded maWereRanks maWaitFrom maWaitTo maToldAt maRisen maUps maTried maRoutes) (a1 a2 : Int32) : ∃ (r : Int32) (omaRisen : Nat → Int32), f7_down a1 biSize a2 bgDowns = some r ∧ f8_down 1000 a1 miRoads a2 maRisen maRoadAt maWorths = some (r, omaRisen) ∧ RC biReadings biAlterations biRankings biLetters biCurrent biDue biSize biLsize bgCosts bgWorths bgMiddles bgApart bgApartWithout bgNeeded bgUps bgDowns bgKeys bgNexts bgShutKeys baCodes baPbegins baPends baPlengths baBegins baEnds baLengths baRanks baRoadsByRank baRow baRanksBefore baBusy baOpen baShut miPageLength miRoads miRead miAltered miRanked miStage miFigures miNewRoads miTold miRouted miRouteSum mjH maPage maBeginOf maEndOf maLengthOf maCosts maRankOf maRoadAt maWorths maMiddles maLeasts maBusy maNewBegin maNewEnd maNewLength maIsLeft maAround maWhole maIsNeeded maWereRanks maWaitFrom maWaitTo maToldAt omaRisen maUps maTried maRoutes := by
  obtain ⟨hL, hC, n, beg, en, len, tc, ord, rkf, h0, hB, hM, hP, hLs, hA, hAM, hD, hDM⟩ := h
  obtain rfl := hB.1
  obtain rfl := hM.1
  subst hLs
  have hn := h0.1
  rcases both_c a1 a2 n hn with ⟨r, s, hr, hs, rfl, rfl, q1, q2⟩ | ⟨q1, q2⟩
  · obtain ⟨a', e1⟩ := risenDn_s h0 hP hAM hr hs maRisen
    have hg := hD.2.1 r s hr hs
    refine ⟨orN (fw (dU (fun r => n - 1 - rkf r) (WW n len tc ord)) n r s), a', ?_, ?_, hL, hC, n, beg, en, len, tc, ord, rkf, h0, hB, hM, hP, rfl, hA, hAM, hD, hDM⟩
    · unfold f7_down
      rw [q1, bnd1_s, if_neg i10, get_s (by omega) (by omega), bnd1_s, hg.1, orNone_s hg.2, bnd1_s, bnd1_s]
    · unfold f8_down
      rw [q2, bnd1_s, if_neg i10, e1, bnd2_s, bnd2_s]
  · refine ⟨-101, maRisen, ?_, ?_, hL, hC, n, beg, en, len, tc, ord, rkf, h0, hB, hM, hP, rfl, hA, hAM, hD, hDM⟩
    · unfold f7_down
      rw [q1, bnd1_s, if_pos rfl, bnd1_s]
    · unfold f8_down
      rw [q2, bnd1_s, if_pos rfl, bnd2_s]
theorem s_meet {biReadings biAlterations biRankings biLetters biCurrent biDue biSize biLsize : Int32} {bgCosts bgWorths bgMiddles bgApart bgApartWithout bgNeeded bgUps bgDowns bgKeys bgNexts bgShutKeys baCodes baPbegins baPends baPlengths baBegins baEnds baLengths baRanks baRoadsByRank baRow baRanksBefore baBusy baOpen baShut : Nat → Int32} {miPageLength miRoads miRead miAltered miRanked miStage miFigures miNewRoads miTold miRouted miRouteSum : Int32} {mjH : Int64} {maPage maBeginOf maEndOf maLengthOf maCosts maRankOf maRoadAt maWorths maMiddles maLeasts maBusy maNewBegin maNewEnd maNewLength maIsLeft maAround maWhole maIsNeeded maWereRanks maWaitFrom maWaitTo maToldAt maRisen maUps maTried maRoutes : Nat → Int32} (h : RC biReadings biAlterations biRankings biLetters biCurrent biDue biSize biLsize bgCosts bgWorths bgMiddles bgApart bgApartWithout bgNeeded bgUps bgDowns bgKeys bgNexts bgShutKeys baCodes baPbegins baPends baPlengths baBegins baEnds baLengths baRanks baRoadsByRank baRow baRanksBefore baBusy baOpen baShut miPageLength miRoads miRead miAltered miRanked miStage miFigures miNewRoads miTold miRouted miRouteSum mjH maPage maBeginOf maEndOf maLengthOf maCosts maRankOf maRoadAt maWorths maMiddles maLeasts maBusy maNewBegin maNewEnd maNewLength maIsLeft maAround maWhole maIsNeeded maWereRanks maWaitFrom maWaitTo maToldAt maRisen maUps maTried maRoutes) (a1 a2 : Int32) : ∃ (r : Int32) (omaRisen : Nat → Int32) (omaUps : Nat → Int32), f7_meet 1000 a1 biSize a2 bgUps bgDowns = some r ∧ f8_meet 1000 a1 miRoads a2 maRisen maUps maRoadAt maWorths = some (r, omaRisen, omaUps) ∧ RC biReadings biAlterations biRankings biLetters biCurrent biDue biSize biLsize bgCosts bgWorths bgMiddles bgApart bgApartWithout bgNeeded bgUps bgDowns bgKeys bgNexts bgShutKeys baCodes baPbegins baPends baPlengths baBegins baEnds baLengths baRanks baRoadsByRank baRow baRanksBefore baBusy baOpen baShut miPageLength miRoads miRead miAltered miRanked miStage miFigures miNewRoads miTold miRouted miRouteSum mjH maPage maBeginOf maEndOf maLengthOf maCosts maRankOf maRoadAt maWorths maMiddles maLeasts maBusy maNewBegin maNewEnd maNewLength maIsLeft maAround maWhole maIsNeeded maWereRanks maWaitFrom maWaitTo maToldAt omaRisen omaUps maTried maRoutes := by
  obtain ⟨hL, hC, n, beg, en, len, tc, ord, rkf, h0, hB, hM, hP, hLs, hA, hAM, hD, hDM⟩ := h
  obtain rfl := hB.1
  obtain rfl := hM.1
  subst hLs
  have hn := h0.1
  rcases both_c a1 a2 n hn with ⟨r, s, hr, hs, rfl, rfl, q1, q2⟩ | ⟨q1, q2⟩
  · obtain ⟨a', up', e1⟩ := meetNow_s (fu := 1000) (a := maRisen) (up := maUps) hn (by omega) hP hAM.1 hAM.2.2.2 hr hs
    refine ⟨oI (mt (fun m => fw (dU rkf (WW n len tc ord)) n r m + fw (dU (fun r => n - 1 - rkf r) (WW n len tc ord)) n m s) n).2, a', up', ?_, ?_, hL, hC, n, beg, en, len, tc, ord, rkf, h0, hB, hM, hP, rfl, hA, hAM, hD, hDM⟩
    · unfold f7_meet
      rw [q1, bnd1_s, if_neg i10, meeting_s (fu := 1000) hn (by omega) hD.1 hD.2.1 hr hs, bnd1_s, bnd1_s]
    · unfold f8_meet
      rw [q2, bnd1_s, if_neg i10, e1, bnd3_s, bnd3_s]
  · refine ⟨-101, maRisen, maUps, ?_, ?_, hL, hC, n, beg, en, len, tc, ord, rkf, h0, hB, hM, hP, rfl, hA, hAM, hD, hDM⟩
    · unfold f7_meet
      rw [q1, bnd1_s, if_pos rfl, bnd1_s]
    · unfold f8_meet
      rw [q2, bnd1_s, if_pos rfl, bnd3_s]
theorem s_route {biReadings biAlterations biRankings biLetters biCurrent biDue biSize biLsize : Int32} {bgCosts bgWorths bgMiddles bgApart bgApartWithout bgNeeded bgUps bgDowns bgKeys bgNexts bgShutKeys baCodes baPbegins baPends baPlengths baBegins baEnds baLengths baRanks baRoadsByRank baRow baRanksBefore baBusy baOpen baShut : Nat → Int32} {miPageLength miRoads miRead miAltered miRanked miStage miFigures miNewRoads miTold miRouted miRouteSum : Int32} {mjH : Int64} {maPage maBeginOf maEndOf maLengthOf maCosts maRankOf maRoadAt maWorths maMiddles maLeasts maBusy maNewBegin maNewEnd maNewLength maIsLeft maAround maWhole maIsNeeded maWereRanks maWaitFrom maWaitTo maToldAt maRisen maUps maTried maRoutes : Nat → Int32} (h : RC biReadings biAlterations biRankings biLetters biCurrent biDue biSize biLsize bgCosts bgWorths bgMiddles bgApart bgApartWithout bgNeeded bgUps bgDowns bgKeys bgNexts bgShutKeys baCodes baPbegins baPends baPlengths baBegins baEnds baLengths baRanks baRoadsByRank baRow baRanksBefore baBusy baOpen baShut miPageLength miRoads miRead miAltered miRanked miStage miFigures miNewRoads miTold miRouted miRouteSum mjH maPage maBeginOf maEndOf maLengthOf maCosts maRankOf maRoadAt maWorths maMiddles maLeasts maBusy maNewBegin maNewEnd maNewLength maIsLeft maAround maWhole maIsNeeded maWereRanks maWaitFrom maWaitTo maToldAt maRisen maUps maTried maRoutes) (a1 a2 : Int32) : ∃ (r : Int32) (omaTried : Nat → Int32), f7_route a1 a2 baOpen = some r ∧ f8_route 1000 a1 maTried a2 miRoads maCosts maLengthOf maBeginOf maEndOf = some (r, omaTried) ∧ RC biReadings biAlterations biRankings biLetters biCurrent biDue biSize biLsize bgCosts bgWorths bgMiddles bgApart bgApartWithout bgNeeded bgUps bgDowns bgKeys bgNexts bgShutKeys baCodes baPbegins baPends baPlengths baBegins baEnds baLengths baRanks baRoadsByRank baRow baRanksBefore baBusy baOpen baShut miPageLength miRoads miRead miAltered miRanked miStage miFigures miNewRoads miTold miRouted miRouteSum mjH maPage maBeginOf maEndOf maLengthOf maCosts maRankOf maRoadAt maWorths maMiddles maLeasts maBusy maNewBegin maNewEnd maNewLength maIsLeft maAround maWhole maIsNeeded maWereRanks maWaitFrom maWaitTo maToldAt maRisen maUps omaTried maRoutes := by
  obtain ⟨hL, hC, n, beg, en, len, tc, ord, rkf, h0, hB, hM, hP, hLs, hA, hAM, hD, hDM⟩ := h
  obtain rfl := hB.1
  obtain rfl := hM.1
  subst hLs
  have hn := h0.1
  rcases place_c a1 with ⟨f, hf, rfl, q1, q2⟩ | ⟨q1, q2⟩
  · rcases place_c a2 with ⟨t, ht, rfl, p1, p2⟩ | ⟨p1, p2⟩
    · by_cases hft : f = t
      · refine ⟨-103, maTried, ?_, ?_, hL, hC, n, beg, en, len, tc, ord, rkf, h0, hB, hM, hP, rfl, hA, hAM, hD, hDM⟩
        · unfold f7_route
          rw [q1, bnd1_s, if_neg i10, p1, bnd1_s, if_neg i10, if_pos (by rw [hft]), bnd1_s]
        · unfold f8_route
          rw [q2, bnd1_s, if_neg i10, p2, bnd1_s, if_neg i10, if_pos (by rw [hft]), bnd2_s]
      · obtain ⟨tr', e1⟩ := routeNow_s (fu := 1000) (tr := maTried) hn (by decide) hM.2.2.2.2 h0.2.2.2.1 hM.2.1 hM.2.2.1 hM.2.2.2.1 h0.2.1 hf ht hft
        refine ⟨orN (rOp n (stp len tc) beg en len 99 f t), tr', ?_, ?_, hL, hC, n, beg, en, len, tc, ord, rkf, h0, hB, hM, hP, rfl, hA, hAM, hD, hDM⟩
        · unfold f7_route
          rw [q1, bnd1_s, if_neg i10, p1, bnd1_s, if_neg i10, if_neg (fun q => hft ((nI_inj (by omega) (by omega)).mp q)), show nI f * 8 = nI (8 * f) from by rw [show (8 : Int32) = nI 8 from rfl, pk_mul, Nat.mul_comm], nI_add, ckN (show 8 * f + t < 64 by omega), clN (by omega), hD.2.2.2.2.2 f t hf ht, orNone_s (rOp_FA 99 f t), bnd1_s, bnd1_s]
        · unfold f8_route
          rw [q2, bnd1_s, if_neg i10, p2, bnd1_s, if_neg i10, if_neg (fun q => hft ((nI_inj (by omega) (by omega)).mp q)), e1, bnd2_s, bnd2_s]
          rfl
    · refine ⟨-101, maTried, ?_, ?_, hL, hC, n, beg, en, len, tc, ord, rkf, h0, hB, hM, hP, rfl, hA, hAM, hD, hDM⟩
      · unfold f7_route
        rw [q1, bnd1_s, if_neg i10, p1, bnd1_s, if_pos rfl]
      · unfold f8_route
        rw [q2, bnd1_s, if_neg i10, p2, bnd1_s, if_pos rfl]
  · refine ⟨-101, maTried, ?_, ?_, hL, hC, n, beg, en, len, tc, ord, rkf, h0, hB, hM, hP, rfl, hA, hAM, hD, hDM⟩
    · unfold f7_route
      rw [q1, bnd1_s, if_pos rfl]
    · unfold f8_route
      rw [q2, bnd1_s, if_pos rfl]
theorem s_loss {biReadings biAlterations biRankings biLetters biCurrent biDue biSize biLsize : Int32} {bgCosts bgWorths bgMiddles bgApart bgApartWithout bgNeeded bgUps bgDowns bgKeys bgNexts bgShutKeys baCodes baPbegins baPends baPlengths baBegins baEnds baLengths baRanks baRoadsByRank baRow baRanksBefore baBusy baOpen baShut : Nat → Int32} {miPageLength miRoads miRead miAltered miRanked miStage miFigures miNewRoads miTold miRouted miRouteSum : Int32} {mjH : Int64} {maPage maBeginOf maEndOf maLengthOf maCosts maRankOf maRoadAt maWorths maMiddles maLeasts maBusy maNewBegin maNewEnd maNewLength maIsLeft maAround maWhole maIsNeeded maWereRanks maWaitFrom maWaitTo maToldAt maRisen maUps maTried maRoutes : Nat → Int32} (h : RC biReadings biAlterations biRankings biLetters biCurrent biDue biSize biLsize bgCosts bgWorths bgMiddles bgApart bgApartWithout bgNeeded bgUps bgDowns bgKeys bgNexts bgShutKeys baCodes baPbegins baPends baPlengths baBegins baEnds baLengths baRanks baRoadsByRank baRow baRanksBefore baBusy baOpen baShut miPageLength miRoads miRead miAltered miRanked miStage miFigures miNewRoads miTold miRouted miRouteSum mjH maPage maBeginOf maEndOf maLengthOf maCosts maRankOf maRoadAt maWorths maMiddles maLeasts maBusy maNewBegin maNewEnd maNewLength maIsLeft maAround maWhole maIsNeeded maWereRanks maWaitFrom maWaitTo maToldAt maRisen maUps maTried maRoutes) (a1 a2 : Int32) : ∃ (r : Int32) (obgShutKeys : Nat → Int32) (obaShut : Nat → Int32) (omiRouted : Int32) (omiRouteSum : Int32) (omaTried : Nat → Int32) (omaRoutes : Nat → Int32), f7_loss 1000 a1 biSize bgShutKeys baShut a2 bgCosts baLengths baBegins baEnds baOpen = some (r, obgShutKeys, obaShut) ∧ f8_loss 1000 a1 miRoads miRouted miRouteSum maTried maRoutes a2 maCosts maLengthOf maBeginOf maEndOf = some (r, omiRouted, omiRouteSum, omaTried, omaRoutes) ∧ RC biReadings biAlterations biRankings biLetters biCurrent biDue biSize biLsize bgCosts bgWorths bgMiddles bgApart bgApartWithout bgNeeded bgUps bgDowns bgKeys bgNexts obgShutKeys baCodes baPbegins baPends baPlengths baBegins baEnds baLengths baRanks baRoadsByRank baRow baRanksBefore baBusy baOpen obaShut miPageLength miRoads miRead miAltered miRanked miStage miFigures miNewRoads miTold omiRouted omiRouteSum mjH maPage maBeginOf maEndOf maLengthOf maCosts maRankOf maRoadAt maWorths maMiddles maLeasts maBusy maNewBegin maNewEnd maNewLength maIsLeft maAround maWhole maIsNeeded maWereRanks maWaitFrom maWaitTo maToldAt maRisen maUps omaTried omaRoutes := by
  obtain ⟨hL, hC, n, beg, en, len, tc, ord, rkf, h0, hB, hM, hP, hLs, hA, hAM, hD, hDM⟩ := h
  obtain rfl := hB.1
  obtain rfl := hM.1
  subst hLs
  have hn := h0.1
  rcases has_c a1 n hn with ⟨r, hr, rfl, q1, q2⟩ | ⟨q1, q2⟩
  · rcases rng_c a2 0 999 (by decide) (by decide) with ⟨k, k1, k2, rfl, k3, k4, k5⟩ | ⟨k1, k2⟩
    · obtain ⟨sk', sh', e1⟩ := lossWithout_s (fu := 1000) (sk := bgShutKeys) (sh := baShut) (p := nI k) hn (by decide) hB.2.2.2.2 h0.2.2.2.1 hB.2.1 hB.2.2.1 hB.2.2.2.1 h0.2.1 hD.2.2.2.2.2 (rOp_FA 99) hr
      obtain ⟨x', y', tr', ro', e2⟩ := lossNow_s (fu := 1000) (tr := maTried) (ro := maRoutes) (p := nI k) hn (by decide) hM.2.2.2.2 h0.2.2.2.1 hM.2.1 hM.2.2.1 hM.2.2.2.1 h0.2.1 hr
      refine ⟨itr (lsF (rOp n (stp len tc) beg en len 99) (rOp n (stp len tc) beg en len r) (nI k)) 0 64, sk', sh', x', y', tr', ro', ?_, ?_, hL, hC, n, beg, en, len, tc, ord, rkf, h0, hB, hM, hP, rfl, hA, hAM, hD, hDM⟩
      · unfold f7_loss
        rw [q1, bnd1_s, if_neg i10, if_neg (show ¬ nI k < (0 : Int32) from k3), if_pos (show nI k ≤ (999 : Int32) from k4), e1, bnd3_s]
      · unfold f8_loss
        rw [q2, bnd1_s, if_neg i10, show f8_within (nI k) 0 999 = some 1 from k5, bnd1_s, if_neg i10, e2, bnd5_s, bnd5_s]
    · refine ⟨-102, bgShutKeys, baShut, miRouted, miRouteSum, maTried, maRoutes, ?_, ?_, hL, hC, n, beg, en, len, tc, ord, rkf, h0, hB, hM, hP, rfl, hA, hAM, hD, hDM⟩
      · unfold f7_loss
        rw [q1, bnd1_s, if_neg i10]
        rcases k1 with q | q
        · rw [if_pos (show a2 < (0 : Int32) from q)]
        · rw [if_neg (show ¬ a2 < (0 : Int32) from q.1), if_neg (show ¬ a2 ≤ (999 : Int32) from q.2)]
      · unfold f8_loss
        rw [q2, bnd1_s, if_neg i10, show f8_within a2 0 999 = some 0 from k2, bnd1_s, if_pos rfl, bnd5_s]
  · refine ⟨-101, bgShutKeys, baShut, miRouted, miRouteSum, maTried, maRoutes, ?_, ?_, hL, hC, n, beg, en, len, tc, ord, rkf, h0, hB, hM, hP, rfl, hA, hAM, hD, hDM⟩
    · unfold f7_loss
      rw [q1, bnd1_s, if_pos rfl]
    · unfold f8_loss
      rw [q2, bnd1_s, if_pos rfl]
theorem s_all {biReadings biAlterations biRankings biLetters biCurrent biDue biSize biLsize : Int32} {bgCosts bgWorths bgMiddles bgApart bgApartWithout bgNeeded bgUps bgDowns bgKeys bgNexts bgShutKeys baCodes baPbegins baPends baPlengths baBegins baEnds baLengths baRanks baRoadsByRank baRow baRanksBefore baBusy baOpen baShut : Nat → Int32} {miPageLength miRoads miRead miAltered miRanked miStage miFigures miNewRoads miTold miRouted miRouteSum : Int32} {mjH : Int64} {maPage maBeginOf maEndOf maLengthOf maCosts maRankOf maRoadAt maWorths maMiddles maLeasts maBusy maNewBegin maNewEnd maNewLength maIsLeft maAround maWhole maIsNeeded maWereRanks maWaitFrom maWaitTo maToldAt maRisen maUps maTried maRoutes : Nat → Int32} (h : RC biReadings biAlterations biRankings biLetters biCurrent biDue biSize biLsize bgCosts bgWorths bgMiddles bgApart bgApartWithout bgNeeded bgUps bgDowns bgKeys bgNexts bgShutKeys baCodes baPbegins baPends baPlengths baBegins baEnds baLengths baRanks baRoadsByRank baRow baRanksBefore baBusy baOpen baShut miPageLength miRoads miRead miAltered miRanked miStage miFigures miNewRoads miTold miRouted miRouteSum mjH maPage maBeginOf maEndOf maLengthOf maCosts maRankOf maRoadAt maWorths maMiddles maLeasts maBusy maNewBegin maNewEnd maNewLength maIsLeft maAround maWhole maIsNeeded maWereRanks maWaitFrom maWaitTo maToldAt maRisen maUps maTried maRoutes) (a1 : Int32) : ∃ (r : Int32) (omiRouted : Int32) (omiRouteSum : Int32) (omaTried : Nat → Int32) (omaRoutes : Nat → Int32), f7_all 1000 a1 biSize baBusy biLsize bgWorths bgMiddles baOpen = some r ∧ f8_all 1000 a1 miRouted miRouteSum maTried maRoutes miRoads maCosts maLengthOf maBeginOf maEndOf maBusy maWorths maMiddles = some (r, omiRouted, omiRouteSum, omaTried, omaRoutes) ∧ RC biReadings biAlterations biRankings biLetters biCurrent biDue biSize biLsize bgCosts bgWorths bgMiddles bgApart bgApartWithout bgNeeded bgUps bgDowns bgKeys bgNexts bgShutKeys baCodes baPbegins baPends baPlengths baBegins baEnds baLengths baRanks baRoadsByRank baRow baRanksBefore baBusy baOpen baShut miPageLength miRoads miRead miAltered miRanked miStage miFigures miNewRoads miTold omiRouted omiRouteSum mjH maPage maBeginOf maEndOf maLengthOf maCosts maRankOf maRoadAt maWorths maMiddles maLeasts maBusy maNewBegin maNewEnd maNewLength maIsLeft maAround maWhole maIsNeeded maWereRanks maWaitFrom maWaitTo maToldAt maRisen maUps omaTried omaRoutes := by
  obtain ⟨hL, hC, n, beg, en, len, tc, ord, rkf, h0, hB, hM, hP, hLs, hA, hAM, hD, hDM⟩ := h
  obtain rfl := hB.1
  obtain rfl := hM.1
  subst hLs
  have hn := h0.1
  rcases rng_c a1 0 5 (by decide) (by decide) with ⟨k, k1, k2, rfl, k3, k4, k5⟩ | ⟨k1, k2⟩
  · obtain ⟨x', y', tr', ro', e2⟩ := allM_s h0 hM hP hAM hDM k2 maTried maRoutes
    refine ⟨_, x', y', tr', ro', allB_s h0 hA hD k2, ?_, hL, hC, n, beg, en, len, tc, ord, rkf, h0, hB, hM, hP, rfl, hA, hAM, hD, hDM⟩
    unfold f8_all
    rw [show f8_within (nI k) 0 5 = some 1 from k5, bnd1_s, if_neg i10, e2, bnd5_s, bnd5_s]
  · refine ⟨-102, miRouted, miRouteSum, maTried, maRoutes, ?_, ?_, hL, hC, n, beg, en, len, tc, ord, rkf, h0, hB, hM, hP, rfl, hA, hAM, hD, hDM⟩
    · unfold f7_all
      rw [if_neg (show ¬ a1 = 0 from rng_ne (k := 0) k1 (by decide) (by decide) (by decide)), if_neg (show ¬ a1 = 1 from rng_ne (k := 1) k1 (by decide) (by decide) (by decide)), if_neg (show ¬ a1 = 2 from rng_ne (k := 2) k1 (by decide) (by decide) (by decide)), if_neg (show ¬ a1 = 3 from rng_ne (k := 3) k1 (by decide) (by decide) (by decide)), if_neg (show ¬ a1 = 4 from rng_ne (k := 4) k1 (by decide) (by decide) (by decide)), if_neg (show ¬ a1 = 5 from rng_ne (k := 5) k1 (by decide) (by decide) (by decide))]
    · unfold f8_all
      rw [show f8_within a1 0 5 = some 0 from k2, bnd1_s, if_pos rfl, bnd5_s]
theorem s_count {biReadings biAlterations biRankings biLetters biCurrent biDue biSize biLsize : Int32} {bgCosts bgWorths bgMiddles bgApart bgApartWithout bgNeeded bgUps bgDowns bgKeys bgNexts bgShutKeys baCodes baPbegins baPends baPlengths baBegins baEnds baLengths baRanks baRoadsByRank baRow baRanksBefore baBusy baOpen baShut : Nat → Int32} {miPageLength miRoads miRead miAltered miRanked miStage miFigures miNewRoads miTold miRouted miRouteSum : Int32} {mjH : Int64} {maPage maBeginOf maEndOf maLengthOf maCosts maRankOf maRoadAt maWorths maMiddles maLeasts maBusy maNewBegin maNewEnd maNewLength maIsLeft maAround maWhole maIsNeeded maWereRanks maWaitFrom maWaitTo maToldAt maRisen maUps maTried maRoutes : Nat → Int32} (h : RC biReadings biAlterations biRankings biLetters biCurrent biDue biSize biLsize bgCosts bgWorths bgMiddles bgApart bgApartWithout bgNeeded bgUps bgDowns bgKeys bgNexts bgShutKeys baCodes baPbegins baPends baPlengths baBegins baEnds baLengths baRanks baRoadsByRank baRow baRanksBefore baBusy baOpen baShut miPageLength miRoads miRead miAltered miRanked miStage miFigures miNewRoads miTold miRouted miRouteSum mjH maPage maBeginOf maEndOf maLengthOf maCosts maRankOf maRoadAt maWorths maMiddles maLeasts maBusy maNewBegin maNewEnd maNewLength maIsLeft maAround maWhole maIsNeeded maWereRanks maWaitFrom maWaitTo maToldAt maRisen maUps maTried maRoutes) (a1 : Int32) : ∃ (r : Int32), f7_count 1000 a1 biSize biLetters bgCosts biReadings biAlterations biRankings = some r ∧ f8_count 1000 a1 miRoads miPageLength maEndOf maBeginOf maCosts miRead miAltered miRanked = some r ∧ RC biReadings biAlterations biRankings biLetters biCurrent biDue biSize biLsize bgCosts bgWorths bgMiddles bgApart bgApartWithout bgNeeded bgUps bgDowns bgKeys bgNexts bgShutKeys baCodes baPbegins baPends baPlengths baBegins baEnds baLengths baRanks baRoadsByRank baRow baRanksBefore baBusy baOpen baShut miPageLength miRoads miRead miAltered miRanked miStage miFigures miNewRoads miTold miRouted miRouteSum mjH maPage maBeginOf maEndOf maLengthOf maCosts maRankOf maRoadAt maWorths maMiddles maLeasts maBusy maNewBegin maNewEnd maNewLength maIsLeft maAround maWhole maIsNeeded maWereRanks maWaitFrom maWaitTo maToldAt maRisen maUps maTried maRoutes := by
  obtain ⟨hL, hC, n, beg, en, len, tc, ord, rkf, h0, hB, hM, hP, hLs, hA, hAM, hD, hDM⟩ := h
  obtain rfl := hB.1
  obtain rfl := hM.1
  subst hLs
  have hn := h0.1
  obtain ⟨⟨N, cd, hN, rfl, rfl, hcd⟩, ⟨rfl, rfl, rfl⟩⟩ := And.intro hL hC
  obtain ⟨v, e1, e2⟩ := count_s h0 hB hM a1 (nI N) biReadings biAlterations biRankings
  refine ⟨v, e1, ?_, hL, hC, n, beg, en, len, tc, ord, rkf, h0, hB, hM, hP, rfl, hA, hAM, hD, hDM⟩
  unfold f8_count
  rw [e2, bnd1_s]
theorem s_digest {biReadings biAlterations biRankings biLetters biCurrent biDue biSize biLsize : Int32} {bgCosts bgWorths bgMiddles bgApart bgApartWithout bgNeeded bgUps bgDowns bgKeys bgNexts bgShutKeys baCodes baPbegins baPends baPlengths baBegins baEnds baLengths baRanks baRoadsByRank baRow baRanksBefore baBusy baOpen baShut : Nat → Int32} {miPageLength miRoads miRead miAltered miRanked miStage miFigures miNewRoads miTold miRouted miRouteSum : Int32} {mjH : Int64} {maPage maBeginOf maEndOf maLengthOf maCosts maRankOf maRoadAt maWorths maMiddles maLeasts maBusy maNewBegin maNewEnd maNewLength maIsLeft maAround maWhole maIsNeeded maWereRanks maWaitFrom maWaitTo maToldAt maRisen maUps maTried maRoutes : Nat → Int32} (h : RC biReadings biAlterations biRankings biLetters biCurrent biDue biSize biLsize bgCosts bgWorths bgMiddles bgApart bgApartWithout bgNeeded bgUps bgDowns bgKeys bgNexts bgShutKeys baCodes baPbegins baPends baPlengths baBegins baEnds baLengths baRanks baRoadsByRank baRow baRanksBefore baBusy baOpen baShut miPageLength miRoads miRead miAltered miRanked miStage miFigures miNewRoads miTold miRouted miRouteSum mjH maPage maBeginOf maEndOf maLengthOf maCosts maRankOf maRoadAt maWorths maMiddles maLeasts maBusy maNewBegin maNewEnd maNewLength maIsLeft maAround maWhole maIsNeeded maWereRanks maWaitFrom maWaitTo maToldAt maRisen maUps maTried maRoutes) : ∃ (r : Int64) (obgShutKeys : Nat → Int32) (obaRow : Nat → Int32) (obaShut : Nat → Int32) (omiTold : Int32) (omiRouted : Int32) (omiRouteSum : Int32) (omjH : Int64) (omaWaitFrom : Nat → Int32) (omaWaitTo : Nat → Int32) (omaToldAt : Nat → Int32) (omaRisen : Nat → Int32) (omaUps : Nat → Int32) (omaTried : Nat → Int32) (omaRoutes : Nat → Int32), f7_digest 1000 biSize baBegins baEnds baLengths baRanks biLsize bgMiddles baBusy bgKeys bgUps bgDowns bgWorths baRow baOpen bgCosts bgShutKeys baShut biLetters baCodes biReadings biAlterations biRankings = some (r, obgShutKeys, obaRow, obaShut) ∧ f8_digest 1000 miRoads maBeginOf maEndOf maLengthOf maRankOf maWorths maMiddles maBusy maLeasts maRoadAt miTold maWaitFrom maWaitTo maToldAt maRisen maUps maCosts maTried maRoutes miPageLength maPage miRead miAltered miRanked = some (r, omiTold, omiRouted, omiRouteSum, omjH, omaWaitFrom, omaWaitTo, omaToldAt, omaRisen, omaUps, omaTried, omaRoutes) ∧ RC biReadings biAlterations biRankings biLetters biCurrent biDue biSize biLsize bgCosts bgWorths bgMiddles bgApart bgApartWithout bgNeeded bgUps bgDowns bgKeys bgNexts obgShutKeys baCodes baPbegins baPends baPlengths baBegins baEnds baLengths baRanks baRoadsByRank obaRow baRanksBefore baBusy baOpen obaShut miPageLength miRoads miRead miAltered miRanked miStage miFigures miNewRoads omiTold omiRouted omiRouteSum omjH maPage maBeginOf maEndOf maLengthOf maCosts maRankOf maRoadAt maWorths maMiddles maLeasts maBusy maNewBegin maNewEnd maNewLength maIsLeft maAround maWhole maIsNeeded maWereRanks omaWaitFrom omaWaitTo omaToldAt omaRisen omaUps omaTried omaRoutes := by
  obtain ⟨⟨N, cd, hN, rfl, rfl, hcd⟩, ⟨rfl, rfl, rfl⟩, n, beg, en, len, tc, ord, rkf, h0, hB, hM, hP, hLs, hA, hAM, hD, hDM⟩ := h
  obtain rfl := hB.1
  obtain rfl := hM.1
  subst hLs
  have hn := h0.1
  have a1 := dRoadsB_s h0 hB hA hD 1627
  have b1 := dRoadsM_s h0 hM hP hAM hDM 1627
  obtain ⟨row', a2⟩ := dPairsB_s h0 hP hA hD (dR n beg en len rkf (MM n len tc ord) (BUSY n (stp len tc)) 1627) baRow
  obtain ⟨t', wf', wt', ta', ri', up', b2⟩ := dPairsM_s h0 hP hAM hDM (dR n beg en len rkf (MM n len tc ord) (BUSY n (stp len tc)) 1627) miTold maWaitFrom maWaitTo maToldAt maRisen maUps
  obtain ⟨sk', sh', a3⟩ := dPlacesB_s h0 hB hD (dPs n (fw (scl 1 (stp len tc)) n) (WW n len tc ord) (MM n len tc ord) rkf (dR n beg en len rkf (MM n len tc ord) (BUSY n (stp len tc)) 1627)) bgShutKeys baShut
  obtain ⟨tr1, rt1, b3, b4⟩ := layRoutes_s (fu := 1000) (tr := maTried) (ro := maRoutes) hn (by decide) hM.2.2.2.2 h0.2.2.2.1 hM.2.1 hM.2.2.1 hM.2.2.2.1 h0.2.1
  have b5 := dOpenM_s b4 (rOp_FA 99) (dPs n (fw (scl 1 (stp len tc)) n) (WW n len tc ord) (MM n len tc ord) rkf (dR n beg en len rkf (MM n len tc ord) (BUSY n (stp len tc)) 1627))
  obtain ⟨x2, y2, tr2, rt2, b6⟩ := dLossM_s h0 hM (dOs (rOp n (stp len tc) beg en len 99) (dPs n (fw (scl 1 (stp len tc)) n) (WW n len tc ord) (MM n len tc ord) rkf (dR n beg en len rkf (MM n len tc ord) (BUSY n (stp len tc)) 1627))) (itr (cnF (rOp n (stp len tc) beg en len 99)) 0 64) (itr (smF (rOp n (stp len tc) beg en len 99)) 0 64) tr1 rt1
  obtain ⟨x3, y3, tr3, rt3, b7⟩ := dAllM_s h0 hM hP hAM hDM (dL n (stp len tc) beg en len (dOs (rOp n (stp len tc) beg en len 99) (dPs n (fw (scl 1 (stp len tc)) n) (WW n len tc ord) (MM n len tc ord) rkf (dR n beg en len rkf (MM n len tc ord) (BUSY n (stp len tc)) 1627)))) x2 y2 tr2 rt2
  obtain ⟨h1, h2, a4, b8, b9⟩ := dCounts_s h0 hB hA hD hM hN hcd (dL n (stp len tc) beg en len (dOs (rOp n (stp len tc) beg en len 99) (dPs n (fw (scl 1 (stp len tc)) n) (WW n len tc ord) (MM n len tc ord) rkf (dR n beg en len rkf (MM n len tc ord) (BUSY n (stp len tc)) 1627)))) biReadings biAlterations biRankings
  refine ⟨h2, sk', row', sh', t', x3, y3, h2, wf', wt', ta', ri', up', tr3, rt3, ?_, ?_, ⟨N, cd, hN, rfl, rfl, hcd⟩, ⟨rfl, rfl, rfl⟩, n, beg, en, len, tc, ord, rkf, h0, hB, hM, hP, rfl, hA, hAM, hD, hDM⟩
  · unfold f7_digest
    rw [a1, bnd1_s, a2, bnd2_s, a3, bnd3_s, a4, bnd1_s]
  · unfold f8_digest
    rw [b1, bnd1_s, b2, bnd7_s, b3, bnd4_s, b5, bnd1_s, b6, bnd5_s, b7, bnd5_s, b8, bnd1_s, b9, bnd1_s]

