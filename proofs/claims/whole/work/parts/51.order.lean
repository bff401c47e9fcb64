/-! the order found, the order kept -/
theorem S0 {n : Nat} {S : Nat → Nat → Nat} {ord : Nat → Nat} {w m : Nat → Int32} (hS : Stp2 n S) (h1 : Rep n w S) (h2 : ∀ r s, r < n → s < n → m (12 * r + s) = -1) : Rpb n w (kst n S ord 0).1 ∧ RpO n m (kst n S ord 0).2.1 := ⟨fun r s hr hs => ⟨h1 r s hr hs, S_FA hS r s hr hs⟩, fun r s hr hs => by
  rw [h2 r s hr hs]
  exact (oI_none (show ¬ 99 < 12 by decide)).symm⟩
theorem findOrderB_s {n fu : Nat} {c l w m rk a1 a2 ne rbr : Nat → Int32} {tc : Nat → Nat → Nat} {len : Nat → Nat} (hn : n ≤ 12) (hfu : n < fu) (h : RpC n cB c tc) (hl : Rp1 n l len) (hS : Stp2 n (stp len tc)) : ∃ w' m' a1' a2' ne' rk' rbr', f2_findOrder fu (nI n) c l w m rk a1 a2 ne rbr = some (nI n, w', m', a1', a2', ne', rk', rbr') ∧ SB n (stp len tc) (ford n (stp len tc)) n w' m' rk' rbr' := by
  have ho := ford_ord hn (stp len tc)
  obtain ⟨w0, m0, rk0, e1, e2, e3, e4⟩ := startAnew_s (a := w) (m := m) (rk := rk) hn hfu h hl
  have h0 := S0 (ord := ford n (stp len tc)) hS e2 e3
  have key := lp_e (em := fun i (x : (Nat → Int32) × (Nat → Int32) × (Nat → Int32) × (Nat → Int32) × (Nat → Int32) × (Nat → Int32) × (Nat → Int32)) => (nI i, x)) (b := fun z => f2_findOrder_b1 fu (nI n) z.1 z.2.1 z.2.2.1 z.2.2.2.1 z.2.2.2.2.1 z.2.2.2.2.2.1 z.2.2.2.2.2.2.1 z.2.2.2.2.2.2.2) (N := n) (I := fun k x => SB n (stp len tc) (ford n (stp len tc)) k x.1 x.2.1 x.2.2.2.2.2.1 x.2.2.2.2.2.2) (Q := fun x => SB n (stp len tc) (ford n (stp len tc)) n x.1 x.2.1 x.2.2.2.2.2.1 x.2.2.2.2.2.2) (fun k x hk hI => ?_) (fun x hI => ⟨x, ?_, hI⟩) n 0 fu (w0, m0, a1, a2, ne, rk0, rbr) (by omega) hfu ⟨h0.1, h0.2, fun r hr => ⟨fun _ => rfl, fun _ => e4 r hr⟩, fun j hj => by omega, fun j hj => by omega⟩
  · obtain ⟨⟨w', m', a1', a2', ne', rk', rbr'⟩, f1, f2⟩ := key
    refine ⟨w', m', a1', a2', ne', rk', rbr', ?_, f2⟩
    unfold f2_findOrder
    have f1 : lpG (fun z => f2_findOrder_b1 fu (nI n) z.1 z.2.1 z.2.2.1 z.2.2.2.1 z.2.2.2.2.1 z.2.2.2.2.2.1 z.2.2.2.2.2.2.1 z.2.2.2.2.2.2.2) fu ((0 : Int32), w0, m0, a1, a2, ne, rk0, rbr) = some (w', m', a1', a2', ne', rk', rbr') := f1
    rw [e1, bnd4_s, f1, bnd7_s]
  · obtain ⟨w, m, a1, a2, ne, rk, rbr⟩ := x
    have hI : SB n (stp len tc) (ford n (stp len tc)) k w m rk rbr := hI
    have hC := CI_all hn hS ho k (by omega)
    have hlf := (fst_left hn (stp len tc) k hk).1
    obtain ⟨a1', g1, g2⟩ := measureFree_s (v := 99) (a := a1) hn hfu hI.2.2.1 hI.1
    rw [oI_none (by decide)] at g1
    rw [← kst_fst] at hlf
    obtain ⟨a2', ne', g3⟩ := pickNext_s (k := k) (a2 := a2) (ne := ne) hn (by omega) hfu hI.2.2.1 hI.1 hC.1 g2 hlf
    have ep : (pk n (kst n (stp len tc) (ford n (stp len tc)) k).2.2 (kst n (stp len tc) (ford n (stp len tc)) k).1 n).2 = ford n (stp len tc) k := by rw [kst_fst]; rfl
    rw [ep] at g3
    obtain ⟨w', m', a2'', ne'', g4, g5⟩ := stepB (a2 := a2') (ne := ne') hn hfu hS ho hk hI g2
    refine ⟨(w', m', a1', a2'', ne'', upd rk (ford n (stp len tc) k) (nI k), upd rbr k (nI (ford n (stp len tc) k))), ?_, g5⟩
    show f2_findOrder_b1 fu (nI n) (nI k) w m a1 a2 ne rk rbr = _
    unfold f2_findOrder_b1
    rw [if_neg (nI_ge hk (by omega)), g1, bnd1_s, g3, bnd3_s, g4, bnd6_s, bd_s, nI_1]
  · obtain ⟨w, m, a1, a2, ne, rk, rbr⟩ := x
    show f2_findOrder_b1 fu (nI n) (nI n) w m a1 a2 ne rk rbr = _
    unfold f2_findOrder_b1
    rw [if_pos (nI_le (Nat.le_refl n) (by omega))]
theorem keepOrderB_s {n fu : Nat} {c l w m rk a1 a2 ne rbr : Nat → Int32} {tc : Nat → Nat → Nat} {len ord : Nat → Nat} (hn : n ≤ 12) (hfu : n < fu) (h : RpC n cB c tc) (hl : Rp1 n l len) (hS : Stp2 n (stp len tc)) (ho : Ord n ord) (hr : ∀ j, j < n → rbr j = nI (ord j)) : ∃ w' m' a1' a2' ne' rk' rbr', f2_keepOrder fu (nI n) c l w m rk a1 a2 ne rbr = some (nI n, w', m', a1', a2', ne', rk', rbr') ∧ SB n (stp len tc) ord n w' m' rk' rbr' := by
  obtain ⟨w0, m0, rk0, e1, e2, e3, e4⟩ := startAnew_s (a := w) (m := m) (rk := rk) hn hfu h hl
  have h0 := S0 (ord := ord) hS e2 e3
  have key := lp_e (em := fun i (x : (Nat → Int32) × (Nat → Int32) × (Nat → Int32) × (Nat → Int32) × (Nat → Int32) × (Nat → Int32) × (Nat → Int32)) => (nI i, x)) (b := fun z => f2_keepOrder_b1 fu (nI n) z.1 z.2.1 z.2.2.1 z.2.2.2.1 z.2.2.2.2.1 z.2.2.2.2.2.1 z.2.2.2.2.2.2.1 z.2.2.2.2.2.2.2) (N := n) (I := fun k x => SB n (stp len tc) ord k x.1 x.2.1 x.2.2.2.2.2.1 x.2.2.2.2.2.2 ∧ ∀ j, j < n → x.2.2.2.2.2.2 j = nI (ord j)) (Q := fun x => SB n (stp len tc) ord n x.1 x.2.1 x.2.2.2.2.2.1 x.2.2.2.2.2.2) (fun k x hk hI => ?_) (fun x hI => ⟨x, ?_, hI.1⟩) n 0 fu (w0, m0, a1, a2, ne, rk0, rbr) (by omega) hfu ⟨⟨h0.1, h0.2, fun r hr => ⟨fun _ => rfl, fun _ => e4 r hr⟩, fun j hj => by omega, fun j hj => by omega⟩, hr⟩
  · obtain ⟨⟨w', m', a1', a2', ne', rk', rbr'⟩, f1, f2⟩ := key
    refine ⟨w', m', a1', a2', ne', rk', rbr', ?_, f2⟩
    unfold f2_keepOrder
    have f1 : lpG (fun z => f2_keepOrder_b1 fu (nI n) z.1 z.2.1 z.2.2.1 z.2.2.2.1 z.2.2.2.2.1 z.2.2.2.2.2.1 z.2.2.2.2.2.2.1 z.2.2.2.2.2.2.2) fu ((0 : Int32), w0, m0, a1, a2, ne, rk0, rbr) = some (w', m', a1', a2', ne', rk', rbr') := f1
    rw [e1, bnd4_s, f1, bnd7_s]
  · obtain ⟨w, m, a1, a2, ne, rk, rbr⟩ := x
    obtain ⟨hI, hR⟩ := hI
    have hI : SB n (stp len tc) ord k w m rk rbr := hI
    have hR : ∀ j, j < n → rbr j = nI (ord j) := hR
    obtain ⟨a1', g1, g2⟩ := measureFree_s (v := 99) (a := a1) hn hfu hI.2.2.1 hI.1
    rw [oI_none (by decide)] at g1
    obtain ⟨w', m', a2'', ne'', g4, g5⟩ := stepB (a2 := a2) (ne := ne) hn hfu hS ho hk hI g2
    refine ⟨(w', m', a1', a2'', ne'', upd rk (ord k) (nI k), upd rbr k (nI (ord k))), ?_, g5, fun j hj => ?_⟩
    · show f2_keepOrder_b1 fu (nI n) (nI k) w m a1 a2 ne rk rbr = _
      unfold f2_keepOrder_b1
      rw [if_neg (nI_ge hk (by omega)), g1, bnd1_s, ckN (by omega), clN (by omega), hR k hk, g4, bnd6_s, bd_s, nI_1]
    · show upd rbr k (nI (ord k)) j = _
      rw [upds]
      by_cases e : j = k
      · rw [if_pos e, e]
      · rw [if_neg e]; exact hR j hj
  · obtain ⟨w, m, a1, a2, ne, rk, rbr⟩ := x
    show f2_keepOrder_b1 fu (nI n) (nI n) w m a1 a2 ne rk rbr = _
    unfold f2_keepOrder_b1
    rw [if_pos (nI_le (Nat.le_refl n) (by omega))]
theorem findOrderM_s {n fu : Nat} {il c l w m ro ra ar wh ne : Nat → Int32} {tc : Nat → Nat → Nat} {len : Nat → Nat} (hn : n ≤ 12) (hfu : 144 < fu) (h : RpC n cM c tc) (hl : Rp1 n l len) (hS : Stp2 n (stp len tc)) : ∃ w' m' il' ar' wh' ne' ro' ra', f8_findOrder fu (nI n) il c l w m ro ra ar wh ne = some (ro', ra', w', m', il', ar', wh', ne') ∧ SM n (stp len tc) (ford n (stp len tc)) n w' m' il' ro' ra' := by
  have ho := ford_ord hn (stp len tc)
  obtain ⟨w0, m0, il0, e1, e2, e3, e4⟩ := allLeft_s (a := w) (m := m) (il := il) hn (show n < fu by omega) h hl
  have h0 := S0 (ord := ford n (stp len tc)) hS e2 e3
  have key := lp_e (em := fun i (x : (Nat → Int32) × (Nat → Int32) × (Nat → Int32) × (Nat → Int32) × (Nat → Int32) × (Nat → Int32) × (Nat → Int32) × (Nat → Int32)) => (nI i, x)) (b := fun z => f8_findOrder_b1 fu (nI n) z.1 z.2.1 z.2.2.1 z.2.2.2.1 z.2.2.2.2.1 z.2.2.2.2.2.1 z.2.2.2.2.2.2.1 z.2.2.2.2.2.2.2.1 z.2.2.2.2.2.2.2.2) (N := n) (I := fun k x => SM n (stp len tc) (ford n (stp len tc)) k x.2.2.1 x.2.2.2.1 x.2.2.2.2.1 x.1 x.2.1) (Q := fun x => SM n (stp len tc) (ford n (stp len tc)) n x.2.2.1 x.2.2.2.1 x.2.2.2.2.1 x.1 x.2.1) (fun k x hk hI => ?_) (fun x hI => ⟨x, ?_, hI⟩) n 0 fu (ro, ra, w0, m0, il0, ar, wh, ne) (by omega) (by omega) ⟨h0.1, h0.2, e4, fun j hj => by omega, fun j hj => by omega⟩
  · obtain ⟨⟨ro', ra', w', m', il', ar', wh', ne'⟩, f1, f2⟩ := key
    refine ⟨w', m', il', ar', wh', ne', ro', ra', ?_, f2⟩
    unfold f8_findOrder
    have f1 : lpG (fun z => f8_findOrder_b1 fu (nI n) z.1 z.2.1 z.2.2.1 z.2.2.2.1 z.2.2.2.2.1 z.2.2.2.2.2.1 z.2.2.2.2.2.2.1 z.2.2.2.2.2.2.2.1 z.2.2.2.2.2.2.2.2) fu ((0 : Int32), ro, ra, w0, m0, il0, ar, wh, ne) = some (ro', ra', w', m', il', ar', wh', ne') := f1
    rw [e1, bnd3_s, f1, bnd8_s]
  · obtain ⟨ro, ra, w, m, il, ar, wh, ne⟩ := x
    have hI : SM n (stp len tc) (ford n (stp len tc)) k w m il ro ra := hI
    have hC := CI_all hn hS ho k (by omega)
    have hlf := (fst_left hn (stp len tc) k hk).1
    rw [← kst_fst] at hlf
    obtain ⟨ar1, wh1, ne1, g3⟩ := nextRoad_s (k := k) (ar := ar) (wh := wh) (ne := ne) hn (by omega) hfu hI.2.2.1 hI.1 hC.1 hlf
    have ep : (pk n (kst n (stp len tc) (ford n (stp len tc)) k).2.2 (kst n (stp len tc) (ford n (stp len tc)) k).1 n).2 = ford n (stp len tc) k := by rw [kst_fst]; rfl
    rw [ep] at g3
    obtain ⟨w', m', ar', wh', ne', g4, g5⟩ := stepM (ar := ar1) (wh := wh1) (ne := ne1) hn hfu hS ho hk hI
    refine ⟨(upd ro (ford n (stp len tc) k) (nI k), upd ra k (nI (ford n (stp len tc) k)), w', m', upd il (ford n (stp len tc) k) 0, ar', wh', ne'), ?_, g5⟩
    show f8_findOrder_b1 fu (nI n) (nI k) ro ra w m il ar wh ne = _
    unfold f8_findOrder_b1
    rw [if_neg (nI_ge hk (by omega)), g3, bnd4_s, g4, bnd8_s, bd_s, nI_1]
  · obtain ⟨ro, ra, w, m, il, ar, wh, ne⟩ := x
    show f8_findOrder_b1 fu (nI n) (nI n) ro ra w m il ar wh ne = _
    unfold f8_findOrder_b1
    rw [if_pos (nI_le (Nat.le_refl n) (by omega))]
theorem layArcs_s {n fu : Nat} {il c l w m ro ra ar wh ne : Nat → Int32} {tc : Nat → Nat → Nat} {len ord : Nat → Nat} (hn : n ≤ 12) (hfu : 144 < fu) (h : RpC n cM c tc) (hl : Rp1 n l len) (hS : Stp2 n (stp len tc)) (ho : Ord n ord) (hr : ∀ j, j < n → ra j = nI (ord j)) : ∃ w' m' il' ar' wh' ne' ro' ra', f8_layArcs fu (nI n) il c l w m ro ra ar wh ne = some (ro', ra', w', m', il', ar', wh', ne') ∧ SM n (stp len tc) ord n w' m' il' ro' ra' := by
  obtain ⟨w0, m0, il0, e1, e2, e3, e4⟩ := allLeft_s (a := w) (m := m) (il := il) hn (show n < fu by omega) h hl
  have h0 := S0 (ord := ord) hS e2 e3
  have key := lp_e (em := fun i (x : (Nat → Int32) × (Nat → Int32) × (Nat → Int32) × (Nat → Int32) × (Nat → Int32) × (Nat → Int32) × (Nat → Int32) × (Nat → Int32)) => (nI i, x)) (b := fun z => f8_layArcs_b1 fu (nI n) z.1 z.2.1 z.2.2.1 z.2.2.2.1 z.2.2.2.2.1 z.2.2.2.2.2.1 z.2.2.2.2.2.2.1 z.2.2.2.2.2.2.2.1 z.2.2.2.2.2.2.2.2) (N := n) (I := fun k x => SM n (stp len tc) ord k x.2.2.1 x.2.2.2.1 x.2.2.2.2.1 x.1 x.2.1 ∧ ∀ j, j < n → x.2.1 j = nI (ord j)) (Q := fun x => SM n (stp len tc) ord n x.2.2.1 x.2.2.2.1 x.2.2.2.2.1 x.1 x.2.1) (fun k x hk hI => ?_) (fun x hI => ⟨x, ?_, hI.1⟩) n 0 fu (ro, ra, w0, m0, il0, ar, wh, ne) (by omega) (by omega) ⟨⟨h0.1, h0.2, e4, fun j hj => by omega, fun j hj => by omega⟩, hr⟩
  · obtain ⟨⟨ro', ra', w', m', il', ar', wh', ne'⟩, f1, f2⟩ := key
    refine ⟨w', m', il', ar', wh', ne', ro', ra', ?_, f2⟩
    unfold f8_layArcs
    have f1 : lpG (fun z => f8_layArcs_b1 fu (nI n) z.1 z.2.1 z.2.2.1 z.2.2.2.1 z.2.2.2.2.1 z.2.2.2.2.2.1 z.2.2.2.2.2.2.1 z.2.2.2.2.2.2.2.1 z.2.2.2.2.2.2.2.2) fu ((0 : Int32), ro, ra, w0, m0, il0, ar, wh, ne) = some (ro', ra', w', m', il', ar', wh', ne') := f1
    rw [e1, bnd3_s, f1, bnd8_s]
  · obtain ⟨ro, ra, w, m, il, ar, wh, ne⟩ := x
    obtain ⟨hI, hR⟩ := hI
    have hI : SM n (stp len tc) ord k w m il ro ra := hI
    have hR : ∀ j, j < n → ra j = nI (ord j) := hR
    obtain ⟨w', m', ar', wh', ne', g4, g5⟩ := stepM (ar := ar) (wh := wh) (ne := ne) hn hfu hS ho hk hI
    refine ⟨(upd ro (ord k) (nI k), upd ra k (nI (ord k)), w', m', upd il (ord k) 0, ar', wh', ne'), ?_, g5, fun j hj => ?_⟩
    · show f8_layArcs_b1 fu (nI n) (nI k) ro ra w m il ar wh ne = _
      unfold f8_layArcs_b1
      rw [if_neg (nI_ge hk (by omega)), ckN (by omega), clN (by omega), hR k hk, g4, bnd8_s, bd_s, nI_1]
    · show upd ra k (nI (ord k)) j = _
      rw [upds]
      by_cases e : j = k
      · rw [if_pos e, e]
      · rw [if_neg e]; exact hR j hj
  · obtain ⟨ro, ra, w, m, il, ar, wh, ne⟩ := x
    show f8_layArcs_b1 fu (nI n) (nI n) ro ra w m il ar wh ne = _
    unfold f8_layArcs_b1
    rw [if_pos (nI_le (Nat.le_refl n) (by omega))]
