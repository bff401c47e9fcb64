/-! arcs counted; the next road; a rank given -/
theorem lp_c1 {b : Int32 × Int32 → Option ((Int32 × Int32) ⊕ Int32)} (n fu : Nat) (hfu : n < fu) (f : Nat → Nat) (hb : ∀ s m, s < n → b (nI m, nI s) = some (.inl (nI (m + f s), nI (s + 1)))) (he : ∀ m, b (nI m, nI n) = some (.inr (nI m))) (m : Nat) : lpG b fu (nI m, (0 : Int32)) = some (nI (m + sumN f n)) := by
  obtain ⟨o, e1, e2⟩ := lp_e (em := fun i (x : Int32) => (x, nI i)) (b := b) (N := n) (I := fun s x => x = nI (m + sumN f s)) (Q := fun x => x = nI (m + sumN f n)) (fun s x hs hI => ⟨nI (m + sumN f s + f s), by
      have hI : x = nI (m + sumN f s) := hI
      subst hI
      exact hb s _ hs, by
      show _ = nI (m + sumN f (s + 1))
      rw [sumN_s, Nat.add_assoc]⟩) (fun x hI => ⟨x, by
      have hI : x = nI (m + sumN f n) := hI
      subst hI
      exact he _, hI⟩) n 0 fu (nI m) (by omega) hfu rfl
  have e2 : o = nI (m + sumN f n) := e2
  subst e2
  exact e1
theorem t10 {c : Prop} [Decidable c] : (if (if c then (1 : Int32) else 0) = 0 then some (0 : Int32) else some 1) = some (nI (if c then 1 else 0)) := by
  by_cases h : c
  · rw [if_pos h, if_neg i10, if_pos h]; rfl
  · rw [if_neg h, if_pos rfl, if_neg h]; rfl
def arcf (L : Nat → Bool) (W : Nat → Nat → Nat) (v u : Nat) : Nat := if L u = true then (if W v u < FA then 1 else 0) + (if W u v < FA then 1 else 0) else 0
def arc1 (n : Nat) (L : Nat → Bool) (W : Nat → Nat → Nat) (v : Nat) : Nat := sumN (arcf L W v) n
theorem countFreeArcs_s {n fu v : Nat} {rk w : Nat → Int32} {L : Nat → Bool} {W : Nat → Nat → Nat} (hn : n ≤ 12) (hfu : n < fu) (hL : LB n rk L) (hW : Rpb n w W) (hv : v < n) : f2_countFreeArcs fu (nI n) rk (nI v) w = some (nI (arc1 n L W v)) := by
  have e := lp_c1 (b := fun z => f2_countFreeArcs_b1 (nI n) rk (nI v) w z.1 z.2) n fu hfu (arcf L W v) (fun u m hu => by
      show f2_countFreeArcs_b1 (nI n) rk (nI v) w (nI m) (nI u) = _
      unfold f2_countFreeArcs_b1 arcf
      rw [if_neg (nI_ge hu (by omega)), isFree_s hn hL hu, bnd1_s]
      by_cases hl : L u = true
      · rw [if_pos hl, if_pos hl, if_neg i10, hasArc_s hn hW hv hu, bnd1_s, t10, bnd1_s, bd_s, hasArc_s hn hW hu hv, bnd1_s, t10, bnd1_s, bd_s, bnd1_s, bd_s, nI_add, nI_add, nI_1, Nat.add_assoc]
      · rw [if_neg hl, if_neg hl, if_pos rfl, bnd1_s, bd_s, nI_1]
        rfl) (fun m => by
      show f2_countFreeArcs_b1 (nI n) rk (nI v) w (nI m) (nI n) = _
      unfold f2_countFreeArcs_b1
      rw [if_pos (nI_le (Nat.le_refl n) (by omega))]) 0
  unfold f2_countFreeArcs
  have e : lpG (fun z => f2_countFreeArcs_b1 (nI n) rk (nI v) w z.1 z.2) fu ((0 : Int32), (0 : Int32)) = some (nI (0 + arc1 n L W v)) := e
  rw [e, bnd1_s, Nat.zero_add]
theorem arcsAt_c {n u v j X : Nat} {il w : Nat → Int32} {L : Nat → Bool} (hn : n ≤ 12) (hL : LM n il L) (hu : u < n) (hv : v < n) (hj : j < 144) (hw : w j = nI X) (hX : X ≤ FA) : (if nI u = nI v then (some (0 : Int32)) else ckin (nI u) 12 (if (il (nI u).toNatClampNeg) = 0 then (some 0) else ckin (nI j) 144 (if 268435456 ≤ (w (nI j).toNatClampNeg) then (some 0) else some 1))) = some (nI (if u ≠ v ∧ L u = true ∧ X < FA then 1 else 0)) := by
  have hFA := FAe
  rw [ckN (by omega), ckN (by omega), clN (by omega), clN (by omega), hL u hu, hw]
  by_cases d1 : u = v
  · rw [if_pos (by rw [d1]), if_neg (fun q => q.1 d1)]; rfl
  · rw [if_neg (fun q => d1 ((nI_inj (by omega) (by omega)).mp q))]
    by_cases d2 : L u = true
    · rw [if_pos d2, if_neg i10]
      by_cases d3 : X < FA
      · rw [if_neg (fun q => by rw [FA_nI, nI_leB (by omega) (by omega)] at q; omega), if_pos ⟨d1, d2, d3⟩]; rfl
      · rw [if_pos (by rw [FA_nI, nI_leB (by omega) (by omega)]; omega), if_neg (fun q => d3 q.2.2)]; rfl
    · rw [if_neg d2, if_pos rfl, if_neg (fun q => d2 q.2.1)]; rfl
theorem arcsAt_s {n k fu v : Nat} {il w : Nat → Int32} {L : Nat → Bool} {W : Nat → Nat → Nat} (hn : n ≤ 12) (hfu : n < fu) (hL : LM n il L) (hW : Rpb n w W) (hB : CB n k W) (hv : v < n) : f8_arcsAt fu (nI n) (nI v) il w = some (nI (arc1 n L W v)) := by
  have e := lp_c1 (b := fun z => f8_arcsAt_b1 (nI n) (nI v) il w z.1 z.2) n fu hfu (arcf L W v) (fun u m hu => by
      show f8_arcsAt_b1 (nI n) (nI v) il w (nI m) (nI u) = _
      have w1 := hW u v hu hv
      have w2 := hW v u hv hu
      unfold f8_arcsAt_b1
      rw [if_neg (nI_ge hu (by omega)), nx_m, nx_m, nI_add, nI_add, arcsAt_c hn hL hu hv (by omega) w1.1 w1.2, bnd1_s, bd_s, arcsAt_c hn hL hu hv (by omega) w2.1 w2.2, bnd1_s, bd_s, bd_s, nI_add, nI_add, nI_1, Nat.add_assoc]
      have ea : (if u ≠ v ∧ L u = true ∧ W u v < FA then 1 else 0) + (if u ≠ v ∧ L u = true ∧ W v u < FA then 1 else 0) = arcf L W v u := by
        unfold arcf
        by_cases d2 : L u = true
        · rw [if_pos d2]
          by_cases d1 : u = v
          · have hd := hB.2 v hv
            subst d1
            rw [if_neg (fun q => q.1 rfl), if_neg (by omega)]
          · by_cases d3 : W u v < FA
            · rw [if_pos ⟨d1, d2, d3⟩, if_pos d3]
              by_cases d4 : W v u < FA
              · rw [if_pos ⟨d1, d2, d4⟩, if_pos d4]
              · rw [if_neg (fun q => d4 q.2.2), if_neg d4]
            · rw [if_neg (fun q => d3 q.2.2), if_neg d3]
              by_cases d4 : W v u < FA
              · rw [if_pos ⟨d1, d2, d4⟩, if_pos d4]
              · rw [if_neg (fun q => d4 q.2.2), if_neg d4]
        · rw [if_neg d2, if_neg (fun q => d2 q.2.1), if_neg (fun q => d2 q.2.1)]
      rw [ea]) (fun m => by
      show f8_arcsAt_b1 (nI n) (nI v) il w (nI m) (nI n) = _
      unfold f8_arcsAt_b1
      rw [if_pos (nI_le (Nat.le_refl n) (by omega))]) 0
  unfold f8_arcsAt
  have e : lpG (fun z => f8_arcsAt_b1 (nI n) (nI v) il w z.1 z.2) fu ((0 : Int32), (0 : Int32)) = some (nI (0 + arc1 n L W v)) := e
  rw [e, bnd1_s, Nat.zero_add]
/-- the road that is picked -/
def pks (n : Nat) (L : Nat → Bool) (W : Nat → Nat → Nat) (v : Nat) : Int32 := nI (ndc n L W v) - nI (arc1 n L W v)
theorem pks_e (n : Nat) (L : Nat → Bool) (W : Nat → Nat → Nat) (v : Nat) : nI (ndc n L W v) - nI (arc1 n L W v) = pks n L W v := rfl
def pk (n : Nat) (L : Nat → Bool) (W : Nat → Nat → Nat) : Nat → Int32 × Nat
  | 0 => (268435456, 99)
  | v + 1 => if L v = true ∧ ¬ (pk n L W v).1 ≤ pks n L W v then (pks n L W v, v) else pk n L W v
theorem pks_lt {n : Nat} (hn : n ≤ 12) (L : Nat → Bool) (W : Nat → Nat → Nat) (v : Nat) : ¬ (268435456 : Int32) ≤ pks n L W v := by
  have h1 : ndc n L W v ≤ 12 * 12 := by
    have h : ndc n L W v ≤ 12 * n := sumN_bound n (fun u hu => by
      have h2 : sumN (fun x => if nd n L W v u x = true then 1 else 0) n ≤ 1 * n := sumN_bound n (fun x hx => by split <;> omega)
      omega)
    omega
  have h2 : arc1 n L W v ≤ 2 * 12 := by
    have h : arc1 n L W v ≤ 2 * n := sumN_bound n (fun u hu => by
      unfold arcf
      by_cases a : L u = true
      · rw [if_pos a]
        by_cases b : W v u < FA
        · rw [if_pos b]; split <;> omega
        · rw [if_neg b]; split <;> omega
      · rw [if_neg a]; omega)
    omega
  intro h
  unfold pks at h
  rw [Int32.le_iff_toInt_le, Int32.toInt_sub, nI_toInt (by omega), nI_toInt (by omega)] at h
  have h3 : (268435456 : Int32).toInt = 268435456 := by decide
  rw [h3, Int.bmod_eq_of_le (by omega) (by omega)] at h
  omega
theorem pk_ok {n : Nat} (hn : n ≤ 12) (L : Nat → Bool) (W : Nat → Nat → Nat) : ∀ v, ((pk n L W v).2 = 99 ∧ (pk n L W v).1 = 268435456 ∧ ∀ u, u < v → ¬ L u = true) ∨ ((pk n L W v).2 < v ∧ L (pk n L W v).2 = true)
  | 0 => Or.inl ⟨rfl, rfl, fun u h => by omega⟩
  | v + 1 => by
    unfold pk
    by_cases hc : L v = true ∧ ¬ (pk n L W v).1 ≤ pks n L W v
    · rw [if_pos hc]
      exact Or.inr ⟨Nat.lt_succ_self v, hc.1⟩
    · rw [if_neg hc]
      rcases pk_ok hn L W v with h | h
      · left
        refine ⟨h.1, h.2.1, fun u hu => ?_⟩
        by_cases e : u = v
        · subst e
          intro hl
          exact hc ⟨hl, by rw [h.2.1]; exact pks_lt hn L W u⟩
        · exact h.2.2 u (by omega)
      · exact Or.inr ⟨by omega, h.2⟩
theorem pk_left {n : Nat} (hn : n ≤ 12) {L : Nat → Bool} {W : Nat → Nat → Nat} (h : ∃ u, u < n ∧ L u = true) : (pk n L W n).2 < n ∧ L (pk n L W n).2 = true := by
  rcases pk_ok hn L W n with q | q
  · obtain ⟨u, hu, hl⟩ := h
    exact absurd hl (q.2.2 u hu)
  · exact q
theorem pickNext_s {n k fu : Nat} {rk w a1 a2 ne : Nat → Int32} {L : Nat → Bool} {W : Nat → Nat → Nat} (hn : n ≤ 12) (hk : k ≤ 12) (hfu : n < fu) (hL : LB n rk L) (hW : Rpb n w W) (hB : CB n k W) (h1 : Rpb n a1 (fw (arM L W 99) n)) (hx : ∃ u, u < n ∧ L u = true) : ∃ a2' ne', f2_pickNext fu (nI n) rk w a1 a2 ne = some (nI (pk n L W n).2, a2', ne') := by
  have key := lp_e (em := fun i (x : Int32 × Int32 × (Nat → Int32) × (Nat → Int32)) => (x.1, x.2.1, nI i, x.2.2.1, x.2.2.2)) (b := fun z => f2_pickNext_b1 fu (nI n) rk w a1 z.1 z.2.1 z.2.2.1 z.2.2.2.1 z.2.2.2.2) (N := n) (I := fun v x => x.1 = (if (pk n L W v).2 < 12 then nI (pk n L W v).2 else 0) ∧ x.2.1 = (pk n L W v).1) (Q := fun x => x.1 = (if (pk n L W n).2 < 12 then nI (pk n L W n).2 else 0)) (fun v x hv hI => ?_) (fun x hI => ?_) n 0 fu ((0 : Int32), (268435456 : Int32), a2, ne) (by omega) hfu ⟨rfl, rfl⟩
  · obtain ⟨⟨o, a2', ne'⟩, e1, e2⟩ := key
    have e2 : o = (if (pk n L W n).2 < 12 then nI (pk n L W n).2 else 0) := e2
    have hp := (pk_left (W := W) hn hx).1
    rw [if_pos (by omega)] at e2
    subst e2
    refine ⟨a2', ne', ?_⟩
    unfold f2_pickNext
    have e1 : lpG (fun z => f2_pickNext_b1 fu (nI n) rk w a1 z.1 z.2.1 z.2.2.1 z.2.2.2.1 z.2.2.2.2) fu ((0 : Int32), (268435456 : Int32), (0 : Int32), a2, ne) = some (nI (pk n L W n).2, a2', ne') := e1
    rw [e1, bnd3_s]
  · obtain ⟨b, sc, a2, ne⟩ := x
    obtain ⟨i1, i2⟩ := hI
    dsimp only at i1 i2
    subst i1
    subst i2
    by_cases hl : L v = true
    · obtain ⟨a2', ne', e1, _⟩ := markNeeded_s (a2 := a2) (ne := ne) hn hk hfu hL hW hB h1 hv
      by_cases hc : (pk n L W v).1 ≤ pks n L W v
      · have ep : pk n L W (v + 1) = pk n L W v := by
          show (if L v = true ∧ ¬ (pk n L W v).1 ≤ pks n L W v then (pks n L W v, v) else pk n L W v) = _
          rw [if_neg (fun q => q.2 hc)]
        refine ⟨(if (pk n L W v).2 < 12 then nI (pk n L W v).2 else 0, (pk n L W v).1, a2', ne'), ?_, ?_⟩
        · show f2_pickNext_b1 fu (nI n) rk w a1 _ (pk n L W v).1 (nI v) a2 ne = _
          unfold f2_pickNext_b1
          rw [if_neg (nI_ge hv (by omega)), isFree_s hn hL hv, bnd1_s, if_pos hl, if_neg i10, e1, bnd3_s, countFreeArcs_s hn hfu hL hW hv, bnd1_s, bd_s, pks_e, if_pos hc, bnd4_s, bd_s, nI_1]
        · dsimp only
          rw [ep]
          exact ⟨rfl, rfl⟩
      · have ep : pk n L W (v + 1) = (pks n L W v, v) := by
          show (if L v = true ∧ ¬ (pk n L W v).1 ≤ pks n L W v then (pks n L W v, v) else pk n L W v) = _
          rw [if_pos ⟨hl, hc⟩]
        refine ⟨(nI v, pks n L W v, a2', ne'), ?_, ?_⟩
        · show f2_pickNext_b1 fu (nI n) rk w a1 _ (pk n L W v).1 (nI v) a2 ne = _
          unfold f2_pickNext_b1
          rw [if_neg (nI_ge hv (by omega)), isFree_s hn hL hv, bnd1_s, if_pos hl, if_neg i10, e1, bnd3_s, countFreeArcs_s hn hfu hL hW hv, bnd1_s, bd_s, pks_e, if_neg hc, bnd4_s, bd_s, nI_1]
        · dsimp only
          rw [ep, if_pos (show v < 12 by omega)]
          exact ⟨rfl, rfl⟩
    · have ep : pk n L W (v + 1) = pk n L W v := by
        show (if L v = true ∧ ¬ (pk n L W v).1 ≤ pks n L W v then (pks n L W v, v) else pk n L W v) = _
        rw [if_neg (fun q => hl q.1)]
      refine ⟨(if (pk n L W v).2 < 12 then nI (pk n L W v).2 else 0, (pk n L W v).1, a2, ne), ?_, ?_⟩
      · show f2_pickNext_b1 fu (nI n) rk w a1 _ (pk n L W v).1 (nI v) a2 ne = _
        unfold f2_pickNext_b1
        rw [if_neg (nI_ge hv (by omega)), isFree_s hn hL hv, bnd1_s, if_neg hl, if_pos rfl, bnd4_s, bd_s, nI_1]
      · dsimp only
        rw [ep]
        exact ⟨rfl, rfl⟩
  · obtain ⟨b, sc, a2, ne⟩ := x
    refine ⟨(b, a2, ne), ?_, hI.1⟩
    show f2_pickNext_b1 fu (nI n) rk w a1 b sc (nI n) a2 ne = _
    unfold f2_pickNext_b1
    rw [if_pos (nI_le (Nat.le_refl n) (by omega))]
theorem nextRoad_s {n k fu : Nat} {il w ar wh ne : Nat → Int32} {L : Nat → Bool} {W : Nat → Nat → Nat} (hn : n ≤ 12) (hk : k ≤ 12) (hfu : 144 < fu) (hL : LM n il L) (hW : Rpb n w W) (hB : CB n k W) (hx : ∃ u, u < n ∧ L u = true) : ∃ ar' wh' ne', f8_nextRoad fu (nI n) il w ar wh ne = some (nI (pk n L W n).2, ar', wh', ne') := by
  have key := lp_e (em := fun i (x : Int32 × Int32 × (Nat → Int32) × (Nat → Int32) × (Nat → Int32)) => (x.1, x.2.1, nI i, x.2.2.1, x.2.2.2.1, x.2.2.2.2)) (b := fun z => f8_nextRoad_b1 fu (nI n) il w z.1 z.2.1 z.2.2.1 z.2.2.2.1 z.2.2.2.2.1 z.2.2.2.2.2) (N := n) (I := fun v x => x.1 = oI (pk n L W v).2 ∧ x.2.1 = (pk n L W v).1) (Q := fun x => x.1 = oI (pk n L W n).2) (fun v x hv hI => ?_) (fun x hI => ?_) n 0 fu ((-1 : Int32), (268435456 : Int32), ar, wh, ne) (by omega) (by omega) ⟨rfl, rfl⟩
  · obtain ⟨⟨o, ar', wh', ne'⟩, e1, e2⟩ := key
    have e2 : o = oI (pk n L W n).2 := e2
    have hp := (pk_left (W := W) hn hx).1
    rw [oI_lt (by omega)] at e2
    subst e2
    refine ⟨ar', wh', ne', ?_⟩
    unfold f8_nextRoad
    have e1 : lpG (fun z => f8_nextRoad_b1 fu (nI n) il w z.1 z.2.1 z.2.2.1 z.2.2.2.1 z.2.2.2.2.1 z.2.2.2.2.2) fu ((-1 : Int32), (268435456 : Int32), (0 : Int32), ar, wh, ne) = some (nI (pk n L W n).2, ar', wh', ne') := e1
    rw [e1, bnd4_s]
  · obtain ⟨b, sc, ar, wh, ne⟩ := x
    obtain ⟨i1, i2⟩ := hI
    dsimp only at i1 i2
    subst i1
    subst i2
    by_cases hl : L v = true
    · obtain ⟨ar', wh', ne', e1, _⟩ := layNeeds_s (ar := ar) (wh := wh) (ne := ne) hn hk hfu hL hW hv
      by_cases hc : (pk n L W v).1 ≤ pks n L W v
      · have ep : pk n L W (v + 1) = pk n L W v := by
          show (if L v = true ∧ ¬ (pk n L W v).1 ≤ pks n L W v then (pks n L W v, v) else pk n L W v) = _
          rw [if_neg (fun q => q.2 hc)]
        refine ⟨(oI (pk n L W v).2, (pk n L W v).1, ar', wh', ne'), ?_, ?_⟩
        · show f8_nextRoad_b1 fu (nI n) il w _ (pk n L W v).1 (nI v) ar wh ne = _
          unfold f8_nextRoad_b1
          rw [if_neg (nI_ge hv (by omega)), ckN (by omega), clN (by omega), hL v hv, if_pos hl, if_neg i10, e1, bnd4_s, arcsAt_s hn (by omega) hL hW hB hv, bnd1_s, bd_s, pks_e, if_pos hc, bnd1_s, if_pos hc, bnd1_s, bnd5_s, bd_s, nI_1]
        · dsimp only
          rw [ep]
          exact ⟨rfl, rfl⟩
      · have ep : pk n L W (v + 1) = (pks n L W v, v) := by
          show (if L v = true ∧ ¬ (pk n L W v).1 ≤ pks n L W v then (pks n L W v, v) else pk n L W v) = _
          rw [if_pos ⟨hl, hc⟩]
        refine ⟨(nI v, pks n L W v, ar', wh', ne'), ?_, ?_⟩
        · show f8_nextRoad_b1 fu (nI n) il w _ (pk n L W v).1 (nI v) ar wh ne = _
          unfold f8_nextRoad_b1
          rw [if_neg (nI_ge hv (by omega)), ckN (by omega), clN (by omega), hL v hv, if_pos hl, if_neg i10, e1, bnd4_s, arcsAt_s hn (by omega) hL hW hB hv, bnd1_s, bd_s, pks_e, if_neg hc, bnd1_s, if_neg hc, bnd1_s, bnd5_s, bd_s, nI_1]
        · dsimp only
          rw [ep, oI_lt (show v < 12 by omega)]
          exact ⟨rfl, rfl⟩
    · have ep : pk n L W (v + 1) = pk n L W v := by
        show (if L v = true ∧ ¬ (pk n L W v).1 ≤ pks n L W v then (pks n L W v, v) else pk n L W v) = _
        rw [if_neg (fun q => hl q.1)]
      refine ⟨(oI (pk n L W v).2, (pk n L W v).1, ar, wh, ne), ?_, ?_⟩
      · show f8_nextRoad_b1 fu (nI n) il w _ (pk n L W v).1 (nI v) ar wh ne = _
        unfold f8_nextRoad_b1
        rw [if_neg (nI_ge hv (by omega)), ckN (by omega), clN (by omega), hL v hv, if_neg hl, if_pos rfl, bnd5_s, bd_s, nI_1]
      · dsimp only
        rw [ep]
        exact ⟨rfl, rfl⟩
  · obtain ⟨b, sc, ar, wh, ne⟩ := x
    refine ⟨(b, ar, wh, ne), ?_, hI.1⟩
    show f8_nextRoad_b1 fu (nI n) il w b sc (nI n) ar wh ne = _
    unfold f8_nextRoad_b1
    rw [if_pos (nI_le (Nat.le_refl n) (by omega))]
/-! shortcuts laid -/
theorem nd_r (n : Nat) (L : Nat → Bool) (W : Nat → Nat → Nat) (v u : Nat) : ¬ nd n L W v u v = true := fun q => (of_decide_eq_true q).2.2.1 rfl
theorem nd_l (n : Nat) (L : Nat → Bool) (W : Nat → Nat → Nat) (v x : Nat) : ¬ nd n L W v v x = true := fun q => (of_decide_eq_true q).2.1 rfl
def RpO (n : Nat) (a : Nat → Int32) (M : Nat → Nat → Nat) : Prop := ∀ r s, r < n → s < n → a (12 * r + s) = oI (M r s)
theorem lp_give {bo : Int32 × (Nat → Int32) × (Nat → Int32) → Option ((Int32 × (Nat → Int32) × (Nat → Int32)) ⊕ ((Nat → Int32) × (Nat → Int32)))} (bi : Nat → Int32 × (Nat → Int32) × (Nat → Int32) → Option ((Int32 × (Nat → Int32) × (Nat → Int32)) ⊕ ((Nat → Int32) × (Nat → Int32)))) (n fu v : Nat) (L : Nat → Bool) (W Md : Nat → Nat → Nat) (hn : n ≤ 12) (hfu : n < fu) (hv : v < n)
    (ho : ∀ r x, r < n → bo (nI r, x) = bnd1 (lpG (bi r) fu ((0 : Int32), x)) fun y => some (.inl (nI (r + 1), y))) (hoe : ∀ x, bo (nI n, x) = some (.inr x))
    (hb : ∀ u x (w m : Nat → Int32), u < n → x < n → w (12 * u + v) = nI (W u v) → w (12 * v + x) = nI (W v x) → bi u (nI x, w, m) = some (.inl (nI (x + 1), if nd n L W v u x = true then (upd w (12 * u + x) (nI (W u v + W v x)), upd m (12 * u + x) (nI v)) else (w, m)))) (hie : ∀ r x, r < n → bi r (nI n, x) = some (.inr x)) (w m : Nat → Int32) (hW : Rep n w W) (hM : RpO n m Md) :
    ∃ w' m', lpG bo fu ((0 : Int32), w, m) = some (w', m') ∧ Rep n w' (cW n L W v) ∧ RpO n m' (cMd n L W Md v) := by
  obtain ⟨⟨w', m'⟩, e1, e2⟩ := lp_d bi n fu hfu (I := fun r s y => ∀ r' s', r' < n → s' < n → y.1 (12 * r' + s') = nI (if r' < r ∨ r' = r ∧ s' < s then cW n L W v r' s' else W r' s') ∧ y.2 (12 * r' + s') = oI (if r' < r ∨ r' = r ∧ s' < s then cMd n L W Md v r' s' else Md r' s')) ho hoe (fun u x y hu hx hI => by
      obtain ⟨w, m⟩ := y
      dsimp only at hI
      have c1 := (hI u v hu hv).1
      have c2 := (hI v x hv hx).1
      have d1 : cW n L W v u v = W u v := by unfold cW; rw [if_neg (nd_r n L W v u)]
      have d2 : cW n L W v v x = W v x := by unfold cW; rw [if_neg (nd_l n L W v x)]
      rw [d1] at c1
      rw [d2] at c2
      rw [ite_self] at c1 c2
      refine ⟨_, hb u x w m hu hx c1 c2, fun r' s' hr' hs' => ?_⟩
      have hq := hI r' s' hr' hs'
      by_cases h : r' = u ∧ s' = x
      · obtain ⟨rfl, rfl⟩ := h
        rw [if_neg (by omega), if_neg (by omega)] at hq
        rw [if_pos (show r' < r' ∨ r' = r' ∧ s' < s' + 1 by omega), if_pos (show r' < r' ∨ r' = r' ∧ s' < s' + 1 by omega)]
        unfold cW cMd
        by_cases hc : nd n L W v r' s' = true
        · rw [if_pos hc, if_pos hc, if_pos hc]
          dsimp only
          rw [upds, if_pos rfl, upds, if_pos rfl, oI_lt (by omega)]
          exact ⟨rfl, rfl⟩
        · rw [if_neg hc, if_neg hc, if_neg hc]
          exact hq
      · have e3 : (if nd n L W v u x = true then (upd w (12 * u + x) (nI (W u v + W v x)), upd m (12 * u + x) (nI v)) else (w, m)).1 (12 * r' + s') = w (12 * r' + s') := by
          by_cases hc : nd n L W v u x = true
          · rw [if_pos hc]; dsimp only; rw [updm (by omega) (by omega), if_neg h]
          · rw [if_neg hc]
        have e4 : (if nd n L W v u x = true then (upd w (12 * u + x) (nI (W u v + W v x)), upd m (12 * u + x) (nI v)) else (w, m)).2 (12 * r' + s') = m (12 * r' + s') := by
          by_cases hc : nd n L W v u x = true
          · rw [if_pos hc]; dsimp only; rw [updm (by omega) (by omega), if_neg h]
          · rw [if_neg hc]
        rw [e3, e4]
        by_cases h3 : r' < u ∨ r' = u ∧ s' < x
        · rw [if_pos h3, if_pos h3] at hq
          rw [if_pos (show r' < u ∨ r' = u ∧ s' < x + 1 by omega), if_pos (show r' < u ∨ r' = u ∧ s' < x + 1 by omega)]
          exact hq
        · rw [if_neg h3, if_neg h3] at hq
          rw [if_neg (show ¬ (r' < u ∨ r' = u ∧ s' < x + 1) by omega), if_neg (show ¬ (r' < u ∨ r' = u ∧ s' < x + 1) by omega)]
          exact hq) hie (fun r y hr hI r' s' hr' hs' => by
      have hq := hI r' s' hr' hs'
      by_cases h3 : r' < r + 1
      · rw [if_pos (show r' < r ∨ r' = r ∧ s' < n by omega), if_pos (show r' < r ∨ r' = r ∧ s' < n by omega)] at hq
        rw [if_pos (show r' < r + 1 ∨ r' = r + 1 ∧ s' < 0 by omega), if_pos (show r' < r + 1 ∨ r' = r + 1 ∧ s' < 0 by omega)]
        exact hq
      · rw [if_neg (show ¬ (r' < r ∨ r' = r ∧ s' < n) by omega), if_neg (show ¬ (r' < r ∨ r' = r ∧ s' < n) by omega)] at hq
        rw [if_neg (show ¬ (r' < r + 1 ∨ r' = r + 1 ∧ s' < 0) by omega), if_neg (show ¬ (r' < r + 1 ∨ r' = r + 1 ∧ s' < 0) by omega)]
        exact hq) (w, m) (fun r' s' hr' hs' => by
      rw [if_neg (show ¬ (r' < 0 ∨ r' = 0 ∧ s' < 0) by omega), if_neg (show ¬ (r' < 0 ∨ r' = 0 ∧ s' < 0) by omega)]
      exact ⟨hW r' s' hr' hs', hM r' s' hr' hs'⟩)
  dsimp only at e2
  refine ⟨w', m', e1, fun r s hr hs => ?_, fun r s hr hs => ?_⟩
  · have := (e2 r s hr hs).1
    rw [if_pos (show r < n ∨ r = n ∧ s < 0 by omega)] at this
    exact this
  · have := (e2 r s hr hs).2
    rw [if_pos (show r < n ∨ r = n ∧ s < 0 by omega)] at this
    exact this
