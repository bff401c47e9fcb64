/-! the page as a whole -/
abbrev Row : Type := Nat → Int32
def CDS (N : Nat) (cd : Nat → Nat) (co pa : Row) : Prop := ∀ j, j < N → co j = nI (cd j) ∧ pa j = nI (cd j) ∧ 32 ≤ cd j ∧ cd j ≤ 126
theorem scan_l {N : Nat} {cd : Nat → Nat} {co pa : Row} (hN : N ≤ 60) (hc : CDS N cd co pa) : ∀ (m i fu : Nat) (c d f : Nat) (beg en len : Nat → Nat) (cur due : Int32) (pb pe pl : Row) (st fi nr : Int32) (nb ne nl : Row), i + m = N → m < fu → PR c d f beg en len cur due pb pe pl st fi nr nb ne nl →
    (∃ p X Y, p < N ∧ lpG (fun z => f4_scan_b1 (nI N) co z.1 z.2.1 z.2.2.1 z.2.2.2.1 z.2.2.2.2.1 z.2.2.2.2.2) fu (nI i, cur, due, pb, pe, pl) = some (.inl (nI p, X)) ∧ lpG (fun z => f8_readPage_b1 (nI N) pa z.1 z.2.1 z.2.2.1 z.2.2.2.1 z.2.2.2.2.1 z.2.2.2.2.2.1 z.2.2.2.2.2.2) fu (nI i, st, fi, nr, nb, ne, nl) = some (nI p, Y)) ∨
    ∃ c d f beg en len cur' due' pb' pe' pl' st' fi' nr' nb' ne' nl', lpG (fun z => f4_scan_b1 (nI N) co z.1 z.2.1 z.2.2.1 z.2.2.2.1 z.2.2.2.2.1 z.2.2.2.2.2) fu (nI i, cur, due, pb, pe, pl) = some (.inr (cur', due', pb', pe', pl')) ∧ lpG (fun z => f8_readPage_b1 (nI N) pa z.1 z.2.1 z.2.2.1 z.2.2.2.1 z.2.2.2.2.1 z.2.2.2.2.2.1 z.2.2.2.2.2.2) fu (nI i, st, fi, nr, nb, ne, nl) = some (nI N, st', fi', nr', nb', ne', nl') ∧ PR c d f beg en len cur' due' pb' pe' pl' st' fi' nr' nb' ne' nl'
  | m, i, 0, _, _, _, _, _, _, _, _, _, _, _, _, _, _, _, _, _, _, h2, _ => by omega
  | 0, i, fu + 1, c, d, f, beg, en, len, cur, due, pb, pe, pl, st, fi, nr, nb, ne, nl, h1, h2, h => by
    have e : i = N := by omega
    subst e
    right
    refine ⟨c, d, f, beg, en, len, cur, due, pb, pe, pl, st, fi, nr, nb, ne, nl, ?_, ?_, h⟩
    · have e2 : f4_scan_b1 (nI i) co (nI i) cur due pb pe pl = some (.inr (.inr (cur, due, pb, pe, pl))) := by
        unfold f4_scan_b1
        rw [if_pos (nI_le (Nat.le_refl i) (by omega))]
      unfold lpG
      dsimp only
      rw [e2]
    · have e2 : f8_readPage_b1 (nI i) pa (nI i) st fi nr nb ne nl = some (.inr (nI i, st, fi, nr, nb, ne, nl)) := by
        unfold f8_readPage_b1
        rw [if_pos (nI_le (Nat.le_refl i) (by omega))]
      unfold lpG
      dsimp only
      rw [e2]
  | m + 1, i, fu + 1, c, d, f, beg, en, len, cur, due, pb, pe, pl, st, fi, nr, nb, ne, nl, h1, h2, h => by
    have hi : i < N := by omega
    obtain ⟨k1, k2, k3, k4⟩ := hc i hi
    have hB : ∀ Y, (bnd6 (f4_takes due (nI (cd i)) pb cur pe pl) fun (r_15 : Int32) (iCurrent_16 : Int32) (iDue_17 : Int32) (aPbegins_18 : Row) (aPends_19 : Row) (aPlengths_20 : Row) => if r_15 = 0 then (some (.inr (.inl (nI i, iCurrent_16, iDue_17, aPbegins_18, aPends_19, aPlengths_20)))) else bd (nI i + 1) fun x1_23 => some (.inl (x1_23, iCurrent_16, iDue_17, aPbegins_18, aPends_19, aPlengths_20))) = Y → f4_scan_b1 (nI N) co (nI i) cur due pb pe pl = Y := fun Y hY => by
      unfold f4_scan_b1
      rw [if_neg (nI_ge hi (by omega)), ckN (show i < 60 by omega), clN (by omega), k1]
      exact hY
    have hM : ∀ Y, (bnd7 (f8_takes st (nI (cd i)) fi nr nb ne nl) fun (r_18 : Int32) (iStage_19 : Int32) (iFigures_20 : Int32) (iNewRoads_21 : Int32) (aNewBegin_22 : Row) (aNewEnd_23 : Row) (aNewLength_24 : Row) => if r_18 = 0 then (some (.inr (nI i, iStage_19, iFigures_20, iNewRoads_21, aNewBegin_22, aNewEnd_23, aNewLength_24))) else bd (nI i + 1) fun x1_27 => some (.inl (x1_27, iStage_19, iFigures_20, iNewRoads_21, aNewBegin_22, aNewEnd_23, aNewLength_24))) = Y → f8_readPage_b1 (nI N) pa (nI i) st fi nr nb ne nl = Y := fun Y hY => by
      unfold f8_readPage_b1
      rw [if_neg (nI_ge hi (by omega)), ckN (show i < 60 by omega), clN (by omega), k2]
      exact hY
    rcases tk (k := cd i) h k3 k4 with ⟨c', d', f', beg', en', len', cur', due', pb', pe', pl', st', fi', nr', nb', ne', nl', t1, t2, t3⟩ | ⟨cur', due', pb', pe', pl', st', fi', nr', nb', ne', nl', t1, t2⟩
    · have eB := hB (some (.inl (nI (i + 1), cur', due', pb', pe', pl'))) (by rw [t1, bnd6_s, if_neg i10, bd_s, nI_1])
      have eM := hM (some (.inl (nI (i + 1), st', fi', nr', nb', ne', nl'))) (by rw [t2, bnd7_s, if_neg i10, bd_s, nI_1])
      have ih := scan_l hN hc m (i + 1) fu c' d' f' beg' en' len' cur' due' pb' pe' pl' st' fi' nr' nb' ne' nl' (by omega) (by omega) t3
      have uB : lpG (fun z => f4_scan_b1 (nI N) co z.1 z.2.1 z.2.2.1 z.2.2.2.1 z.2.2.2.2.1 z.2.2.2.2.2) (fu + 1) (nI i, cur, due, pb, pe, pl) = lpG (fun z => f4_scan_b1 (nI N) co z.1 z.2.1 z.2.2.1 z.2.2.2.1 z.2.2.2.2.1 z.2.2.2.2.2) fu (nI (i + 1), cur', due', pb', pe', pl') := by
        conv => lhs; unfold lpG
        dsimp only
        rw [eB]
      have uM : lpG (fun z => f8_readPage_b1 (nI N) pa z.1 z.2.1 z.2.2.1 z.2.2.2.1 z.2.2.2.2.1 z.2.2.2.2.2.1 z.2.2.2.2.2.2) (fu + 1) (nI i, st, fi, nr, nb, ne, nl) = lpG (fun z => f8_readPage_b1 (nI N) pa z.1 z.2.1 z.2.2.1 z.2.2.2.1 z.2.2.2.2.1 z.2.2.2.2.2.1 z.2.2.2.2.2.2) fu (nI (i + 1), st', fi', nr', nb', ne', nl') := by
        conv => lhs; unfold lpG
        dsimp only
        rw [eM]
      rw [uB, uM]
      exact ih
    · left
      have eB := hB (some (.inr (.inl (nI i, cur', due', pb', pe', pl')))) (by rw [t1, bnd6_s, if_pos rfl])
      have eM := hM (some (.inr (nI i, st', fi', nr', nb', ne', nl'))) (by rw [t2, bnd7_s, if_pos rfl])
      refine ⟨i, (cur', due', pb', pe', pl'), (st', fi', nr', nb', ne', nl'), hi, ?_, ?_⟩
      · unfold lpG
        dsimp only
        rw [eB]
      · unfold lpG
        dsimp only
        rw [eM]
/-- both look through the page: the same place, or the whole page with the same roads -/
theorem scan_s {N fu : Nat} {cd : Nat → Nat} {co pa : Row} (hN : N ≤ 60) (hfu : 60 < fu) (hc : CDS N cd co pa) (pb pe pl nb ne nl : Row) :
    (∃ p X Y, p < N ∧ f4_scan fu (nI N) co pb pe pl = some (nI p, X) ∧ f8_readPage fu (nI N) pa nb ne nl = some (nI p, Y)) ∨
    ∃ c d f beg en len cur' due' pb' pe' pl' st' fi' nr' nb' ne' nl', f4_scan fu (nI N) co pb pe pl = some (nI N, cur', due', pb', pe', pl') ∧ f8_readPage fu (nI N) pa nb ne nl = some (nI N, st', fi', nr', nb', ne', nl') ∧ PR c d f beg en len cur' due' pb' pe' pl' st' fi' nr' nb' ne' nl' := by
  have h0 : PR 0 0 0 (fun _ => 0) (fun _ => 0) (fun _ => 0) (nI 0) (nI 0) pb pe pl (nI 0) (nI 0) (nI 0) nb ne nl := ⟨rfl, rfl, rfl, rfl, rfl, by omega, by omega, by omega, by omega, by omega, by omega, fun j hj => by omega, fun j hj => by omega, fun j hj => by omega⟩
  rcases scan_l hN hc N 0 fu 0 0 0 _ _ _ _ _ _ _ _ _ _ _ _ _ _ (by omega) (by omega) h0 with ⟨p, X, Y, h1, h2, h3⟩ | ⟨c, d, f, beg, en, len, cur', due', pb', pe', pl', st', fi', nr', nb', ne', nl', h1, h2, h3⟩
  · left
    obtain ⟨x1, x2, x3, x4, x5⟩ := X
    obtain ⟨y1, y2, y3, y4, y5, y6⟩ := Y
    have h2 : lpG (fun z => f4_scan_b1 (nI N) co z.1 z.2.1 z.2.2.1 z.2.2.2.1 z.2.2.2.2.1 z.2.2.2.2.2) fu ((0 : Int32), (0 : Int32), (0 : Int32), pb, pe, pl) = some (.inl (nI p, x1, x2, x3, x4, x5)) := h2
    have h3 : lpG (fun z => f8_readPage_b1 (nI N) pa z.1 z.2.1 z.2.2.1 z.2.2.2.1 z.2.2.2.2.1 z.2.2.2.2.2.1 z.2.2.2.2.2.2) fu ((0 : Int32), (0 : Int32), (0 : Int32), (0 : Int32), nb, ne, nl) = some (nI p, y1, y2, y3, y4, y5, y6) := h3
    refine ⟨p, (x1, x2, x3, x4, x5), (y1, y2, y3, y4, y5, y6), h1, ?_, ?_⟩
    · unfold f4_scan
      rw [h2, bnd1_s]
      rfl
    · unfold f8_readPage
      rw [h3, bnd7_s]
  · right
    have h1 : lpG (fun z => f4_scan_b1 (nI N) co z.1 z.2.1 z.2.2.1 z.2.2.2.1 z.2.2.2.2.1 z.2.2.2.2.2) fu ((0 : Int32), (0 : Int32), (0 : Int32), pb, pe, pl) = some (.inr (cur', due', pb', pe', pl')) := h1
    have h2 : lpG (fun z => f8_readPage_b1 (nI N) pa z.1 z.2.1 z.2.2.1 z.2.2.2.1 z.2.2.2.2.1 z.2.2.2.2.2.1 z.2.2.2.2.2.2) fu ((0 : Int32), (0 : Int32), (0 : Int32), (0 : Int32), nb, ne, nl) = some (nI N, st', fi', nr', nb', ne', nl') := h2
    refine ⟨c, d, f, beg, en, len, cur', due', pb', pe', pl', st', fi', nr', nb', ne', nl', ?_, ?_, h3⟩
    · unfold f4_scan
      rw [h1, bnd1_s]
      rfl
    · unfold f8_readPage
      rw [h2, bnd7_s]
/-! roads taken from the page -/
def tc0 (beg en : Nat → Nat) : Nat → Nat → Nat := fun r s => if en r = beg s then (if en s = beg r then 51 else 0) else 52
theorem cpy12 {a b : Row} {j : Nat} (hj : j < 12) : va_cpy a b (0 : Int32).toNatClampNeg (0 : Int32).toNatClampNeg (12 : Int32).toNatClampNeg j = a j := by
  rw [show (0 : Int32).toNatClampNeg = 0 from rfl, show (12 : Int32).toNatClampNeg = 12 from rfl, pk_cpy_in (Nat.zero_le j) (by omega), show 0 + (j - 0) = j by omega]
theorem firstCost_s {n r s : Nat} {b e : Row} {beg en : Nat → Nat} (hn : n ≤ 12) (hb : Rp1 n b beg) (he : Rp1 n e en) (hb8 : ∀ r, r < n → beg r < 8 ∧ en r < 8) (hr : r < n) (hs : s < n) : f3_firstCost (nI r) (nI s) e b = some (cB (tc0 beg en r s)) := by
  have h1 := hb8 r hr
  have h2 := hb8 s hs
  unfold f3_firstCost tc0
  rw [ckN (by omega), ckN (by omega), ckN (by omega), ckN (by omega), clN (by omega), clN (by omega), he r hr, hb s hs, he s hs, hb r hr]
  by_cases q : en r = beg s
  · rw [if_pos (by rw [q]), if_pos q]
    by_cases q2 : en s = beg r
    · rw [if_pos (by rw [q2]), if_pos q2, bnd1_s]; rfl
    · rw [if_neg (fun z => q2 ((nI_inj (by omega) (by omega)).mp z)), if_neg q2, bnd1_s]; rfl
  · rw [if_neg (fun z => q ((nI_inj (by omega) (by omega)).mp z)), if_neg q]; rfl
theorem takeC_s {n fu : Nat} {b e g : Row} {beg en : Nat → Nat} (hn : n ≤ 12) (hfu : n < fu) (hb : Rp1 n b beg) (he : Rp1 n e en) (hb8 : ∀ r, r < n → beg r < 8 ∧ en r < 8) : ∃ g', lpG (fun z => f3_take_b1 fu (nI n) e b z.1 z.2) fu ((0 : Int32), g) = some g' ∧ RpC n cB g' (tc0 beg en) :=
  lp_fill (bo := fun z => f3_take_b1 fu (nI n) e b z.1 z.2) (fun r => fun z => f3_take_b2 (nI n) (nI r) e b z.1 z.2) n fu hn hfu (fun r x hr => by
      show f3_take_b1 fu (nI n) e b (nI r) x = _
      unfold f3_take_b1
      rw [if_neg (nI_ge hr (by omega)), nI_1]
      rfl) (fun x => by
      show f3_take_b1 fu (nI n) e b (nI n) x = _
      unfold f3_take_b1
      rw [if_pos (nI_le (Nat.le_refl n) (by omega))]) (fun r s => cB (tc0 beg en r s)) (fun r s a hr hs => by
      show f3_take_b2 (nI n) (nI r) e b (nI s) a = _
      unfold f3_take_b2
      rw [if_neg (nI_ge hs (by omega)), firstCost_s hn hb he hb8 hr hs, bnd1_s, set_s (by omega) (by omega), bnd1_s, bd_s, nI_1]) (fun r x hr => by
      show f3_take_b2 (nI n) (nI r) e b (nI n) x = _
      unfold f3_take_b2
      rw [if_pos (nI_le (Nat.le_refl n) (by omega))]) g
theorem roadsC_s {n fu : Nat} {b e g : Row} {beg en : Nat → Nat} (hn : n ≤ 12) (h0 : 0 < n) (hfu : 144 < fu) (hb : Rp1 n b beg) (he : Rp1 n e en) (hb8 : ∀ r, r < n → beg r < 8 ∧ en r < 8) : ∃ g', lpG (fun z => f8_roads_b2 (nI n) e b z.1 z.2) fu ((0 : Int32), g) = some g' ∧ RpC n cM g' (tc0 beg en) := by
  have hle : n * n ≤ 12 * 12 := Nat.mul_le_mul hn hn
  obtain ⟨g', e1, e2⟩ := lp_e (em := fun i (x : Row) => (nI i, x)) (b := fun z => f8_roads_b2 (nI n) e b z.1 z.2) (N := n * n) (I := fun k a => ∀ r s, r < n → s < n → n * r + s < k → a (12 * r + s) = cM (tc0 beg en r s)) (Q := fun a => ∀ r s, r < n → s < n → n * r + s < n * n → a (12 * r + s) = cM (tc0 beg en r s)) (fun k a hk hI => by
      have h1 : k / n < n := Nat.div_lt_of_lt_mul hk
      have h2 : k % n < n := Nat.mod_lt _ h0
      obtain ⟨s1, s2, s3⟩ := sq_ix hn h0 hk
      have b1 := hb8 _ h1
      have b2 := hb8 _ h2
      refine ⟨upd a (12 * (k / n) + k % n) (cM (tc0 beg en (k / n) (k % n))), ?_, fun r s hr hs hlt => ?_⟩
      · show f8_roads_b2 (nI n) e b (nI k) a = some (.inl (nI (k + 1), _))
        unfold f8_roads_b2
        rw [pk_mul, if_neg (nI_ge hk (by omega)), ckz_n s3, s1, bd_s, ckz_n s3, ← s1, s2, bd_s, s1, ckN (by omega), ckN (by omega), clN (by omega), clN (by omega), he _ h1, hb _ h2, nx_m, nI_add]
        have hval : ∀ (Z : Int32 → Option ((Int32 × Row) ⊕ Row)), (bnd1 (if nI (en (k / n)) = nI (beg (k % n)) then (some (1 : Int32)) else some 0) fun (y_43 : Int32) => bnd1 (if y_43 = 0 then (some (-1)) else ckin (nI (k % n)) 12 (ckin (nI (k / n)) 12 (if (e (k % n)) = (b (k / n)) then (some (-5)) else some 0))) Z) = Z (cM (tc0 beg en (k / n) (k % n))) := fun Z => by
          rw [he _ h2, hb _ h1]
          unfold tc0
          by_cases q : en (k / n) = beg (k % n)
          · rw [if_pos (by rw [q]), if_pos q, bnd1_s, if_neg i10, ckN (by omega), ckN (by omega)]
            by_cases q2 : en (k % n) = beg (k / n)
            · rw [if_pos (by rw [q2]), if_pos q2, bnd1_s]; rfl
            · rw [if_neg (fun z => q2 ((nI_inj (by omega) (by omega)).mp z)), if_neg q2, bnd1_s]; rfl
          · rw [if_neg (fun z => q ((nI_inj (by omega) (by omega)).mp z)), if_neg q, bnd1_s, if_pos rfl, bnd1_s]; rfl
        rw [hval, ckN (by omega), clN (by omega), bd_s, bd_s, nI_1]
      · rw [updm (by omega) (by omega)]
        by_cases q : r = k / n ∧ s = k % n
        · rw [if_pos q, q.1, q.2]
        · rw [if_neg q]
          refine hI r s hr hs ?_
          by_cases q2 : n * r + s = k
          · refine absurd ⟨?_, ?_⟩ q
            · rw [← q2, Nat.mul_add_div h0, Nat.div_eq_of_lt hs, Nat.add_zero]
            · rw [← q2, Nat.mul_add_mod, Nat.mod_eq_of_lt hs]
          · omega) (fun a hI => ⟨a, (by
      show f8_roads_b2 (nI n) e b (nI (n * n)) a = _
      unfold f8_roads_b2
      rw [pk_mul, if_pos (nI_le (Nat.le_refl _) (by omega))]), hI⟩) (n * n) 0 fu g (by omega) (by omega) (fun r s hr hs h => by omega)
  refine ⟨g', e1, fun r s hr hs => e2 r s hr hs ?_⟩
  have : n * r + n ≤ n * n := by rw [← Nat.mul_succ]; exact Nat.mul_le_mul_left n hr
  omega
