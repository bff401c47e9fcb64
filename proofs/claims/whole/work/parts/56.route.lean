/-! routes from place to place -/
def itr {α : Type} (f : Nat → α → α) (x : α) : Nat → α
  | 0 => x
  | k + 1 => f k (itr f x k)
theorem lp_it {α : Type} {b : α × Int32 → Option ((α × Int32) ⊕ α)} (N fu : Nat) (hfu : N < fu) (f : Nat → α → α) (hb : ∀ k x, k < N → b (x, nI k) = some (.inl (f k x, nI (k + 1)))) (he : ∀ x, b (x, nI N) = some (.inr x)) (x : α) : lpG b fu (x, (0 : Int32)) = some (itr f x N) := by
  obtain ⟨o, e1, e2⟩ := lp_e (em := fun i (x : α) => (x, nI i)) (b := b) (N := N) (I := fun k y => y = itr f x k) (Q := fun y => y = itr f x N) (fun k y hk hI => ⟨f k y, hb k y hk, by
      have hI : y = itr f x k := hI
      subst hI
      rfl⟩) (fun y hI => ⟨y, he y, hI⟩) N 0 fu x (by omega) hfu rfl
  have e2 : o = itr f x N := e2
  subst e2
  exact e1
theorem itr_congr {α : Type} {f g : Nat → α → α} (x : α) : ∀ (N : Nat), (∀ k y, k < N → f k y = g k y) → itr f x N = itr g x N
  | 0, _ => rfl
  | N + 1, h => by
    show f N (itr f x N) = g N (itr g x N)
    rw [itr_congr x N (fun k y hk => h k y (by omega)), h N _ (by omega)]
def mnR (g : Nat → Nat) : Nat → Nat
  | 0 => FA
  | k + 1 => min (mnR g k) (g k)
theorem mnR_FA (g : Nat → Nat) : ∀ k, mnR g k ≤ FA
  | 0 => Nat.le_refl _
  | k + 1 => by
    have := mnR_FA g k
    show min (mnR g k) (g k) ≤ FA
    omega
def rg (n : Nat) (S : Nat → Nat → Nat) (beg en len : Nat → Nat) (v f t r s : Nat) : Nat := if beg r = f ∧ en s = t ∧ r ≠ v ∧ s ≠ v ∧ fw (scl 1 (wst v S)) n r s < FA then len r + fw (scl 1 (wst v S)) n r s else FA
def rG (n : Nat) (S : Nat → Nat → Nat) (beg en len : Nat → Nat) (v f t r : Nat) : Nat := mnR (rg n S beg en len v f t r) n
def RT (n : Nat) (S : Nat → Nat → Nat) (beg en len : Nat → Nat) (v f t : Nat) : Nat := mnR (rG n S beg en len v f t) n
section RTE
variable {n : Nat} {S : Nat → Nat → Nat} {beg en len : Nat → Nat}
theorem rg_FA {v f t r s : Nat} (hw : Stp1 n S) (hlo : LenOK n len) (hn : n ≤ 12) (hr : r < n) (hs : s < n) : rg n S beg en len v f t r s ≤ FA := by
  have hFA := FAe
  unfold rg
  split
  · rename_i h
    have := T_small (wst_1 (v := v) hw) hn r s hr hs h.2.2.2.2
    have := hlo r hr
    omega
  · exact Nat.le_refl _
theorem routeBy_s {fu v f t : Nat} {b e l tr : Nat → Int32} (hn : n ≤ 12) (hfu : n < fu) (hw : Stp1 n S) (hlo : LenOK n len) (hb : Rp1 n b beg) (he : Rp1 n e en) (hl : Rp1 n l len) (hb8 : ∀ r, r < n → beg r < 8 ∧ en r < 8) (htr : Rpb n tr (fw (scl 1 (wst v S)) n)) (hf : f < 8) (ht : t < 8) : f8_routeBy fu (nI n) b (nI f) e (nI t) (oI v) l tr = some (nI (RT n S beg en len v f t)) := by
  have hFA := FAe
  have hin : ∀ r x, r < n → x ≤ FA → lpG (fun z => f8_routeBy_b2 (nI n) (nI r) b (nI f) e (nI t) (oI v) l tr z.1 z.2) fu (nI x, (0 : Int32)) = some (nI (min x (rG n S beg en len v f t r))) := by
    intro r x hr hx
    obtain ⟨o, e1, e2⟩ := lp_e (em := fun i (x : Int32) => (x, nI i)) (b := fun z => f8_routeBy_b2 (nI n) (nI r) b (nI f) e (nI t) (oI v) l tr z.1 z.2) (N := n) (I := fun s y => y = nI (min x (mnR (rg n S beg en len v f t r) s))) (Q := fun y => y = nI (min x (mnR (rg n S beg en len v f t r) n))) (fun s y hs hI => by
        have hI : y = nI (min x (mnR (rg n S beg en len v f t r) s)) := hI
        subst hI
        have h1 := mnR_FA (rg n S beg en len v f t r) s
        have h2 := hb8 r hr
        have h3 := hb8 s hs
        have h4 := htr r s hr hs
        have h5 := hlo r hr
        refine ⟨nI (min x (mnR (rg n S beg en len v f t r) (s + 1))), ?_, rfl⟩
        show f8_routeBy_b2 (nI n) (nI r) b (nI f) e (nI t) (oI v) l tr (nI (min x (mnR (rg n S beg en len v f t r) s))) (nI s) = some (.inl (nI (min x (mnR (rg n S beg en len v f t r) (s + 1))), nI (s + 1)))
        unfold f8_routeBy_b2
        have hare : (if b (nI r).toNatClampNeg = nI f then (ckin (nI s) 12 (if (e (nI s).toNatClampNeg) = nI t then (if nI r = oI v then (some (0 : Int32)) else if nI s = oI v then (some 0) else some 1) else some 0)) else some 0) = some (if beg r = f ∧ en s = t ∧ r ≠ v ∧ s ≠ v then 1 else 0) := by
          rw [ckN (by omega), clN (by omega), clN (by omega), hb r hr, he s hs]
          by_cases d1 : beg r = f
          · rw [if_pos (by rw [d1])]
            by_cases d2 : en s = t
            · rw [if_pos (by rw [d2])]
              by_cases d3 : r = v
              · rw [if_pos ((oI_eq (by omega)).mpr d3), if_neg (fun q => q.2.2.1 d3)]
              · rw [if_neg (fun q => d3 ((oI_eq (by omega)).mp q))]
                by_cases d4 : s = v
                · rw [if_pos ((oI_eq (by omega)).mpr d4), if_neg (fun q => q.2.2.2 d4)]
                · rw [if_neg (fun q => d4 ((oI_eq (by omega)).mp q)), if_pos ⟨d1, d2, d3, d4⟩]
            · rw [if_neg (fun q => d2 ((nI_inj (by omega) (by omega)).mp q)), if_neg (fun q => d2 q.2.1)]
          · rw [if_neg (fun q => d1 ((nI_inj (by omega) (by omega)).mp q)), if_neg (fun q => d1 q.1)]
        rw [if_neg (nI_ge hs (by omega)), ckN (by omega), hare, bnd1_s]
        have hstep : min x (mnR (rg n S beg en len v f t r) (s + 1)) = min (min x (mnR (rg n S beg en len v f t r) s)) (rg n S beg en len v f t r s) := by
          show min x (min (mnR (rg n S beg en len v f t r) s) (rg n S beg en len v f t r s)) = _
          omega
        rw [hstep]
        by_cases hc : beg r = f ∧ en s = t ∧ r ≠ v ∧ s ≠ v
        · rw [if_pos hc, if_neg i10, ckN (by omega), nx_m, nI_add, ckN (by omega), clN (by omega), clN (by omega), hl r hr, h4.1, nI_add, bnd1_s]
          by_cases hT : fw (scl 1 (wst v S)) n r s < FA
          · have eg : rg n S beg en len v f t r s = len r + fw (scl 1 (wst v S)) n r s := by
              unfold rg
              rw [if_pos ⟨hc.1, hc.2.1, hc.2.2.1, hc.2.2.2, hT⟩]
            rw [eg]
            by_cases hle : min x (mnR (rg n S beg en len v f t r) s) ≤ len r + fw (scl 1 (wst v S)) n r s
            · rw [if_pos ((nI_leB (by omega) (by omega)).mpr hle), bnd1_s, bd_s, nI_1, Nat.min_eq_left hle]
            · rw [if_neg (fun q => hle ((nI_leB (by omega) (by omega)).mp q)), bnd1_s, bd_s, nI_1, Nat.min_eq_right (by omega)]
          · have eg : rg n S beg en len v f t r s = FA := by
              unfold rg
              rw [if_neg (fun q => hT q.2.2.2.2)]
            rw [eg, if_pos ((nI_leB (by omega) (by omega)).mpr (by omega)), bnd1_s, bd_s, nI_1, show min (min x (mnR (rg n S beg en len v f t r) s)) FA = min x (mnR (rg n S beg en len v f t r) s) by omega]
        · have eg : rg n S beg en len v f t r s = FA := by
            unfold rg
            rw [if_neg (fun q => hc ⟨q.1, q.2.1, q.2.2.1, q.2.2.2.1⟩)]
          rw [if_neg hc, if_pos rfl, bnd1_s, eg, if_pos (by rw [FA_nI, nI_leB (by omega) (by omega)]; omega), bnd1_s, bd_s, nI_1, show min (min x (mnR (rg n S beg en len v f t r) s)) FA = min x (mnR (rg n S beg en len v f t r) s) by omega]) (fun y hI => ⟨y, by
        show f8_routeBy_b2 (nI n) (nI r) b (nI f) e (nI t) (oI v) l tr y (nI n) = _
        unfold f8_routeBy_b2
        rw [if_pos (nI_le (Nat.le_refl n) (by omega))], hI⟩) n 0 fu (nI x) (by omega) hfu (by show nI x = nI (min x FA); rw [Nat.min_eq_left hx])
    have e2 : o = nI (min x (mnR (rg n S beg en len v f t r) n)) := e2
    subst e2
    exact e1
  obtain ⟨o, e1, e2⟩ := lp_e (em := fun i (x : Int32) => (x, nI i)) (b := fun z => f8_routeBy_b1 fu (nI n) b (nI f) e (nI t) (oI v) l tr z.1 z.2) (N := n) (I := fun r y => y = nI (mnR (rG n S beg en len v f t) r)) (Q := fun y => y = nI (mnR (rG n S beg en len v f t) n)) (fun r y hr hI => by
      have hI : y = nI (mnR (rG n S beg en len v f t) r) := hI
      subst hI
      refine ⟨nI (mnR (rG n S beg en len v f t) (r + 1)), ?_, rfl⟩
      show f8_routeBy_b1 fu (nI n) b (nI f) e (nI t) (oI v) l tr (nI (mnR (rG n S beg en len v f t) r)) (nI r) = _
      unfold f8_routeBy_b1
      rw [if_neg (nI_ge hr (by omega)), hin r _ hr (mnR_FA _ r), bnd1_s, bd_s, nI_1]
      rfl) (fun y hI => ⟨y, by
      show f8_routeBy_b1 fu (nI n) b (nI f) e (nI t) (oI v) l tr y (nI n) = _
      unfold f8_routeBy_b1
      rw [if_pos (nI_le (Nat.le_refl n) (by omega))], hI⟩) n 0 fu (268435456 : Int32) (by omega) hfu rfl
  have e2 : o = nI (RT n S beg en len v f t) := e2
  subst e2
  unfold f8_routeBy
  have e1 : lpG (fun z => f8_routeBy_b1 fu (nI n) b (nI f) e (nI t) (oI v) l tr z.1 z.2) fu ((268435456 : Int32), (0 : Int32)) = some (nI (RT n S beg en len v f t)) := e1
  rw [e1, bnd1_s]
def rOp (n : Nat) (S : Nat → Nat → Nat) (beg en len : Nat → Nat) (v f t : Nat) : Nat := if f = t then FA else RT n S beg en len v f t
theorem upd8 {a : Nat → Int32} {f t f' t' : Nat} {x : Int32} (ht : t < 8) (ht' : t' < 8) : upd a (8 * f + t) x (8 * f' + t') = if f' = f ∧ t' = t then x else a (8 * f' + t') := by
  unfold upd
  by_cases h : f' = f ∧ t' = t
  · rw [if_pos h, if_pos (by rw [h.1, h.2])]
  · rw [if_neg h, if_neg (fun e => h (by omega))]
theorem fillWith_s {fu v : Nat} {o k b e l : Nat → Int32} (hn : n ≤ 12) (hfu : 64 < fu) (hw : Stp1 n S) (hlo : LenOK n len) (hb : Rp1 n b beg) (he : Rp1 n e en) (hl : Rp1 n l len) (hb8 : ∀ r, r < n → beg r < 8 ∧ en r < 8) (hk : Rpb n k (fw (scl 64 (wst v S)) n)) : ∃ o', f5_fillWith fu o (nI n) k b e (oI v) l = some o' ∧ ∀ f t, f < 8 → t < 8 → o' (8 * f + t) = nI (rOp n S beg en len v f t) := by
  have hFA := FAe
  have hw1 : Stp1 n (wst v S) := wst_1 (v := v) hw
  obtain ⟨o', e1, e2⟩ := lp_d (bo := fun z => f5_fillWith_b1 fu (nI n) k b e (oI v) l z.1 z.2) (fun r => fun z => f5_fillWith_b2 (nI n) (nI r) k b e (oI v) l z.1 z.2) n fu (by omega) (I := fun r s a => ∀ f t, f < 8 → t < 8 → a (8 * f + t) = nI (if f = t then FA else min (mnR (rG n S beg en len v f t) r) (mnR (rg n S beg en len v f t r) s))) (fun r x hr => by
      show f5_fillWith_b1 fu (nI n) k b e (oI v) l (nI r) x = _
      unfold f5_fillWith_b1
      rw [if_neg (nI_ge hr (by omega)), nI_1]
      rfl) (fun x => by
      show f5_fillWith_b1 fu (nI n) k b e (oI v) l (nI n) x = _
      unfold f5_fillWith_b1
      rw [if_pos (nI_le (Nat.le_refl n) (by omega))]) (fun r s a hr hs hI => by
      have h2 := hb8 r hr
      have h3 := hb8 s hs
      have h4 := hk r s hr hs
      have h5 := hlo r hr
      have hlt := key_lt 64 (Or.inr rfl) hw1 hn r s hr hs
      have hsame : ¬ (r ≠ v ∧ s ≠ v ∧ fw (scl 1 (wst v S)) n r s < FA ∧ beg r ≠ en s) → ∀ f t, f < 8 → t < 8 → a (8 * f + t) = nI (if f = t then FA else min (mnR (rG n S beg en len v f t) r) (mnR (rg n S beg en len v f t r) (s + 1))) := fun hno f t hf ht => by
        rw [hI f t hf ht]
        by_cases q : f = t
        · rw [if_pos q, if_pos q]
        · rw [if_neg q, if_neg q]
          have eg : rg n S beg en len v f t r s = FA := by
            unfold rg
            rw [if_neg (fun z => hno ⟨z.2.2.1, z.2.2.2.1, z.2.2.2.2, fun y => q (by omega)⟩)]
          have := mnR_FA (rg n S beg en len v f t r) s
          show _ = nI (min _ (min (mnR (rg n S beg en len v f t r) s) (rg n S beg en len v f t r s)))
          rw [eg, Nat.min_eq_left this]
      have hgo : ∀ a', (bnd1 (if 268435456 ≤ k (12 * r + s) then (some a) else if nI r = oI v then (some a) else if nI s = oI v then (some a) else (if nI (beg r) = nI (en s) then (some a) else (ckin (nI (8 * beg r + en s)) 64 (bd (upd a (8 * beg r + en s) (if (nI (len r) + (k (12 * r + s) / 64)) < (a (8 * beg r + en s)) then (nI (len r) + (k (12 * r + s) / 64)) else (a (8 * beg r + en s)))) fun aOpen_29 => some aOpen_29)))) fun (aOpen_18 : (Nat → Int32)) => bd (nI s + 1) fun x5_30 => some (Sum.inl (β := Nat → Int32) (x5_30, aOpen_18))) = a' → f5_fillWith_b2 (nI n) (nI r) k b e (oI v) l (nI s) a = a' := fun a' ha => by
        unfold f5_fillWith_b2
        rw [if_neg (nI_ge hs (by omega)), get_s (by omega) (by omega), bnd1_s, ckN (by omega), ckN (by omega), clN (by omega), clN (by omega), hb r hr, he s hs, show nI (beg r) * 8 = nI (8 * beg r) from by rw [show (8 : Int32) = nI 8 from rfl, pk_mul, Nat.mul_comm], nI_add, bd_s, ckN (by omega), clN (by omega), hl r hr, ckN (show s < 12 by omega), ckN (show 8 * beg r + en s < 64 by omega), ckN (show r < 12 by omega)]
        exact ha
      by_cases hok : r ≠ v ∧ s ≠ v ∧ fw (scl 1 (wst v S)) n r s < FA ∧ beg r ≠ en s
      · obtain ⟨g1, g2, g3, g4⟩ := hok
        have hke := key_eq 64 (Or.inr rfl) hw1 hn r s hr hs g3
        have hkd : k (12 * r + s) / 64 = nI (fw (scl 1 (wst v S)) n r s) := by
          rw [h4.1, show (64 : Int32) = nI 64 from rfl, pk_div (by omega) (by decide) (by decide), show fw (scl 64 (wst v S)) n r s / 64 = fw (scl 1 (wst v S)) n r s by omega]
        have hcur := hI (beg r) (en s) h2.1 h3.2
        rw [if_neg g4] at hcur
        have h6 := mnR_FA (rG n S beg en len v (beg r) (en s)) r
        refine ⟨upd a (8 * beg r + en s) (nI (min (min (mnR (rG n S beg en len v (beg r) (en s)) r) (mnR (rg n S beg en len v (beg r) (en s) r) s)) (len r + fw (scl 1 (wst v S)) n r s))), hgo _ ?_, fun f t hf ht => ?_⟩
        · rw [if_neg (fun q => by rw [h4.1, FA_nI, nI_leB (by omega) (by omega)] at q; have := hlt.mpr g3; omega), if_neg (fun q => g1 ((oI_eq (by omega)).mp q)), if_neg (fun q => g2 ((oI_eq (by omega)).mp q)), if_neg (fun q => g4 ((nI_inj (by omega) (by omega)).mp q)), ckN (by omega), bd_s, bnd1_s, bd_s, nI_1, hkd, nI_add, hcur]
          by_cases hle : len r + fw (scl 1 (wst v S)) n r s < min (mnR (rG n S beg en len v (beg r) (en s)) r) (mnR (rg n S beg en len v (beg r) (en s) r) s)
          · rw [if_pos ((nI_ltB (by omega) (by omega)).mpr hle), Nat.min_eq_right (show len r + fw (scl 1 (wst v S)) n r s ≤ min (mnR (rG n S beg en len v (beg r) (en s)) r) (mnR (rg n S beg en len v (beg r) (en s) r) s) by omega)]
          · rw [if_neg (fun q => hle ((nI_ltB (by omega) (by omega)).mp q)), Nat.min_eq_left (show min (mnR (rG n S beg en len v (beg r) (en s)) r) (mnR (rg n S beg en len v (beg r) (en s) r) s) ≤ len r + fw (scl 1 (wst v S)) n r s by omega)]
        · rw [upd8 h3.2 ht]
          by_cases q : f = beg r ∧ t = en s
          · obtain ⟨rfl, rfl⟩ := q
            rw [if_pos ⟨rfl, rfl⟩, if_neg g4]
            have eg : rg n S beg en len v (beg r) (en s) r s = len r + fw (scl 1 (wst v S)) n r s := by
              unfold rg
              rw [if_pos ⟨rfl, rfl, g1, g2, g3⟩]
            show _ = nI (min _ (min (mnR (rg n S beg en len v (beg r) (en s) r) s) (rg n S beg en len v (beg r) (en s) r s)))
            rw [eg, Nat.min_assoc]
          · rw [if_neg q, hI f t hf ht]
            by_cases q2 : f = t
            · rw [if_pos q2, if_pos q2]
            · rw [if_neg q2, if_neg q2]
              have eg : rg n S beg en len v f t r s = FA := by
                unfold rg
                rw [if_neg (fun z => q ⟨z.1.symm, z.2.1.symm⟩)]
              have := mnR_FA (rg n S beg en len v f t r) s
              show _ = nI (min _ (min (mnR (rg n S beg en len v f t r) s) (rg n S beg en len v f t r s)))
              rw [eg, Nat.min_eq_left this]
      · refine ⟨a, hgo _ ?_, hsame hok⟩
        by_cases c1 : fw (scl 64 (wst v S)) n r s < FA
        · rw [if_neg (fun q => by rw [h4.1, FA_nI, nI_leB (by omega) (by omega)] at q; omega)]
          by_cases c2 : r = v
          · rw [if_pos ((oI_eq (by omega)).mpr c2), bnd1_s, bd_s, nI_1]
          · rw [if_neg (fun q => c2 ((oI_eq (by omega)).mp q))]
            by_cases c3 : s = v
            · rw [if_pos ((oI_eq (by omega)).mpr c3), bnd1_s, bd_s, nI_1]
            · rw [if_neg (fun q => c3 ((oI_eq (by omega)).mp q))]
              by_cases c4 : beg r = en s
              · rw [if_pos (by rw [c4]), bnd1_s, bd_s, nI_1]
              · exact absurd ⟨c2, c3, hlt.mp c1, c4⟩ hok
        · rw [if_pos (by rw [h4.1, FA_nI, nI_leB (by omega) (by omega)]; omega), bnd1_s, bd_s, nI_1]) (fun r x hr => by
      show f5_fillWith_b2 (nI n) (nI r) k b e (oI v) l (nI n) x = _
      unfold f5_fillWith_b2
      rw [if_pos (nI_le (Nat.le_refl n) (by omega))]) (fun r a hr hI f t hf ht => by
      rw [hI f t hf ht]
      by_cases q : f = t
      · rw [if_pos q, if_pos q]
      · rw [if_neg q, if_neg q]
        have := mnR_FA (rG n S beg en len v f t) (r + 1)
        show nI (mnR (rG n S beg en len v f t) (r + 1)) = nI (min (mnR (rG n S beg en len v f t) (r + 1)) FA)
        rw [Nat.min_eq_left this]) (fun j => if j < 64 then 268435456 else o j) (fun f t hf ht => by
      dsimp only
      rw [if_pos (show 8 * f + t < 64 by omega)]
      by_cases q : f = t
      · rw [if_pos q]; rfl
      · rw [if_neg q]; rfl)
  refine ⟨o', ?_, fun f t hf ht => ?_⟩
  · unfold f5_fillWith
    rw [fill64 _ _ fu hfu, bnd1_s, e1, bnd1_s]
  · rw [e2 f t hf ht]
    unfold rOp
    by_cases q : f = t
    · rw [if_pos q, if_pos q]
    · rw [if_neg q, if_neg q]
      have : RT n S beg en len v f t ≤ FA := mnR_FA (rG n S beg en len v f t) n
      show nI (min (RT n S beg en len v f t) FA) = nI (RT n S beg en len v f t)
      rw [Nat.min_eq_left this]
end RTE
