/-! pure rows: loops by invariants, indices, numbers -/
abbrev FA : Nat := 268435456
theorem FA_nI : (268435456 : Int32) = nI FA := rfl
/-- a loop by a counter, the state embedded by em -/
theorem lp_e {σ τ ρ : Type} (em : Nat → τ → σ) {b : σ → Option (σ ⊕ ρ)} (N : Nat) (I : Nat → τ → Prop) (Q : ρ → Prop) (hs : ∀ i x, i < N → I i x → ∃ y, b (em i x) = some (.inl (em (i + 1) y)) ∧ I (i + 1) y) (he : ∀ x, I N x → ∃ o, b (em N x) = some (.inr o) ∧ Q o) : ∀ (k i fu : Nat) (x : τ), i + k = N → k < fu → I i x → ∃ o, lpG b fu (em i x) = some o ∧ Q o
  | 0, i, 0, x, h1, h2, hi => by omega
  | 0, i, fu + 1, x, h1, h2, hi => by
    have e : i = N := by omega
    subst e
    obtain ⟨o, e1, e2⟩ := he x hi
    refine ⟨o, ?_, e2⟩
    unfold lpG
    rw [e1]
  | k + 1, i, 0, x, h1, h2, hi => by omega
  | k + 1, i, fu + 1, x, h1, h2, hi => by
    obtain ⟨y, e1, e2⟩ := hs i x (by omega) hi
    obtain ⟨o, f1, f2⟩ := lp_e em N I Q hs he k (i + 1) fu y (by omega) (by omega) e2
    refine ⟨o, ?_, f2⟩
    unfold lpG
    rw [e1]
    exact f1
/-- a loop by a measure, with exits anywhere -/
theorem lp_m {σ ρ : Type} {b : σ → Option (σ ⊕ ρ)} (I : Nat → σ → Prop) (Q : ρ → Prop) (hs : ∀ i x, I (i + 1) x → (∃ y, b x = some (.inl y) ∧ I i y) ∨ ∃ o, b x = some (.inr o) ∧ Q o) (h0 : ∀ x, I 0 x → ∃ o, b x = some (.inr o) ∧ Q o) : ∀ (k fu : Nat) (x : σ), k < fu → I k x → ∃ o, lpG b fu x = some o ∧ Q o
  | _, 0, x, h2, hi => by omega
  | 0, fu + 1, x, h2, hi => by
    obtain ⟨o, e1, e2⟩ := h0 x hi
    refine ⟨o, ?_, e2⟩
    unfold lpG
    rw [e1]
  | k + 1, fu + 1, x, h2, hi => by
    rcases hs k x hi with ⟨y, e1, e2⟩ | ⟨o, e1, e2⟩
    · obtain ⟨o, f1, f2⟩ := lp_m I Q hs h0 k fu y (by omega) e2
      refine ⟨o, ?_, f2⟩
      unfold lpG
      rw [e1]
      exact f1
    · refine ⟨o, ?_, e2⟩
      unfold lpG
      rw [e1]
/-- a double loop over r, s below n, the state behind the counter -/
theorem lp_d {τ : Type} {bo : Int32 × τ → Option ((Int32 × τ) ⊕ τ)} (bi : Nat → Int32 × τ → Option ((Int32 × τ) ⊕ τ)) (n fu : Nat) (hfu : n < fu) (I : Nat → Nat → τ → Prop)
    (ho : ∀ r x, r < n → bo (nI r, x) = bnd1 (lpG (bi r) fu ((0 : Int32), x)) fun y => some (.inl (nI (r + 1), y))) (hoe : ∀ x, bo (nI n, x) = some (.inr x))
    (hi : ∀ r s x, r < n → s < n → I r s x → ∃ y, bi r (nI s, x) = some (.inl (nI (s + 1), y)) ∧ I r (s + 1) y) (hie : ∀ r x, r < n → bi r (nI n, x) = some (.inr x)) (hc : ∀ r x, r < n → I r n x → I (r + 1) 0 x) (x : τ) (h0 : I 0 0 x) :
    ∃ y, lpG bo fu ((0 : Int32), x) = some y ∧ I n 0 y := by
  refine lp_e (em := fun i x => (nI i, x)) (N := n) (I := fun r x => I r 0 x) (Q := fun y => I n 0 y) (fun r x hr hx => ?_) (fun x hx => ⟨x, hoe x, hx⟩) n 0 fu x (by omega) hfu h0
  obtain ⟨y, e1, e2⟩ := lp_e (em := fun i x => (nI i, x)) (b := bi r) (N := n) (I := fun s x => I r s x) (Q := fun y => I (r + 1) 0 y) (fun s x hs hx => hi r s x hr hs hx) (fun x hx => ⟨x, hie r x hr, hc r x hr hx⟩) n 0 fu x (by omega) hfu hx
  refine ⟨y, ?_, e2⟩
  show bo (nI r, x) = _
  rw [ho r x hr]
  have e1 : lpG (bi r) fu ((0 : Int32), x) = some y := e1
  rw [e1]
  rfl
theorem nx_m (a : Nat) : (12 : Int32) * nI a = nI (12 * a) := pk_mul 12 a
theorem nx_m' (a : Nat) : nI a * (12 : Int32) = nI (12 * a) := by rw [show (12 : Int32) = nI 12 from rfl, pk_mul, Nat.mul_comm]
theorem ckN {α : Type} {k n : Nat} {K : Option α} (h : k < n) (hn : n < 2 ^ 31 := by decide) : ckin (nI k) n K = K := ckin_in (vp_in_nI h hn)
theorem ck0 {α : Type} {n : Nat} {K : Option α} (h : 0 < n) (hn : n < 2 ^ 31 := by decide) : ckin (0 : Int32) n K = K := ckN (k := 0) h hn
theorem ck1 {α : Type} {n : Nat} {K : Option α} (h : 1 < n) (hn : n < 2 ^ 31 := by decide) : ckin (1 : Int32) n K = K := ckN (k := 1) h hn
theorem clN {k : Nat} (h : k < 1000000) : (nI k).toNatClampNeg = k := nI_clamp (by omega)
theorem ckb0 {α : Type} {K : Option α} : ckb 0 K = K := if_pos (Or.inl rfl)
theorem ckb1 {α : Type} {K : Option α} : ckb 1 K = K := if_pos (Or.inr rfl)
theorem bnd1_s {α γ : Type} (a : α) (f : α → Option γ) : bnd1 (some a) f = f a := rfl
theorem bnd2_s {α β γ : Type} (a : α) (b : β) (f : α → β → Option γ) : bnd2 (some (a, b)) f = f a b := rfl
theorem bnd3_s {α β δ γ : Type} (a : α) (b : β) (d : δ) (f : α → β → δ → Option γ) : bnd3 (some (a, b, d)) f = f a b d := rfl
theorem bnd4_s {α β δ ε γ : Type} (a : α) (b : β) (d : δ) (e : ε) (f : α → β → δ → ε → Option γ) : bnd4 (some (a, b, d, e)) f = f a b d e := rfl
theorem bnd5_s {α β δ ε ζ γ : Type} (a : α) (b : β) (d : δ) (e : ε) (g : ζ) (f : α → β → δ → ε → ζ → Option γ) : bnd5 (some (a, b, d, e, g)) f = f a b d e g := rfl
theorem bnd6_s {α β δ ε ζ η γ : Type} (a : α) (b : β) (d : δ) (e : ε) (g : ζ) (i : η) (f : α → β → δ → ε → ζ → η → Option γ) : bnd6 (some (a, b, d, e, g, i)) f = f a b d e g i := rfl
theorem bnd7_s {α β δ ε ζ η θ γ : Type} (a : α) (b : β) (d : δ) (e : ε) (g : ζ) (i : η) (j : θ) (f : α → β → δ → ε → ζ → η → θ → Option γ) : bnd7 (some (a, b, d, e, g, i, j)) f = f a b d e g i j := rfl
theorem bnd8_s {α β δ ε ζ η θ ι γ : Type} (a : α) (b : β) (d : δ) (e : ε) (g : ζ) (i : η) (j : θ) (k : ι) (f : α → β → δ → ε → ζ → η → θ → ι → Option γ) : bnd8 (some (a, b, d, e, g, i, j, k)) f = f a b d e g i j k := rfl
theorem bd_s {α β : Type} (a : α) (f : α → β) : bd a f = f a := rfl
theorem updm {a : Nat → Int32} {r s r' s' : Nat} {x : Int32} (hs : s < 12) (hs' : s' < 12) : upd a (12 * r + s) x (12 * r' + s') = if r' = r ∧ s' = s then x else a (12 * r' + s') := by
  unfold upd
  by_cases h : r' = r ∧ s' = s
  · rw [if_pos h, if_pos (by rw [h.1, h.2])]
  · rw [if_neg h, if_neg (fun e => h (by omega))]
theorem upds {a : Nat → Int32} {k j : Nat} {x : Int32} : upd a k x j = if j = k then x else a j := rfl
theorem nI_inj {a b : Nat} (ha : a < 1000000) (hb : b < 1000000) : nI a = nI b ↔ a = b := nI_eq (by omega) (by omega)
theorem nI_leB {a b : Nat} (ha : a < 2000000000) (hb : b < 2000000000) : nI a ≤ nI b ↔ a ≤ b := nI_leI (by omega) (by omega)
theorem nI_ltB {a b : Nat} (ha : a < 2000000000) (hb : b < 2000000000) : nI a < nI b ↔ a < b := nI_ltI (by omega) (by omega)
theorem nI_ne_m1 {a : Nat} (ha : a < 2000000000) : ¬ nI a = -1 := by
  intro h
  have h1 := congrArg Int32.toInt h
  rw [nI_toInt (by omega)] at h1
  have h2 : (-1 : Int32).toInt = -1 := by decide
  omega
/-- a road's number, or none -/
def oI (v : Nat) : Int32 := if v < 12 then nI v else -1
theorem oI_lt {v : Nat} (h : v < 12) : oI v = nI v := if_pos h
theorem oI_eq {r v : Nat} (h : r < 12) : nI r = oI v ↔ r = v := by
  unfold oI
  by_cases hv : v < 12
  · rw [if_pos hv]; exact nI_inj (by omega) (by omega)
  · rw [if_neg hv]
    exact ⟨fun e => absurd e (nI_ne_m1 (by omega)), fun e => by omega⟩
theorem oI_none {v : Nat} (h : ¬ v < 12) : oI v = -1 := if_neg h
theorem oI_m1 (v : Nat) : oI v = -1 ↔ ¬ v < 12 := by
  unfold oI
  by_cases hv : v < 12
  · rw [if_pos hv]; exact ⟨fun e => absurd e (nI_ne_m1 (by omega)), fun e => absurd hv e⟩
  · rw [if_neg hv]; exact ⟨fun _ => hv, fun _ => rfl⟩
theorem nb1 : vp_nar .boolean 1 = 1 := by decide
theorem nb0 : vp_nar .boolean 0 = 0 := by decide
theorem i10 : ¬ (1 : Int32) = 0 := by decide
/-! a matrix in a row of ints -/
def Rep (n : Nat) (a : Nat → Int32) (D : Nat → Nat → Nat) : Prop := ∀ r s, r < n → s < n → a (12 * r + s) = nI (D r s)
def Rpb (n : Nat) (a : Nat → Int32) (D : Nat → Nat → Nat) : Prop := ∀ r s, r < n → s < n → a (12 * r + s) = nI (D r s) ∧ D r s ≤ FA
def fwS (k : Nat) (D : Nat → Nat → Nat) : Nat → Nat → Nat := fun r s => min (D r s) (D r k + D k s)
def fw (D : Nat → Nat → Nat) : Nat → Nat → Nat → Nat
  | 0 => D
  | k + 1 => fwS k (fw D k)
def rowU (k r : Nat) (E : Nat → Nat → Nat) : Nat → Nat → Nat := fun r' s => if r' = r then min (E r s) (E r k + E k s) else E r' s
theorem fwS_r (k r : Nat) (D : Nat → Nat → Nat) : fwS k D r k = D r k := by unfold fwS; omega
theorem fwS_k (k s : Nat) (D : Nat → Nat → Nat) : fwS k D k s = D k s := by unfold fwS; omega
theorem Rpb.congr {n : Nat} {a : Nat → Int32} {D E : Nat → Nat → Nat} (h : Rpb n a D) (e : ∀ r s, r < n → s < n → D r s = E r s) : Rpb n a E := fun r s hr hs => by rw [← e r s hr hs]; exact h r s hr hs
/-- the least sums, by a loop over middles and a loop over rows whose body does one row -/
theorem lp_fw {b1 : Int32 × (Nat → Int32) → Option ((Int32 × (Nat → Int32)) ⊕ (Nat → Int32))} (b2 : Nat → Int32 × (Nat → Int32) → Option ((Int32 × (Nat → Int32)) ⊕ (Nat → Int32))) (n fu : Nat) (hfu : n < fu)
    (h1 : ∀ k a, k < n → b1 (nI k, a) = bnd1 (lpG (b2 k) fu ((0 : Int32), a)) fun y => some (.inl (nI (k + 1), y))) (h1e : ∀ a, b1 (nI n, a) = some (.inr a))
    (h2 : ∀ k r a E, k < n → r < n → Rpb n a E → ∃ a', b2 k (nI r, a) = some (.inl (nI (r + 1), a')) ∧ Rpb n a' (rowU k r E)) (h2e : ∀ k a, k < n → b2 k (nI n, a) = some (.inr a)) (a : Nat → Int32) (E : Nat → Nat → Nat) (h0 : Rpb n a E) :
    ∃ a', lpG b1 fu ((0 : Int32), a) = some a' ∧ Rpb n a' (fw E n) := by
  refine lp_d b2 n fu hfu (I := fun k r a => Rpb n a (fun r' s => if r' < r then fwS k (fw E k) r' s else fw E k r' s)) h1 h1e (fun k r a hk hr hI => ?_) h2e (fun k a hk hI => ?_) a ?_ |>.imp fun a' h => ⟨h.1, ?_⟩
  · obtain ⟨a', e1, e2⟩ := h2 k r a _ hk hr hI
    refine ⟨a', e1, e2.congr (fun r' s hr' hs => ?_)⟩
    unfold rowU
    by_cases hrr : r' = r
    · subst hrr
      simp only [if_true, Nat.lt_irrefl, if_false, Nat.lt_succ_self]
      by_cases hkr : k < r'
      · simp only [hkr, if_true, fwS_k]; rfl
      · simp only [hkr, if_false]; rfl
    · rw [if_neg hrr]
      dsimp only
      by_cases hl : r' < r
      · rw [if_pos hl, if_pos (by omega)]
      · rw [if_neg hl, if_neg (by omega)]
  · refine hI.congr (fun r s hr hs => ?_)
    show (if r < n then fwS k (fw E k) r s else fw E k r s) = if r < 0 then _ else fw E (k + 1) r s
    rw [if_pos hr, if_neg (by omega)]
    rfl
  · refine h0.congr (fun r s hr hs => ?_)
    show E r s = if r < 0 then _ else fw E 0 r s
    rw [if_neg (by omega)]
    rfl
  · refine h.2.congr (fun r s hr hs => ?_)
    show (if r < 0 then _ else fw E n r s) = _
    rw [if_neg (by omega)]
/-- one row, by a loop whose body does one cell -/
theorem lp_row {b3 : Int32 × (Nat → Int32) → Option ((Int32 × (Nat → Int32)) ⊕ (Nat → Int32))} (n fu k r : Nat) (hn : n ≤ 12) (hfu : n < fu) (hk : k < n) (hr : r < n)
    (h3 : ∀ s a x y z, s < n → a (12 * r + k) = nI x → a (12 * k + s) = nI y → a (12 * r + s) = nI z → x ≤ FA → y ≤ FA → z ≤ FA → ∃ a', b3 (nI s, a) = some (.inl (nI (s + 1), a')) ∧ ∀ j, a' j = upd a (12 * r + s) (nI (min z (x + y))) j) (h3e : ∀ a, b3 (nI n, a) = some (.inr a)) (a : Nat → Int32) (E : Nat → Nat → Nat) (h0 : Rpb n a E) :
    ∃ a', lpG b3 fu ((0 : Int32), a) = some a' ∧ Rpb n a' (rowU k r E) := by
  refine lp_e (em := fun i x => (nI i, x)) (N := n) (I := fun s a => Rpb n a (fun r' s' => if r' = r ∧ s' < s then min (E r s') (E r k + E k s') else E r' s')) (Q := fun a' => Rpb n a' (rowU k r E)) (fun s a hs hI => ?_) (fun a hI => ⟨a, h3e a, hI.congr (fun r' s' hr' hs' => ?_)⟩) n 0 fu a (by omega) hfu (h0.congr (fun r' s' hr' hs' => by simp))
  · have c1 := hI r k hr hk
    have c2 := hI k s hk hs
    have c3 := hI r s hr hs
    have d1 : (if r = r ∧ k < s then min (E r k) (E r k + E k k) else E r k) = E r k := by split <;> omega
    have d2 : (if k = r ∧ s < s then min (E r s) (E r k + E k s) else E k s) = E k s := by rw [if_neg (by omega)]
    have d3 : (if r = r ∧ s < s then min (E r s) (E r k + E k s) else E r s) = E r s := by rw [if_neg (by omega)]
    dsimp only at c1 c2 c3
    rw [d1] at c1
    rw [d2] at c2
    rw [d3] at c3
    obtain ⟨a', e1, e2⟩ := h3 s a _ _ _ hs c1.1 c2.1 c3.1 c1.2 c2.2 c3.2
    refine ⟨a', e1, fun r' s' hr' hs' => ?_⟩
    rw [e2, updm (by omega) (by omega)]
    by_cases hc : r' = r ∧ s' = s
    · obtain ⟨rfl, rfl⟩ := hc
      have hif : (r' = r' ∧ s' < s' + 1) := ⟨rfl, Nat.lt_succ_self _⟩
      dsimp only
      rw [if_pos ⟨rfl, rfl⟩, if_pos hif]
      exact ⟨rfl, by omega⟩
    · rw [if_neg hc]
      have h := hI r' s' hr' hs'
      dsimp only at h ⊢
      have e : (if r' = r ∧ s' < s + 1 then min (E r s') (E r k + E k s') else E r' s') = if r' = r ∧ s' < s then min (E r s') (E r k + E k s') else E r' s' := by
        by_cases h1 : r' = r ∧ s' < s
        · rw [if_pos h1, if_pos ⟨h1.1, by omega⟩]
        · rw [if_neg h1, if_neg (fun h2 => h1 ⟨h2.1, by omega⟩)]
      rw [e]
      exact h
  · unfold rowU
    by_cases h1 : r' = r
    · rw [if_pos h1, if_pos ⟨h1, hs'⟩]
    · rw [if_neg h1, if_neg (fun h => h1 h.1)]
