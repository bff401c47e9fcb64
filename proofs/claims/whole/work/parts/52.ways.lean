/-! ways: the next road, who is busy -/
theorem wst99 {n : Nat} (hn : n ≤ 12) (c : Nat) (w : Nat → Nat → Nat) (r s : Nat) (hr : r < n) (hs : s < n) : fw (scl c (wst 99 w)) n r s = fw (scl c w) n r s := by
  refine fw_congr (fun r s hr hs => ?_) n (Nat.le_refl n) r s hr hs
  have e : wst 99 w r s = w r s := if_pos ⟨by omega, by omega⟩
  unfold scl
  rw [e]
section NX
variable {n : Nat} {w : Nat → Nat → Nat}
theorem key_eq (c : Nat) (hc : c = 16 ∨ c = 64) (hw : Stp1 n w) (hn : n ≤ 12) (r s : Nat) (hr : r < n) (hs : s < n) (hT : fw (scl 1 w) n r s < FA) : fw (scl c w) n r s = c * fw (scl 1 w) n r s + hops w n r s ∧ hops w n r s ≤ 11 ∧ fw (scl 1 w) n r s ≤ 1639 := by
  have h1 := K16 hw hn r s hr hs hT
  have h2 := K64 hw hn r s hr hs hT
  have h3 := T_small hw hn r s hr hs hT
  rcases hc with rfl | rfl
  · exact ⟨h1.1, h1.2, h3⟩
  · exact ⟨h2, h1.2, h3⟩
theorem key_lt (c : Nat) (hc : c = 16 ∨ c = 64) (hw : Stp1 n w) (hn : n ≤ 12) (r s : Nat) (hr : r < n) (hs : s < n) : fw (scl c w) n r s < FA ↔ fw (scl 1 w) n r s < FA := by
  have hFA := FAe
  by_cases hT : fw (scl 1 w) n r s < FA
  · have h := key_eq c hc hw hn r s hr hs hT
    refine ⟨fun _ => hT, fun _ => ?_⟩
    rcases hc with rfl | rfl <;> omega
  · have h := K_FA c hc hw hn r s hr hs hT
    exact ⟨fun q => by omega, fun q => absurd q hT⟩
theorem key_nxt (c : Nat) (hc : c = 16 ∨ c = 64) (hw : Stp1 n w) (hn : n ≤ 12) (r s q : Nat) (hr : r < n) (hs : s < n) (hq : q < n) (hT : fw (scl 1 w) n r s < FA) (h1 : w r q < FA) : c * w r q + 1 + fw (scl c w) n q s = fw (scl c w) n r s ↔ nxt w n r s q := by
  have hFA := FAe
  have a1 := key_eq c hc hw hn r s hr hs hT
  have a2 := fw_tri (scl 1 w) n q r s hq
  have a3 : fw (scl 1 w) n r q ≤ w r q := by
    have h5 := fw_le (scl 1 w) n r q
    have h6 : scl 1 w r q ≤ w r q := by
      unfold scl
      by_cases e : r = q
      · rw [if_pos e]; exact Nat.zero_le _
      · rw [if_neg e, if_pos h1, if_pos rfl]; omega
    omega
  by_cases h2 : fw (scl 1 w) n q s < FA
  · have b1 := key_eq c hc hw hn q s hq hs h2
    unfold nxt
    constructor
    · intro h
      refine ⟨h1, h2, ?_, ?_⟩ <;> rcases hc with rfl | rfl <;> omega
    · intro ⟨_, _, h3, h4⟩
      rw [b1.1, a1.1, ← h3, ← h4]
      rcases hc with rfl | rfl <;> omega
  · have b1 := K_FA c hc hw hn q s hq hs h2
    unfold nxt
    constructor
    · intro h; rcases hc with rfl | rfl <;> omega
    · intro h; exact absurd h.2.1 h2
/-- the least below k -/
def ffd (p : Nat → Bool) : Nat → Nat
  | 0 => 99
  | k + 1 => if ffd p k < 99 then ffd p k else if p k = true then k else 99
theorem ffd_ok (p : Nat → Bool) : ∀ (k : Nat), k ≤ 12 → (ffd p k < k ∧ p (ffd p k) = true ∧ ∀ i, i < ffd p k → ¬ p i = true) ∨ (ffd p k = 99 ∧ ∀ i, i < k → ¬ p i = true)
  | 0, _ => Or.inr ⟨rfl, fun i h => by omega⟩
  | k + 1, hk => by
    unfold ffd
    rcases ffd_ok p k (by omega) with h | h
    · rw [if_pos (by omega)]
      exact Or.inl ⟨by omega, h.2⟩
    · rw [if_neg (by omega)]
      by_cases hp : p k = true
      · rw [if_pos hp]
        exact Or.inl ⟨Nat.lt_succ_self k, hp, h.2⟩
      · rw [if_neg hp]
        refine Or.inr ⟨rfl, fun i hi => ?_⟩
        by_cases e : i = k
        · rw [e]; exact hp
        · exact h.2 i (by omega)
def nxb (w : Nat → Nat → Nat) (n r s q : Nat) : Bool := decide (w r q < FA ∧ fw (scl 1 w) n q s < FA ∧ w r q + fw (scl 1 w) n q s = fw (scl 1 w) n r s ∧ 1 + hops w n q s = hops w n r s)
theorem nxb_t (w : Nat → Nat → Nat) (n r s q : Nat) : nxb w n r s q = true ↔ nxt w n r s q := decide_eq_true_iff
def nx (w : Nat → Nat → Nat) (n r s : Nat) : Nat := if r ≠ s ∧ fw (scl 1 w) n r s < FA then ffd (nxb w n r s) n else 99
theorem nx_ok (hw : Stp1 n w) (hn : n ≤ 12) (r s : Nat) (hr : r < n) (hs : s < n) (hne : r ≠ s) (hT : fw (scl 1 w) n r s < FA) : nx w n r s < n ∧ nxt w n r s (nx w n r s) ∧ (∀ i, i < nx w n r s → ¬ nxt w n r s i) := by
  unfold nx
  rw [if_pos ⟨hne, hT⟩]
  rcases ffd_ok (nxb w n r s) n hn with h | h
  · exact ⟨h.1, (nxb_t ..).mp h.2.1, fun i hi q => h.2.2 i hi ((nxb_t ..).mpr q)⟩
  · obtain ⟨q, hq, _, h2⟩ := hops_first hw hn r s hr hs hne hT
    exact absurd ((nxb_t ..).mpr h2) (h.2 q hq)
theorem nx_none {r s : Nat} (h : ¬ (r ≠ s ∧ fw (scl 1 w) n r s < FA)) : nx w n r s = 99 := if_neg h
end NX
theorem lp_f1 {ρ : Type} {b : Int32 → Option (Int32 ⊕ ρ)} (q : Nat) (yes : ρ) (hy : b (nI q) = some (.inr yes)) (hno : ∀ i, i < q → b (nI i) = some (.inl (nI (i + 1)))) : ∀ (d i fu : Nat), i + d = q → d < fu → lpG b fu (nI i) = some yes
  | _, i, 0, h1, h2 => by omega
  | 0, i, fu + 1, h1, h2 => by
    have e : i = q := by omega
    subst e
    unfold lpG
    rw [hy]
  | d + 1, i, fu + 1, h1, h2 => by
    unfold lpG
    rw [hno i (by omega)]
    exact lp_f1 q yes hy hno d (i + 1) fu (by omega) (by omega)
theorem firstNext_s {n fu r s : Nat} {c l k : Nat → Int32} {tc : Nat → Nat → Nat} {len : Nat → Nat} (hn : n ≤ 12) (hfu : n < fu) (h : RpC n cB c tc) (hl : Rp1 n l len) (hlo : LenOK n len) (hk : Rpb n k (fw (scl 64 (stp len tc)) n)) (hr : r < n) (hs : s < n) (hne : r ≠ s) : f6_firstNext fu (nI r) (nI s) k (nI n) c l = some (oI (nx (stp len tc) n r s)) := by
  have hFA := FAe
  have hw : Stp1 n (stp len tc) := stp_1 hlo
  have hkk := hk r s hr hs
  unfold f6_firstNext
  rw [get_s (by omega) (by omega), bnd1_s, hkk.1]
  by_cases hT : fw (scl 1 (stp len tc)) n r s < FA
  · have hlt := (key_lt 64 (Or.inr rfl) hw hn r s hr hs).mpr hT
    obtain ⟨x1, x2, x3⟩ := nx_ok hw hn r s hr hs hne hT
    have hb : ∀ q, q < n → f6_firstNext_b1 (nI n) (nI r) c l (nI s) k (nI (fw (scl 64 (stp len tc)) n r s)) (nI q) = if nxb (stp len tc) n r s q = true then some (.inr (.inl (nI q))) else some (.inl (nI (q + 1))) := fun q hq => by
      have hkq := hk q s hq hs
      unfold f6_firstNext_b1 f6_firstNext_k1
      rw [if_neg (nI_ge hq (by omega)), hasStep_s hn h hr hq, bnd1_s]
      by_cases hc : tc r q ≤ 50
      · have h9 := hlo q hq
        have e1 : stp len tc r q = tc r q + len q := if_pos hc
        rw [if_pos hc, if_neg i10, stepKey_s hn h hl hr hq, bnd1_s, get_s (by omega) (by omega), bnd1_s, hkq.1, if_pos hc, nI_add, bd_s, nI_1]
        have hiff := key_nxt 64 (Or.inr rfl) hw hn r s q hr hs hq hT (by omega)
        rw [e1] at hiff
        by_cases hx : nxt (stp len tc) n r s q
        · rw [if_pos ((nxb_t ..).mpr hx), if_pos (by rw [hiff.mpr hx])]
        · rw [if_neg (fun q => hx ((nxb_t ..).mp q)), if_neg (fun q => hx (hiff.mp ((nI_eq (by omega) (by omega)).mp q)))]
      · have e1 : stp len tc r q = FA := if_neg hc
        rw [if_neg hc, if_pos rfl, bd_s, nI_1, if_neg (fun q => by have := ((nxb_t ..).mp q).1; omega)]
    have e := lp_f1 (b := fun z => f6_firstNext_b1 (nI n) (nI r) c l (nI s) k (nI (fw (scl 64 (stp len tc)) n r s)) z) (nx (stp len tc) n r s) (.inl (nI (nx (stp len tc) n r s))) (by
      show f6_firstNext_b1 (nI n) (nI r) c l (nI s) k (nI (fw (scl 64 (stp len tc)) n r s)) (nI (nx (stp len tc) n r s)) = _
      rw [hb _ x1, if_pos ((nxb_t ..).mpr x2)]) (fun i hi => by
      show f6_firstNext_b1 (nI n) (nI r) c l (nI s) k (nI (fw (scl 64 (stp len tc)) n r s)) (nI i) = _
      rw [hb _ (by omega), if_neg (fun q => x3 i hi ((nxb_t ..).mp q))]) (nx (stp len tc) n r s) 0 fu (by omega) (by omega)
    have e : lpG (fun z => f6_firstNext_b1 (nI n) (nI r) c l (nI s) k (nI (fw (scl 64 (stp len tc)) n r s)) z) fu (0 : Int32) = some (.inl (nI (nx (stp len tc) n r s))) := e
    rw [if_pos (by rw [FA_nI, nI_ltB (by omega) (by omega)]; exact hlt), e, bnd1_s, oI_lt (by omega)]
    rfl
  · have hge : ¬ fw (scl 64 (stp len tc)) n r s < FA := fun q => hT ((key_lt 64 (Or.inr rfl) hw hn r s hr hs).mp q)
    rw [if_neg (fun q => hge (by rw [FA_nI, nI_ltB (by omega) (by omega)] at q; exact q)), nx_none (fun q => hT q.2), oI_none (by decide)]
theorem nextOn_s {n fu r s : Nat} {c l k : Nat → Int32} {tc : Nat → Nat → Nat} {len : Nat → Nat} (hn : n ≤ 12) (hfu : n < fu) (h : RpC n cM c tc) (hl : Rp1 n l len) (hlo : LenOK n len) (hk : Rpb n k (fw (scl 16 (stp len tc)) n)) (hr : r < n) (hs : s < n) (hne : r ≠ s) (hT : fw (scl 1 (stp len tc)) n r s < FA) : f8_nextOn fu (nI r) c (nI s) l k = some (nI (nx (stp len tc) n r s)) := by
  have hFA := FAe
  have hw : Stp1 n (stp len tc) := stp_1 hlo
  have hkk := hk r s hr hs
  obtain ⟨x1, x2, x3⟩ := nx_ok hw hn r s hr hs hne hT
  have hb : ∀ q, q < n → f8_nextOn_b1 (nI r) c (nI s) l k (nI q) = if nxb (stp len tc) n r s q = true then some (.inr (nI q)) else some (.inl (nI (q + 1))) := fun q hq => by
    have hkq := hk q s hq hs
    unfold f8_nextOn_b1 f8_nextOn_k1
    by_cases hrq : q = r
    · rw [if_pos (by rw [hrq]), bd_s, nI_1, if_neg (fun z => by have := ((nxb_t ..).mp z).2.2.2; rw [hrq] at this; omega)]
    · rw [if_neg (fun z => hrq ((nI_inj (by omega) (by omega)).mp z)), isStep_s hn h hr hq, bnd1_s]
      by_cases hc : tc r q ≤ 50
      · have h9 := hlo q hq
        have e1 : stp len tc r q = tc r q + len q := if_pos hc
        rw [if_pos hc, if_neg i10, nx_m, nx_m, nI_add, nI_add, nI_add, ckN (by omega), ckN (by omega), ckN (by omega), ckN (by omega), clN (by omega), clN (by omega), clN (by omega), clN (by omega), h r q hr hq, cM_le hc, hl q hq, hkq.1, hkk.1, nI_add, show (16 : Int32) = nI 16 from rfl, pk_mul, nI_1, nI_add, bd_s, nI_1]
        have hiff := key_nxt 16 (Or.inl rfl) hw hn r s q hr hs hq hT (by omega)
        rw [e1] at hiff
        by_cases hx : nxt (stp len tc) n r s q
        · rw [if_pos ((nxb_t ..).mpr hx), if_pos (by rw [hiff.mpr hx])]
        · rw [if_neg (fun q => hx ((nxb_t ..).mp q)), if_neg (fun q => hx (hiff.mp ((nI_eq (by omega) (by omega)).mp q)))]
      · have e1 : stp len tc r q = FA := if_neg hc
        rw [if_neg hc, if_pos rfl, bd_s, nI_1, if_neg (fun q => by have := ((nxb_t ..).mp q).1; omega)]
  have e := lp_f1 (b := fun z => f8_nextOn_b1 (nI r) c (nI s) l k z) (nx (stp len tc) n r s) (nI (nx (stp len tc) n r s)) (by
    show f8_nextOn_b1 (nI r) c (nI s) l k (nI (nx (stp len tc) n r s)) = _
    rw [hb _ x1, if_pos ((nxb_t ..).mpr x2)]) (fun i hi => by
    show f8_nextOn_b1 (nI r) c (nI s) l k (nI i) = _
    rw [hb _ (by omega), if_neg (fun q => x3 i hi ((nxb_t ..).mp q))]) (nx (stp len tc) n r s) 0 fu (by omega) (by omega)
  have e : lpG (fun z => f8_nextOn_b1 (nI r) c (nI s) l k z) fu (0 : Int32) = some (nI (nx (stp len tc) n r s)) := e
  unfold f8_nextOn
  rw [e, bnd1_s]
/-! who is busy -/
def bw (w : Nat → Nat → Nat) (n s : Nat) : Nat → Nat → (Nat → Int32) → (Nat → Int32)
  | 0, _, a => a
  | k + 1, h, a => bw w n s k (nx w n h s) (upd a h (a h + 1))
def bb (w : Nat → Nat → Nat) (n r s : Nat) (a : Nat → Int32) : Nat → Int32 := if r ≠ s ∧ fw (scl 1 w) n r s < FA then bw w n s (hops w n r s - 1) (nx w n r s) a else a
def bzR (w : Nat → Nat → Nat) (n r : Nat) : Nat → (Nat → Int32) → (Nat → Int32)
  | 0, a => a
  | s + 1, a => bb w n r s (bzR w n r s a)
def bzA (w : Nat → Nat → Nat) (n : Nat) : Nat → (Nat → Int32) → (Nat → Int32)
  | 0, a => a
  | r + 1, a => bzR w n r n (bzA w n r a)
def Eqn (n : Nat) (a b : Nat → Int32) : Prop := ∀ j, j < n → a j = b j
theorem bw_congr {n m : Nat} (w : Nat → Nat → Nat) (s : Nat) : ∀ (k h : Nat) (a b : Nat → Int32), Eqn m a b → Eqn m (bw w n s k h a) (bw w n s k h b)
  | 0, _, a, b, h => h
  | k + 1, h, a, b, e => bw_congr w s k _ _ _ (fun j hj => by
    rw [upds, upds]
    by_cases q : j = h
    · rw [if_pos q, if_pos q, ← q, e j hj]
    · rw [if_neg q, if_neg q, e j hj])
theorem bb_congr {n m : Nat} (w : Nat → Nat → Nat) (r s : Nat) {a b : Nat → Int32} (e : Eqn m a b) : Eqn m (bb w n r s a) (bb w n r s b) := by
  unfold bb
  split
  · exact bw_congr w s _ _ _ _ e
  · exact e
section BW
variable {n : Nat} {tc : Nat → Nat → Nat} {len : Nat → Nat}
theorem bw_s {n : Nat} {w : Nat → Nat → Nat} (hw : Stp1 n w) (hn : n ≤ 12) {s h k : Nat} (hs : s < n) (hh : h < n) (hT : fw (scl 1 w) n h s < FA) (hk : hops w n h s = k + 1) : h ≠ s ∧ nx w n h s < n ∧ fw (scl 1 w) n (nx w n h s) s < FA ∧ hops w n (nx w n h s) s = k := by
  have hne : h ≠ s := fun q => by subst q; have := hops_0 hw hn h hs; omega
  obtain ⟨x1, x2, x3⟩ := nx_ok hw hn h s hh hs hne hT
  exact ⟨hne, x1, x2.2.1, by have := x2.2.2.2; omega⟩
theorem lay4_s {c l k : Nat → Int32} (hn : n ≤ 12) {fu : Nat} (hfu : n < fu) (h : RpC n cM c tc) (hl : Rp1 n l len) (hlo : LenOK n len) (hk : Rpb n k (fw (scl 16 (stp len tc)) n)) {s : Nat} (hs : s < n) : ∀ (m hr f : Nat) (a : Nat → Int32), hr < n → fw (scl 1 (stp len tc)) n hr s < FA → hops (stp len tc) n hr s = m → m < f → lpG (fun z => f8_layWays_b4 fu (nI s) c l k z.1 z.2) f (nI hr, a) = some (bw (stp len tc) n s m hr a)
  | m, hr, 0, a, _, _, _, h4 => by omega
  | 0, hr, f + 1, a, h1, h2, h3, h4 => by
    have hw : Stp1 n (stp len tc) := stp_1 hlo
    have e : hr = s := by
      by_cases q : hr = s
      · exact q
      · have := hops_pos hw hn hr s h1 hs q h2; omega
    unfold lpG
    have e2 : f8_layWays_b4 fu (nI s) c l k (nI hr) a = some (.inr a) := by
      unfold f8_layWays_b4
      rw [if_pos (by rw [e])]
    dsimp only
    rw [e2]
    rfl
  | m + 1, hr, f + 1, a, h1, h2, h3, h4 => by
    have hw : Stp1 n (stp len tc) := stp_1 hlo
    obtain ⟨q1, q2, q3, q4⟩ := bw_s hw hn hs h1 h2 h3
    unfold lpG
    have e2 : f8_layWays_b4 fu (nI s) c l k (nI hr) a = some (.inl (nI (nx (stp len tc) n hr s), upd a hr (a hr + 1))) := by
      unfold f8_layWays_b4
      rw [if_neg (fun q => q1 ((nI_inj (by omega) (by omega)).mp q)), ckN (by omega), ckN (by omega), clN (by omega), bd_s, nextOn_s hn hfu h hl hlo hk h1 hs q1 h2, bnd1_s]
    dsimp only
    rw [e2]
    exact lay4_s hn hfu h hl hlo hk hs m _ f _ q2 q3 q4 (by omega)
theorem cbb_s {nx' : Nat → Int32} (hn : n ≤ 12) (hlo : LenOK n len) (hx : RpO n nx' (nx (stp len tc) n)) {s : Nat} (hs : s < n) : ∀ (m hr i f : Nat) (a : Nat → Int32), hr < n → fw (scl 1 (stp len tc)) n hr s < FA → hops (stp len tc) n hr s = m → m < f → i + m < 12 → lpG (fun z => f6_countBusyBetween_b1 (nI s) nx' z.1 z.2.1 z.2.2) f (nI hr, nI i, a) = some (bw (stp len tc) n s m hr a)
  | m, hr, i, 0, a, _, _, _, h4, _ => by omega
  | 0, hr, i, f + 1, a, h1, h2, h3, h4, h5 => by
    have hw : Stp1 n (stp len tc) := stp_1 hlo
    have e : hr = s := by
      by_cases q : hr = s
      · exact q
      · have := hops_pos hw hn hr s h1 hs q h2; omega
    unfold lpG
    have e2 : f6_countBusyBetween_b1 (nI s) nx' (nI hr) (nI i) a = some (.inr a) := by
      unfold f6_countBusyBetween_b1
      rw [if_neg (show ¬ (12 : Int32) ≤ nI i from nI_ge (show i < 12 by omega) (by decide)), if_neg (nI_ne_m1 (by omega)), if_pos (by rw [e])]
    dsimp only
    rw [e2]
    rfl
  | m + 1, hr, i, f + 1, a, h1, h2, h3, h4, h5 => by
    have hw : Stp1 n (stp len tc) := stp_1 hlo
    obtain ⟨q1, q2, q3, q4⟩ := bw_s hw hn hs h1 h2 h3
    unfold lpG
    have e2 : f6_countBusyBetween_b1 (nI s) nx' (nI hr) (nI i) a = some (.inl (nI (nx (stp len tc) n hr s), nI (i + 1), upd a hr (a hr + 1))) := by
      unfold f6_countBusyBetween_b1
      rw [if_neg (show ¬ (12 : Int32) ≤ nI i from nI_ge (show i < 12 by omega) (by decide)), if_neg (nI_ne_m1 (by omega)), if_neg (fun q => q1 ((nI_inj (by omega) (by omega)).mp q)), ckN (by omega), ckN (by omega), clN (by omega), bd_s, get_s (by omega) (by omega), bnd1_s, hx hr s h1 hs, oI_lt (by omega), bd_s, nI_1]
    dsimp only
    rw [e2]
    exact cbb_s hn hlo hx hs m _ (i + 1) f _ q2 q3 q4 (by omega) (by omega)
theorem countBusyBetween_s {nx' a : Nat → Int32} {fu r s : Nat} (hn : n ≤ 12) (hfu : 12 < fu) (hlo : LenOK n len) (hx : RpO n nx' (nx (stp len tc) n)) (hr : r < n) (hs : s < n) : f6_countBusyBetween fu (nI r) (nI s) nx' a = some (bb (stp len tc) n r s a) := by
  have hw : Stp1 n (stp len tc) := stp_1 hlo
  unfold f6_countBusyBetween
  rw [get_s (by omega) (by omega), bnd1_s, hx r s hr hs]
  by_cases hc : r ≠ s ∧ fw (scl 1 (stp len tc)) n r s < FA
  · have h11 := (K16 hw hn r s hr hs hc.2).2
    have hp := hops_pos hw hn r s hr hs hc.1 hc.2
    obtain ⟨q1, q2, q3, q4⟩ := bw_s hw hn hs hr hc.2 (show hops (stp len tc) n r s = (hops (stp len tc) n r s - 1) + 1 by omega)
    have e := cbb_s hn hlo hx hs _ _ 0 fu a q2 q3 q4 (by omega) (by omega)
    have e : lpG (fun z => f6_countBusyBetween_b1 (nI s) nx' z.1 z.2.1 z.2.2) fu (nI (nx (stp len tc) n r s), (0 : Int32), a) = _ := e
    rw [oI_lt (by omega), e, bnd1_s]
    unfold bb
    rw [if_pos hc]
  · rw [nx_none hc, oI_none (by decide)]
    unfold bb
    rw [if_neg hc]
    have e : lpG (fun z => f6_countBusyBetween_b1 (nI s) nx' z.1 z.2.1 z.2.2) fu ((-1 : Int32), (0 : Int32), a) = some a := by
      obtain ⟨f, rfl⟩ : ∃ f, fu = f + 1 := ⟨fu - 1, by omega⟩
      unfold lpG
      have e2 : f6_countBusyBetween_b1 (nI s) nx' (-1) 0 a = some (.inr a) := by
        unfold f6_countBusyBetween_b1
        rw [if_neg (by decide), if_pos rfl]
      dsimp only
      rw [e2]
    rw [e, bnd1_s]
theorem fill12_s {fu : Nat} (hfu : 12 < fu) (v : Int32) (a : Nat → Int32) : ∃ a', fJ7_fill_12 fu v a = some a' ∧ ∀ j, j < 12 → a' j = v := by
  have key := lp_e (em := fun i (x : Nat → Int32) => (nI i, x)) (b := fun z => fJ7_fill_12_b1 v z.1 z.2) (N := 12) (I := fun i x => ∀ j, j < i → x j = v) (Q := fun x => ∀ j, j < 12 → x j = v) (fun i x hi hI => ⟨upd x i v, (by
      show fJ7_fill_12_b1 v (nI i) x = some (.inl (nI (i + 1), upd x i v))
      unfold fJ7_fill_12_b1
      rw [if_neg (show ¬ (12 : Int32) ≤ nI i from nI_ge hi (by decide)), ckN hi, clN (by omega), bd_s, bd_s, nI_1]), fun j hj => by
      rw [upds]
      by_cases e : j = i
      · rw [if_pos e]
      · rw [if_neg e]; exact hI j (by omega)⟩) (fun x hI => ⟨x, (by
      show fJ7_fill_12_b1 v (nI 12) x = _
      unfold fJ7_fill_12_b1
      rw [if_pos (show (12 : Int32) ≤ nI 12 from nI_le (Nat.le_refl 12) (by decide))]), hI⟩) 12 0 fu a (by omega) hfu (fun j hj => by omega)
  obtain ⟨a', e1, e2⟩ := key
  refine ⟨a', ?_, e2⟩
  unfold fJ7_fill_12
  have e1 : lpG (fun z => fJ7_fill_12_b1 v z.1 z.2) fu ((0 : Int32), a) = some a' := e1
  rw [e1, bnd1_s]
def BUSY (n : Nat) (w : Nat → Nat → Nat) : Nat → Int32 := bzA w n n (fun _ => 0)
theorem countBusy_s {nx' a : Nat → Int32} {fu : Nat} (hn : n ≤ 12) (hfu : 12 < fu) (hlo : LenOK n len) (hx : RpO n nx' (nx (stp len tc) n)) : ∃ a', f6_countBusy fu a (nI n) nx' = some a' ∧ Eqn n a' (BUSY n (stp len tc)) := by
  obtain ⟨a0, e1, e2⟩ := fill12_s hfu 0 a
  obtain ⟨a', e3, e4⟩ := lp_d (bo := fun z => f6_countBusy_b1 fu (nI n) nx' z.1 z.2) (fun r => fun z => f6_countBusy_b2 fu (nI n) (nI r) nx' z.1 z.2) n fu (by omega) (I := fun r s x => Eqn n x (bzR (stp len tc) n r s (bzA (stp len tc) n r (fun _ => 0)))) (fun r x hr => by
      show f6_countBusy_b1 fu (nI n) nx' (nI r) x = _
      unfold f6_countBusy_b1
      rw [if_neg (nI_ge hr (by omega)), nI_1]
      rfl) (fun x => by
      show f6_countBusy_b1 fu (nI n) nx' (nI n) x = _
      unfold f6_countBusy_b1
      rw [if_pos (nI_le (Nat.le_refl n) (by omega))]) (fun r s x hr hs hI => ⟨bb (stp len tc) n r s x, (by
      show f6_countBusy_b2 fu (nI n) (nI r) nx' (nI s) x = _
      unfold f6_countBusy_b2
      rw [if_neg (nI_ge hs (by omega)), countBusyBetween_s hn hfu hlo hx hr hs, bnd1_s, bd_s, nI_1]), bb_congr _ r s hI⟩) (fun r x hr => by
      show f6_countBusy_b2 fu (nI n) (nI r) nx' (nI n) x = _
      unfold f6_countBusy_b2
      rw [if_pos (nI_le (Nat.le_refl n) (by omega))]) (fun r x hr hI => hI) a0 (fun j hj => e2 j (by omega))
  refine ⟨a', ?_, e4⟩
  unfold f6_countBusy
  rw [e1, bnd1_s, e3, bnd1_s]
theorem measure6_s {c l k nx0 bu : Nat → Int32} {fu : Nat} (hn : n ≤ 12) (hfu : 12 < fu) (h : RpC n cB c tc) (hl : Rp1 n l len) (hlo : LenOK n len) : ∃ k' nx' bu', f6_measure fu (nI n) c l k nx0 bu = some (k', nx', bu') ∧ Rpb n k' (fw (scl 64 (stp len tc)) n) ∧ RpO n nx' (nx (stp len tc) n) ∧ Eqn n bu' (BUSY n (stp len tc)) := by
  obtain ⟨k', e1, e2⟩ := fillLeastKeys_s (v := 99) (a := k) hn (show n < fu by omega) h hl hlo
  rw [oI_none (by decide)] at e1
  have hk : Rpb n k' (fw (scl 64 (stp len tc)) n) := fun r s hr hs => by
    rw [← wst99 hn 64 _ r s hr hs]
    exact e2 r s hr hs
  obtain ⟨nx', e3, e4⟩ := lp_fill (bo := fun z => f6_measure_b1 fu (nI n) k' c l z.1 z.2) (fun r => fun z => f6_measure_b2 fu (nI n) (nI r) k' c l z.1 z.2) n fu hn (by omega) (fun r x hr => by
      show f6_measure_b1 fu (nI n) k' c l (nI r) x = _
      unfold f6_measure_b1
      rw [if_neg (nI_ge hr (by omega)), nI_1]
      rfl) (fun x => by
      show f6_measure_b1 fu (nI n) k' c l (nI n) x = _
      unfold f6_measure_b1
      rw [if_pos (nI_le (Nat.le_refl n) (by omega))]) (fun r s => oI (nx (stp len tc) n r s)) (fun r s a hr hs => by
      show f6_measure_b2 fu (nI n) (nI r) k' c l (nI s) a = _
      unfold f6_measure_b2
      rw [if_neg (nI_ge hs (by omega))]
      by_cases e : r = s
      · rw [if_pos (by rw [e]), bnd1_s, set_s (by omega) (by omega), bnd1_s, bd_s, nI_1, nx_none (fun q => q.1 e), oI_none (by decide)]
      · rw [if_neg (fun q => e ((nI_inj (by omega) (by omega)).mp q)), firstNext_s hn (by omega) h hl hlo hk hr hs e, bnd1_s, bnd1_s, set_s (by omega) (by omega), bnd1_s, bd_s, nI_1]) (fun r x hr => by
      show f6_measure_b2 fu (nI n) (nI r) k' c l (nI n) x = _
      unfold f6_measure_b2
      rw [if_pos (nI_le (Nat.le_refl n) (by omega))]) nx0
  obtain ⟨bu', e5, e6⟩ := countBusy_s (a := bu) hn hfu hlo (show RpO n nx' (nx (stp len tc) n) from e4)
  refine ⟨k', nx', bu', ?_, hk, e4, e6⟩
  unfold f6_measure
  rw [e1, bnd1_s, e3, bnd1_s, e5, bnd1_s]
theorem layWays_s {c l k bu : Nat → Int32} {fu : Nat} (hn : n ≤ 12) (hfu : 12 < fu) (h : RpC n cM c tc) (hl : Rp1 n l len) (hlo : LenOK n len) : ∃ k' bu', f8_layWays fu (nI n) c l k bu = some (k', bu') ∧ Rpb n k' (fw (scl 16 (stp len tc)) n) ∧ Eqn n bu' (BUSY n (stp len tc)) := by
  have hFA := FAe
  have hw : Stp1 n (stp len tc) := stp_1 hlo
  obtain ⟨k', e1, hk⟩ := layLeasts_s (a := k) hn (show n < fu by omega) h hl hlo
  obtain ⟨b0, e2, e3⟩ := lp_e (em := fun i (x : Nat → Int32) => (nI i, x)) (b := fun z => f8_layWays_b1 (nI n) z.1 z.2) (N := n) (I := fun i x => ∀ j, j < i → x j = 0) (Q := fun x => ∀ j, j < n → x j = 0) (fun i x hi hI => ⟨upd x i 0, (by
      show f8_layWays_b1 (nI n) (nI i) x = some (.inl (nI (i + 1), upd x i 0))
      unfold f8_layWays_b1
      rw [if_neg (nI_ge hi (by omega)), ckN (by omega), clN (by omega), bd_s, bd_s, nI_1]), fun j hj => by
      rw [upds]
      by_cases e : j = i
      · rw [if_pos e]
      · rw [if_neg e]; exact hI j (by omega)⟩) (fun x hI => ⟨x, (by
      show f8_layWays_b1 (nI n) (nI n) x = _
      unfold f8_layWays_b1
      rw [if_pos (nI_le (Nat.le_refl n) (by omega))]), hI⟩) n 0 fu bu (by omega) (by omega) (fun j hj => by omega)
  have e2 : lpG (fun z => f8_layWays_b1 (nI n) z.1 z.2) fu ((0 : Int32), bu) = some b0 := e2
  obtain ⟨bu', e4, e5⟩ := lp_d (bo := fun z => f8_layWays_b2 fu (nI n) k' c l z.1 z.2) (fun r => fun z => f8_layWays_b3 fu (nI n) (nI r) k' c l z.1 z.2) n fu (by omega) (I := fun r s x => Eqn n x (bzR (stp len tc) n r s (bzA (stp len tc) n r (fun _ => 0)))) (fun r x hr => by
      show f8_layWays_b2 fu (nI n) k' c l (nI r) x = _
      unfold f8_layWays_b2
      rw [if_neg (nI_ge hr (by omega)), nI_1]
      rfl) (fun x => by
      show f8_layWays_b2 fu (nI n) k' c l (nI n) x = _
      unfold f8_layWays_b2
      rw [if_pos (nI_le (Nat.le_refl n) (by omega))]) (fun r s x hr hs hI => ⟨bb (stp len tc) n r s x, (by
      show f8_layWays_b3 fu (nI n) (nI r) k' c l (nI s) x = _
      unfold f8_layWays_b3
      have hkk := hk r s hr hs
      rw [if_neg (nI_ge hs (by omega)), nx_m, nI_add, ckN (by omega), clN (by omega), hkk.1]
      by_cases hc : r ≠ s ∧ fw (scl 1 (stp len tc)) n r s < FA
      · have h11 := (K16 hw hn r s hr hs hc.2).2
        have hp := hops_pos hw hn r s hr hs hc.1 hc.2
        obtain ⟨q1, q2, q3, q4⟩ := bw_s hw hn hs hr hc.2 (show hops (stp len tc) n r s = (hops (stp len tc) n r s - 1) + 1 by omega)
        have hlt := (key_lt 16 (Or.inl rfl) hw hn r s hr hs).mpr hc.2
        rw [if_neg (fun q => hc.1 ((nI_inj (by omega) (by omega)).mp q)), if_pos (by rw [FA_nI, nI_ltB (by omega) (by omega)]; exact hlt), nextOn_s hn (by omega) h hl hlo hk hr hs hc.1 hc.2, bnd1_s, bnd1_s, lay4_s hn (by omega) h hl hlo hk hs _ _ fu x q2 q3 q4 (by omega), bnd1_s, bd_s, nI_1]
        unfold bb
        rw [if_pos hc]
      · have e0 : (if nI r = nI s then some (nI s) else if nI (fw (scl 16 (stp len tc)) n r s) < 268435456 then (bnd1 (f8_nextOn fu (nI r) c (nI s) l k') fun (r_26 : Int32) => some r_26) else some (nI s)) = some (nI s) := by
          by_cases e : r = s
          · rw [if_pos (by rw [e])]
          · rw [if_neg (fun q => e ((nI_inj (by omega) (by omega)).mp q)), if_neg (fun q => hc ⟨e, (key_lt 16 (Or.inl rfl) hw hn r s hr hs).mp (by rw [FA_nI, nI_ltB (by omega) (by omega)] at q; exact q)⟩)]
        have d0 : fw (scl 1 (stp len tc)) n s s < FA := by rw [fw_diag _ (fun s _ => scl_diag 1 s) s hs]; decide
        rw [e0, bnd1_s, lay4_s hn (by omega) h hl hlo hk hs 0 s fu x hs d0 (hops_0 hw hn s hs) (by omega), bnd1_s, bd_s, nI_1]
        unfold bb
        rw [if_neg hc]
        rfl), bb_congr _ r s hI⟩) (fun r x hr => by
      show f8_layWays_b3 fu (nI n) (nI r) k' c l (nI n) x = _
      unfold f8_layWays_b3
      rw [if_pos (nI_le (Nat.le_refl n) (by omega))]) (fun r x hr hI => hI) b0 (fun j hj => e3 j hj)
  refine ⟨k', bu', ?_, hk, e5⟩
  unfold f8_layWays
  rw [e1, bnd1_s, e2, bnd1_s, e4, bnd1_s]
end BW
