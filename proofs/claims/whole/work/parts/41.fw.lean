/-! least sums over middles: the greatest matrix below D with the triangle's inequality -/
theorem fw_le (D : Nat → Nat → Nat) : ∀ (k r s : Nat), fw D k r s ≤ D r s
  | 0, r, s => Nat.le_refl _
  | k + 1, r, s => by
    have h := fw_le D k r s
    show fwS k (fw D k) r s ≤ _
    unfold fwS
    omega
theorem fw_anti (D : Nat → Nat → Nat) (r s : Nat) : ∀ (n k : Nat), k ≤ n → fw D n r s ≤ fw D k r s
  | 0, k, h => by have : k = 0 := by omega
                  subst this; exact Nat.le_refl _
  | n + 1, k, h => by
    by_cases e : k = n + 1
    · subst e; exact Nat.le_refl _
    · have h1 := fw_anti D r s n k (by omega)
      have h2 : fw D (n + 1) r s ≤ fw D n r s := by show fwS n (fw D n) r s ≤ _; unfold fwS; omega
      omega
theorem fw_tri (D : Nat → Nat → Nat) : ∀ (k m r s : Nat), m < k → fw D k r s ≤ fw D k r m + fw D k m s
  | 0, m, r, s, h => by omega
  | k + 1, m, r, s, h => by
    show fwS k (fw D k) r s ≤ fwS k (fw D k) r m + fwS k (fw D k) m s
    by_cases e : m = k
    · subst e
      rw [fwS_r, fwS_k]
      unfold fwS
      omega
    · have a1 := fw_tri D k m r s (by omega)
      have a2 := fw_tri D k m k s (by omega)
      have a3 := fw_tri D k m r k (by omega)
      unfold fwS
      omega
theorem fw_max {n : Nat} (D E : Nat → Nat → Nat) (h : ∀ r s, r < n → s < n → E r s ≤ D r s) (ht : ∀ r s m, r < n → s < n → m < n → E r s ≤ E r m + E m s) : ∀ (k : Nat), k ≤ n → ∀ r s, r < n → s < n → E r s ≤ fw D k r s
  | 0, _, r, s, hr, hs => h r s hr hs
  | k + 1, hk, r, s, hr, hs => by
    have a1 := fw_max D E h ht k (by omega) r s hr hs
    have a2 := fw_max D E h ht k (by omega) r k hr (by omega)
    have a3 := fw_max D E h ht k (by omega) k s (by omega) hs
    have a4 := ht r s k hr hs (by omega)
    show E r s ≤ fwS k (fw D k) r s
    unfold fwS
    omega
theorem fw_congr {n : Nat} {D E : Nat → Nat → Nat} (h : ∀ r s, r < n → s < n → D r s = E r s) : ∀ (k : Nat), k ≤ n → ∀ r s, r < n → s < n → fw D k r s = fw E k r s
  | 0, _, r, s, hr, hs => h r s hr hs
  | k + 1, hk, r, s, hr, hs => by
    show fwS k (fw D k) r s = fwS k (fw E k) r s
    unfold fwS
    rw [fw_congr h k (by omega) r s hr hs, fw_congr h k (by omega) r k hr (by omega), fw_congr h k (by omega) k s (by omega) hs]
theorem fw_mono {n : Nat} {D E : Nat → Nat → Nat} (h : ∀ r s, r < n → s < n → D r s ≤ E r s) (r s : Nat) (hr : r < n) (hs : s < n) : fw D n r s ≤ fw E n r s :=
  fw_max E (fw D n) (fun r s hr hs => Nat.le_trans (fw_le D n r s) (h r s hr hs)) (fun r s m _ _ hm => fw_tri D n m r s hm) n (Nat.le_refl n) r s hr hs
/-- the first arc of a least row of arcs -/
theorem fw_first {n : Nat} (D : Nat → Nat → Nat) : ∀ (k : Nat), k ≤ n → ∀ r s, r < n → s < n → fw D k r s = D r s ∨ ∃ m, m < n ∧ D r m + fw D n m s ≤ fw D k r s
  | 0, _, r, s, hr, hs => Or.inl rfl
  | k + 1, hk, r, s, hr, hs => by
    have e : fw D (k + 1) r s = fwS k (fw D k) r s := rfl
    rw [e]
    by_cases hlt : fw D k r s ≤ fw D k r k + fw D k k s
    · have e2 : fwS k (fw D k) r s = fw D k r s := by unfold fwS; omega
      rw [e2]
      exact fw_first D k (by omega) r s hr hs
    · have e2 : fwS k (fw D k) r s = fw D k r k + fw D k k s := by unfold fwS; omega
      rw [e2]
      right
      have a1 := fw_anti D k s n k (by omega)
      rcases fw_first D k (by omega) r k hr (by omega) with h | ⟨m, hm, h⟩
      · exact ⟨k, by omega, by omega⟩
      · have a2 := fw_tri D n k m s (by omega)
        exact ⟨m, hm, by omega⟩
theorem fw_first' {n : Nat} (D : Nat → Nat → Nat) (r s : Nat) (hr : r < n) (hs : s < n) : fw D n r s = D r s ∨ ∃ m, m < n ∧ D r m + fw D n m s = fw D n r s := by
  rcases fw_first D n (Nat.le_refl n) r s hr hs with h | ⟨m, hm, h⟩
  · exact Or.inl h
  · right
    have a1 := fw_tri D n m r s hm
    have a2 := fw_le D n r m
    exact ⟨m, hm, by omega⟩
/-- .. and where a place is 0 from itself -/
theorem fw_diag {n : Nat} (D : Nat → Nat → Nat) (h0 : ∀ s, s < n → D s s = 0) (s : Nat) (hs : s < n) : fw D n s s = 0 := by
  have a1 := fw_le D n s s
  rw [h0 s hs] at a1
  omega
theorem fw_first0 {n : Nat} (D : Nat → Nat → Nat) (h0 : ∀ s, s < n → D s s = 0) : ∀ (k : Nat), k ≤ n → ∀ r s, r < n → s < n → r ≠ s → ∃ m, m < n ∧ m ≠ r ∧ D r m + fw D n m s ≤ fw D k r s
  | 0, _, r, s, hr, hs, hne => ⟨s, hs, Ne.symm hne, by rw [fw_diag D h0 s hs]; show D r s + 0 ≤ D r s; omega⟩
  | k + 1, hk, r, s, hr, hs, hne => by
    have e : fw D (k + 1) r s = fwS k (fw D k) r s := rfl
    rw [e]
    by_cases hlt : fw D k r s ≤ fw D k r k + fw D k k s
    · have e2 : fwS k (fw D k) r s = fw D k r s := by unfold fwS; omega
      rw [e2]
      exact fw_first0 D h0 k (by omega) r s hr hs hne
    · have e2 : fwS k (fw D k) r s = fw D k r k + fw D k k s := by unfold fwS; omega
      rw [e2]
      have a1 := fw_anti D k s n k (by omega)
      by_cases hrk : r = k
      · subst hrk; omega
      · obtain ⟨m, hm, hmr, h⟩ := fw_first0 D h0 k (by omega) r k hr (by omega) hrk
        have a2 := fw_tri D n k m s (by omega)
        exact ⟨m, hm, hmr, by omega⟩
theorem fw_first0' {n : Nat} (D : Nat → Nat → Nat) (h0 : ∀ s, s < n → D s s = 0) (r s : Nat) (hr : r < n) (hs : s < n) (hne : r ≠ s) : ∃ m, m < n ∧ m ≠ r ∧ D r m + fw D n m s = fw D n r s := by
  obtain ⟨m, hm, hmr, h⟩ := fw_first0 D h0 n (Nat.le_refl n) r s hr hs hne
  have a1 := fw_tri D n m r s hm
  have a2 := fw_le D n r m
  exact ⟨m, hm, hmr, by omega⟩
/-! counting -/
def sumN (f : Nat → Nat) : Nat → Nat
  | 0 => 0
  | n + 1 => sumN f n + f n
theorem sumN_le {f g : Nat → Nat} : ∀ (n : Nat), (∀ i, i < n → f i ≤ g i) → sumN f n ≤ sumN g n
  | 0, _ => Nat.le_refl _
  | n + 1, h => by
    have a := sumN_le n (fun i hi => h i (by omega))
    have b := h n (by omega)
    show sumN f n + f n ≤ sumN g n + g n
    omega
theorem sumN_lt {f g : Nat → Nat} : ∀ (n : Nat), (∀ i, i < n → f i ≤ g i) → (∃ i, i < n ∧ f i < g i) → sumN f n < sumN g n
  | 0, _, h => by obtain ⟨i, hi, _⟩ := h; omega
  | n + 1, h, hx => by
    have b := h n (by omega)
    show sumN f n + f n < sumN g n + g n
    obtain ⟨i, hi, hlt⟩ := hx
    by_cases e : i = n
    · subst e
      have a := sumN_le i (fun j hj => h j (by omega))
      omega
    · have a := sumN_lt n (fun j hj => h j (by omega)) ⟨i, by omega, hlt⟩
      omega
theorem sumN_congr {f g : Nat → Nat} : ∀ (n : Nat), (∀ i, i < n → f i = g i) → sumN f n = sumN g n
  | 0, _ => rfl
  | n + 1, h => by
    show sumN f n + f n = sumN g n + g n
    rw [sumN_congr n (fun i hi => h i (by omega)), h n (by omega)]
theorem sumN_const (c : Nat) : ∀ (n : Nat), sumN (fun _ => c) n = c * n
  | 0 => by simp [sumN]
  | n + 1 => by
    show sumN (fun _ => c) n + c = _
    rw [sumN_const c n, Nat.mul_succ]
theorem sumN_bound {f : Nat → Nat} {c : Nat} (n : Nat) (h : ∀ i, i < n → f i ≤ c) : sumN f n ≤ c * n := by
  have a := sumN_le (g := fun _ => c) n h
  rw [sumN_const] at a
  exact a
theorem sumN_pos {f : Nat → Nat} : ∀ (n : Nat), 0 < sumN f n → ∃ i, i < n ∧ 0 < f i
  | 0, h => by simp [sumN] at h
  | n + 1, h => by
    by_cases e : 0 < f n
    · exact ⟨n, by omega, e⟩
    · obtain ⟨i, hi, h2⟩ := sumN_pos (f := f) n (by have h3 : 0 < sumN f n + f n := h; omega)
      exact ⟨i, by omega, h2⟩
theorem sumN_zero {f : Nat → Nat} : ∀ (n : Nat), sumN f n = 0 → ∀ i, i < n → f i = 0
  | 0, _, i, hi => by omega
  | n + 1, h, i, hi => by
    have h3 : sumN f n + f n = 0 := h
    by_cases e : i = n
    · subst e; omega
    · exact sumN_zero n (by omega) i (by omega)
theorem FAe : FA = 268435456 := rfl
/-! ways over steps of at most 149: worths, and worths with steps counted -/
section WAYS
variable {n : Nat} {w : Nat → Nat → Nat}
/-- steps: between 1 and 149, or none -/
def Stp1 (n : Nat) (w : Nat → Nat → Nat) : Prop := ∀ r s, r < n → s < n → (1 ≤ w r s ∧ w r s ≤ 149) ∨ w r s = FA
def scl (c : Nat) (w : Nat → Nat → Nat) : Nat → Nat → Nat := fun r s => if r = s then 0 else if w r s < FA then c * w r s + (if c = 1 then 0 else 1) else FA
def cnt (T : Nat → Nat → Nat) (n r s : Nat) : Nat := sumN (fun x => if T x s < T r s then 1 else 0) n
theorem cnt_le (T : Nat → Nat → Nat) (r s : Nat) (hr : r < n) : cnt T n r s + 1 ≤ n := by
  have a := sumN_lt (f := fun x => if T x s < T r s then 1 else 0) (g := fun _ => 1) n (fun i _ => by split <;> omega) ⟨r, hr, by simp⟩
  rw [sumN_const] at a
  unfold cnt
  omega
theorem cnt_lt (T : Nat → Nat → Nat) (r s m : Nat) (hm : m < n) (h : T m s < T r s) : cnt T n m s < cnt T n r s := by
  refine sumN_lt n (fun i _ => ?_) ⟨m, hm, ?_⟩
  · by_cases h1 : T i s < T m s
    · rw [if_pos h1, if_pos (by omega)]; exact Nat.le_refl _
    · rw [if_neg h1]; exact Nat.zero_le _
  · rw [if_neg (by omega), if_pos h]
    omega
theorem scl_diag (c : Nat) (s : Nat) : scl c w s s = 0 := by simp [scl]
theorem T_first (hw : Stp1 n w) (r s : Nat) (hr : r < n) (hs : s < n) (hne : r ≠ s) (hT : fw (scl 1 w) n r s < FA) : ∃ m, m < n ∧ m ≠ r ∧ w r m < FA ∧ w r m + fw (scl 1 w) n m s = fw (scl 1 w) n r s ∧ fw (scl 1 w) n m s < fw (scl 1 w) n r s := by
  have hFA := FAe
  obtain ⟨m, hm, hmr, h⟩ := fw_first0' (scl 1 w) (fun s _ => scl_diag 1 s) r s hr hs hne
  have e : scl 1 w r m = if w r m < FA then w r m else FA := by
    unfold scl
    rw [if_neg (Ne.symm hmr)]
    by_cases h1 : w r m < FA
    · rw [if_pos h1, if_pos h1, if_pos rfl]; omega
    · rw [if_neg h1, if_neg h1]
  rw [e] at h
  by_cases h1 : w r m < FA
  · rw [if_pos h1] at h
    rcases hw r m hr hm with h2 | h2
    · exact ⟨m, hm, hmr, h1, h, by omega⟩
    · omega
  · rw [if_neg h1] at h; omega
theorem T_bound (hw : Stp1 n w) (s : Nat) (hs : s < n) : ∀ (k r : Nat), r < n → cnt (fw (scl 1 w) n) n r s ≤ k → fw (scl 1 w) n r s < FA → fw (scl 1 w) n r s ≤ 149 * cnt (fw (scl 1 w) n) n r s
  | 0, r, hr, hk, hT => by
    have hFA := FAe
    by_cases hne : r = s
    · subst hne; rw [fw_diag _ (fun s _ => scl_diag 1 s) r hr]; omega
    · obtain ⟨m, hm, hmr, h1, h2, h3⟩ := T_first hw r s hr hs hne hT
      have := cnt_lt (fw (scl 1 w) n) r s m hm h3
      omega
  | k + 1, r, hr, hk, hT => by
    have hFA := FAe
    by_cases hne : r = s
    · subst hne; rw [fw_diag _ (fun s _ => scl_diag 1 s) r hr]; omega
    · obtain ⟨m, hm, hmr, h1, h2, h3⟩ := T_first hw r s hr hs hne hT
      have h4 := cnt_lt (fw (scl 1 w) n) r s m hm h3
      have h5 := T_bound hw s hs k m hm (by omega) (by omega)
      rcases hw r m hr hm with h6 | h6
      · omega
      · omega
theorem T_small (hw : Stp1 n w) (hn : n ≤ 12) (r s : Nat) (hr : r < n) (hs : s < n) (hT : fw (scl 1 w) n r s < FA) : fw (scl 1 w) n r s ≤ 1639 := by
  have hFA := FAe
  have h1 := T_bound hw s hs _ r hr (Nat.le_refl _) hT
  have h2 := cnt_le (fw (scl 1 w) n) r s hr
  omega
/-- keys: worth times c, and steps -/
theorem K_lo (c : Nat) (hc : c = 16 ∨ c = 64) (hw : Stp1 n w) (hn : n ≤ 12) (r s : Nat) (hr : r < n) (hs : s < n) : (fw (scl 1 w) n r s < FA → c * fw (scl 1 w) n r s ≤ fw (scl c w) n r s) ∧ (¬ fw (scl 1 w) n r s < FA → FA ≤ fw (scl c w) n r s) := by
  have hFA := FAe
  have key := fw_max (n := n) (scl c w) (fun r s => if fw (scl 1 w) n r s < FA then c * fw (scl 1 w) n r s else FA) (fun r s hr hs => ?_) (fun r s m hr hs hm => ?_) n (Nat.le_refl n) r s hr hs
  · constructor
    · intro h; rw [if_pos h] at key; exact key
    · intro h; rw [if_neg h] at key; exact key
  · have h1 := fw_le (scl 1 w) n r s
    by_cases hrs : r = s
    · subst hrs
      rw [fw_diag _ (fun s _ => scl_diag 1 s) r hr, scl_diag, if_pos (by decide)]
      omega
    · have e1 : scl 1 w r s = if w r s < FA then w r s else FA := by
        unfold scl
        rw [if_neg hrs]
        by_cases h1 : w r s < FA
        · rw [if_pos h1, if_pos h1, if_pos rfl]; omega
        · rw [if_neg h1, if_neg h1]
      have e2 : scl c w r s = if w r s < FA then c * w r s + 1 else FA := by
        unfold scl
        rw [if_neg hrs, if_neg (show ¬ c = 1 by omega)]
      rw [e1] at h1
      rw [e2]
      by_cases h2 : w r s < FA
      · rw [if_pos h2] at h1
        rw [if_pos h2, if_pos (by omega)]
        rcases hc with rfl | rfl <;> omega
      · rw [if_neg h2]
        by_cases h3 : fw (scl 1 w) n r s < FA
        · rw [if_pos h3]
          have := T_small hw hn r s hr hs h3
          rcases hc with rfl | rfl <;> omega
        · rw [if_neg h3]; exact Nat.le_refl _
  · have h1 := fw_tri (scl 1 w) n m r s hm
    by_cases a : fw (scl 1 w) n r m < FA
    · by_cases b : fw (scl 1 w) n m s < FA
      · have := T_small hw hn r m hr hm a
        have := T_small hw hn m s hm hs b
        rw [if_pos a, if_pos b, if_pos (by omega)]
        rcases hc with rfl | rfl <;> omega
      · rw [if_neg b]
        by_cases d : fw (scl 1 w) n r s < FA
        · have := T_small hw hn r s hr hs d
          rw [if_pos d]
          rcases hc with rfl | rfl <;> omega
        · rw [if_neg d]; omega
    · rw [if_neg a]
      by_cases d : fw (scl 1 w) n r s < FA
      · have := T_small hw hn r s hr hs d
        rw [if_pos d]
        rcases hc with rfl | rfl <;> omega
      · rw [if_neg d]; omega
theorem K_hi (c : Nat) (hc : c = 16 ∨ c = 64) (hw : Stp1 n w) (hn : n ≤ 12) (s : Nat) (hs : s < n) : ∀ (k r : Nat), r < n → cnt (fw (scl 1 w) n) n r s ≤ k → fw (scl 1 w) n r s < FA → fw (scl c w) n r s ≤ c * fw (scl 1 w) n r s + cnt (fw (scl 1 w) n) n r s := by
  have hFA := FAe
  intro k
  induction k with
  | zero =>
    intro r hr hk hT
    by_cases hne : r = s
    · subst hne; rw [fw_diag _ (fun s _ => scl_diag c s) r hr]; omega
    · obtain ⟨m, hm, hmr, h1, h2, h3⟩ := T_first hw r s hr hs hne hT
      have := cnt_lt (fw (scl 1 w) n) r s m hm h3
      omega
  | succ k ih =>
    intro r hr hk hT
    by_cases hne : r = s
    · subst hne; rw [fw_diag _ (fun s _ => scl_diag c s) r hr]; omega
    · obtain ⟨m, hm, hmr, h1, h2, h3⟩ := T_first hw r s hr hs hne hT
      have h4 := cnt_lt (fw (scl 1 w) n) r s m hm h3
      have h5 := ih m hm (by omega) (by omega)
      have h6 := fw_tri (scl c w) n m r s hm
      have h7 := fw_le (scl c w) n r m
      have e2 : scl c w r m = c * w r m + 1 := by
        unfold scl
        rw [if_neg (Ne.symm hmr), if_pos h1, if_neg (show ¬ c = 1 by omega)]
      rw [e2] at h7
      rcases hc with rfl | rfl <;> omega
/-- the number of steps of a least way of fewest steps -/
def hops (w : Nat → Nat → Nat) (n r s : Nat) : Nat := fw (scl 16 w) n r s - 16 * fw (scl 1 w) n r s
theorem K16 (hw : Stp1 n w) (hn : n ≤ 12) (r s : Nat) (hr : r < n) (hs : s < n) (hT : fw (scl 1 w) n r s < FA) : fw (scl 16 w) n r s = 16 * fw (scl 1 w) n r s + hops w n r s ∧ hops w n r s ≤ 11 := by
  have hFA := FAe
  have h1 := (K_lo 16 (Or.inl rfl) hw hn r s hr hs).1 hT
  have h2 := K_hi 16 (Or.inl rfl) hw hn s hs _ r hr (Nat.le_refl _) hT
  have h3 := cnt_le (fw (scl 1 w) n) r s hr
  unfold hops
  omega
theorem K64 (hw : Stp1 n w) (hn : n ≤ 12) (r s : Nat) (hr : r < n) (hs : s < n) (hT : fw (scl 1 w) n r s < FA) : fw (scl 64 w) n r s = 64 * fw (scl 1 w) n r s + hops w n r s := by
  have hFA := FAe
  have l1 := (K_lo 64 (Or.inr rfl) hw hn r s hr hs).1 hT
  have l2 := K_hi 64 (Or.inr rfl) hw hn s hs _ r hr (Nat.le_refl _) hT
  have l3 := cnt_le (fw (scl 1 w) n) r s hr
  have l4 := K16 hw hn r s hr hs hT
  have hT1 := T_small hw hn r s hr hs hT
  have up := fw_max (n := n) (scl 64 w) (fun r s => if fw (scl 1 w) n r s < FA then 64 * fw (scl 1 w) n r s + hops w n r s else FA) (fun r s hr hs => ?_) (fun r s m hr hs hm => ?_) n (Nat.le_refl n) r s hr hs
  · rw [if_pos hT] at up
    have dn := fw_max (n := n) (scl 16 w) (fun r s => if fw (scl 1 w) n r s < FA then 16 * fw (scl 1 w) n r s + (fw (scl 64 w) n r s - 64 * fw (scl 1 w) n r s) else FA) (fun r s hr hs => ?_) (fun r s m hr hs hm => ?_) n (Nat.le_refl n) r s hr hs
    · rw [if_pos hT] at dn
      omega
    · have h1 := fw_le (scl 1 w) n r s
      have h1b := fw_le (scl 64 w) n r s
      by_cases hrs : r = s
      · subst hrs
        rw [fw_diag _ (fun s _ => scl_diag 1 s) r hr, scl_diag, if_pos (by decide), fw_diag _ (fun s _ => scl_diag 64 s) r hr]
        omega
      · have e1 : scl 1 w r s = if w r s < FA then w r s else FA := by
          unfold scl
          rw [if_neg hrs]
          by_cases h1 : w r s < FA
          · rw [if_pos h1, if_pos h1, if_pos rfl]; omega
          · rw [if_neg h1, if_neg h1]
        have e2 : scl 16 w r s = if w r s < FA then 16 * w r s + 1 else FA := by
          unfold scl
          rw [if_neg hrs]; rfl
        have e3 : scl 64 w r s = if w r s < FA then 64 * w r s + 1 else FA := by
          unfold scl
          rw [if_neg hrs]; rfl
        rw [e1] at h1
        rw [e3] at h1b
        rw [e2]
        by_cases h3 : fw (scl 1 w) n r s < FA
        · rw [if_pos h3]
          have q1 := T_small hw hn r s hr hs h3
          have q2 := (K_lo 64 (Or.inr rfl) hw hn r s hr hs).1 h3
          have q3 := K_hi 64 (Or.inr rfl) hw hn s hs _ r hr (Nat.le_refl _) h3
          have q4 := cnt_le (fw (scl 1 w) n) r s hr
          by_cases h2 : w r s < FA
          · rw [if_pos h2] at h1 h1b
            rw [if_pos h2]
            omega
          · rw [if_neg h2]; omega
        · rw [if_neg h3]
          by_cases h2 : w r s < FA
          · rw [if_pos h2] at h1; omega
          · rw [if_neg h2]; exact Nat.le_refl _
    · have h1 := fw_tri (scl 1 w) n m r s hm
      have h2 := fw_tri (scl 64 w) n m r s hm
      by_cases a : fw (scl 1 w) n r m < FA
      · by_cases b : fw (scl 1 w) n m s < FA
        · have t1 := T_small hw hn r m hr hm a
          have t2 := T_small hw hn m s hm hs b
          have d : fw (scl 1 w) n r s < FA := by omega
          have a1 := (K_lo 64 (Or.inr rfl) hw hn r m hr hm).1 a
          have a2 := (K_lo 64 (Or.inr rfl) hw hn m s hm hs).1 b
          have a3 := (K_lo 64 (Or.inr rfl) hw hn r s hr hs).1 d
          have a4 := K_hi 64 (Or.inr rfl) hw hn s hs _ r hr (Nat.le_refl _) d
          have a5 := cnt_le (fw (scl 1 w) n) r s hr
          rw [if_pos a, if_pos b, if_pos d]
          omega
        · rw [if_neg b]
          by_cases d : fw (scl 1 w) n r s < FA
          · have q1 := T_small hw hn r s hr hs d
            have q3 := K_hi 64 (Or.inr rfl) hw hn s hs _ r hr (Nat.le_refl _) d
            have q4 := cnt_le (fw (scl 1 w) n) r s hr
            rw [if_pos d]; omega
          · rw [if_neg d]; omega
      · rw [if_neg a]
        by_cases d : fw (scl 1 w) n r s < FA
        · have q1 := T_small hw hn r s hr hs d
          have q3 := K_hi 64 (Or.inr rfl) hw hn s hs _ r hr (Nat.le_refl _) d
          have q4 := cnt_le (fw (scl 1 w) n) r s hr
          rw [if_pos d]; omega
        · rw [if_neg d]; omega
  · have h1 := fw_le (scl 1 w) n r s
    have h1b := fw_le (scl 16 w) n r s
    by_cases hrs : r = s
    · subst hrs
      have z := K16 hw hn r r hr hr (by rw [fw_diag _ (fun s _ => scl_diag 1 s) r hr]; decide)
      rw [fw_diag _ (fun s _ => scl_diag 16 s) r hr] at z
      rw [fw_diag _ (fun s _ => scl_diag 1 s) r hr] at z ⊢
      rw [scl_diag, if_pos (by decide)]
      omega
    · have e1 : scl 1 w r s = if w r s < FA then w r s else FA := by
        unfold scl
        rw [if_neg hrs]
        by_cases h1 : w r s < FA
        · rw [if_pos h1, if_pos h1, if_pos rfl]; omega
        · rw [if_neg h1, if_neg h1]
      have e2 : scl 16 w r s = if w r s < FA then 16 * w r s + 1 else FA := by
        unfold scl
        rw [if_neg hrs, if_neg (show ¬ (16 : Nat) = 1 by decide)]
      have e3 : scl 64 w r s = if w r s < FA then 64 * w r s + 1 else FA := by
        unfold scl
        rw [if_neg hrs]; rfl
      rw [e1] at h1
      rw [e2] at h1b
      rw [e3]
      by_cases h3 : fw (scl 1 w) n r s < FA
      · rw [if_pos h3]
        have q1 := T_small hw hn r s hr hs h3
        have q2 := K16 hw hn r s hr hs h3
        by_cases h2 : w r s < FA
        · rw [if_pos h2] at h1 h1b
          rw [if_pos h2]
          omega
        · rw [if_neg h2]; omega
      · rw [if_neg h3]
        by_cases h2 : w r s < FA
        · rw [if_pos h2] at h1; omega
        · rw [if_neg h2]; exact Nat.le_refl _
  · have h1 := fw_tri (scl 1 w) n m r s hm
    have h2 := fw_tri (scl 16 w) n m r s hm
    by_cases a : fw (scl 1 w) n r m < FA
    · by_cases b : fw (scl 1 w) n m s < FA
      · have t1 := T_small hw hn r m hr hm a
        have t2 := T_small hw hn m s hm hs b
        have d : fw (scl 1 w) n r s < FA := by omega
        have a1 := K16 hw hn r m hr hm a
        have a2 := K16 hw hn m s hm hs b
        have a3 := K16 hw hn r s hr hs d
        rw [if_pos a, if_pos b, if_pos d]
        omega
      · rw [if_neg b]
        by_cases d : fw (scl 1 w) n r s < FA
        · have q1 := T_small hw hn r s hr hs d
          have q2 := K16 hw hn r s hr hs d
          rw [if_pos d]; omega
        · rw [if_neg d]; omega
    · rw [if_neg a]
      by_cases d : fw (scl 1 w) n r s < FA
      · have q1 := T_small hw hn r s hr hs d
        have q2 := K16 hw hn r s hr hs d
        rw [if_pos d]; omega
      · rw [if_neg d]; omega
theorem scl_FA (c : Nat) (hc : c ≤ 64) (hw : Stp1 n w) (r s : Nat) (hr : r < n) (hs : s < n) : scl c w r s ≤ FA := by
  have hFA := FAe
  unfold scl
  split
  · omega
  · split
    · rcases hw r s hr hs with h | h
      · have : c * w r s ≤ 64 * 149 := Nat.mul_le_mul hc h.2
        split <;> omega
      · omega
    · exact Nat.le_refl _
theorem K_FA (c : Nat) (hc : c = 16 ∨ c = 64) (hw : Stp1 n w) (hn : n ≤ 12) (r s : Nat) (hr : r < n) (hs : s < n) (hT : ¬ fw (scl 1 w) n r s < FA) : fw (scl c w) n r s = FA := by
  have hFA := FAe
  have h1 := (K_lo c hc hw hn r s hr hs).2 hT
  have h2 := fw_le (scl c w) n r s
  have h3 := scl_FA c (by omega) hw r s hr hs
  omega
theorem T_FA (hw : Stp1 n w) (r s : Nat) (hr : r < n) (hs : s < n) : fw (scl 1 w) n r s ≤ FA := by
  have hFA := FAe
  have h2 := fw_le (scl 1 w) n r s
  have h3 := scl_FA 1 (by omega) hw r s hr hs
  omega
/-- a next road of the way -/
def nxt (w : Nat → Nat → Nat) (n r s q : Nat) : Prop := w r q < FA ∧ fw (scl 1 w) n q s < FA ∧ w r q + fw (scl 1 w) n q s = fw (scl 1 w) n r s ∧ 1 + hops w n q s = hops w n r s
theorem hops_first (hw : Stp1 n w) (hn : n ≤ 12) (r s : Nat) (hr : r < n) (hs : s < n) (hne : r ≠ s) (hT : fw (scl 1 w) n r s < FA) : ∃ q, q < n ∧ q ≠ r ∧ nxt w n r s q := by
  have hFA := FAe
  obtain ⟨m, hm, hmr, h⟩ := fw_first0' (scl 16 w) (fun s _ => scl_diag 16 s) r s hr hs hne
  have a1 := K16 hw hn r s hr hs hT
  have a0 := T_small hw hn r s hr hs hT
  have e2 : scl 16 w r m = if w r m < FA then 16 * w r m + 1 else FA := by
    unfold scl
    rw [if_neg (Ne.symm hmr)]; rfl
  rw [e2] at h
  by_cases h1 : w r m < FA
  · rw [if_pos h1] at h
    by_cases h2 : fw (scl 1 w) n m s < FA
    · have a2 := K16 hw hn m s hm hs h2
      have a3 := fw_tri (scl 1 w) n m r s hm
      have a4 := fw_le (scl 1 w) n r m
      have e1 : scl 1 w r m = w r m := by
        unfold scl
        rw [if_neg (Ne.symm hmr), if_pos h1, if_pos rfl]; omega
      rw [e1] at a4
      refine ⟨m, hm, hmr, h1, h2, ?_, ?_⟩ <;> omega
    · have := K_FA 16 (Or.inl rfl) hw hn m s hm hs h2
      omega
  · rw [if_neg h1] at h; omega
theorem hops_0 (hw : Stp1 n w) (hn : n ≤ 12) (s : Nat) (hs : s < n) : hops w n s s = 0 := by
  have hFA := FAe
  unfold hops
  rw [fw_diag _ (fun s _ => scl_diag 16 s) s hs]
  omega
theorem hops_pos (hw : Stp1 n w) (hn : n ≤ 12) (r s : Nat) (hr : r < n) (hs : s < n) (hne : r ≠ s) (hT : fw (scl 1 w) n r s < FA) : 0 < hops w n r s := by
  have hFA := FAe
  obtain ⟨q, hq, _, h⟩ := hops_first hw hn r s hr hs hne hT
  have := h.2.2.2
  omega
end WAYS
