/-! roads get ranks one by one: which shortcuts come, and why an arc stands for at most twelve roads -/
def arM (L : Nat → Bool) (W : Nat → Nat → Nat) (v : Nat) : Nat → Nat → Nat := fun r s => if L r = true ∧ L s = true ∧ r ≠ v ∧ s ≠ v then W r s else FA
def nd (n : Nat) (L : Nat → Bool) (W : Nat → Nat → Nat) (v u x : Nat) : Bool := decide (u ≠ x ∧ u ≠ v ∧ x ≠ v ∧ L u = true ∧ L x = true ∧ W u v + W v x < FA ∧ W u v + W v x ≤ fw (arM L W 99) n u v + fw (arM L W 99) n v x ∧ W u v + W v x < fw (arM L W v) n u x)
def cW (n : Nat) (L : Nat → Bool) (W : Nat → Nat → Nat) (v : Nat) : Nat → Nat → Nat := fun u x => if nd n L W v u x = true then W u v + W v x else W u x
def cMd (n : Nat) (L : Nat → Bool) (W Md : Nat → Nat → Nat) (v : Nat) : Nat → Nat → Nat := fun u x => if nd n L W v u x = true then v else Md u x
def cL (L : Nat → Bool) (v : Nat) : Nat → Bool := fun r => L r && decide (r ≠ v)
abbrev CTS : Type := (Nat → Nat → Nat) × (Nat → Nat → Nat) × (Nat → Bool)
def ctr (n v : Nat) (Z : CTS) : CTS := (cW n Z.2.2 Z.1 v, cMd n Z.2.2 Z.1 Z.2.1 v, cL Z.2.2 v)
def kst (n : Nat) (S : Nat → Nat → Nat) (ord : Nat → Nat) : Nat → CTS
  | 0 => (S, fun _ _ => 99, fun _ => true)
  | k + 1 => ctr n (ord k) (kst n S ord k)
section CTR
variable {n : Nat} {S : Nat → Nat → Nat} {ord : Nat → Nat}
/-- steps between 1 and 149 or none, none from a road to itself -/
def Stp2 (n : Nat) (S : Nat → Nat → Nat) : Prop := Stp1 n S ∧ ∀ r, r < n → S r r = FA
/-- an order of roads -/
def Ord (n : Nat) (ord : Nat → Nat) : Prop := (∀ k, k < n → ord k < n) ∧ ∀ i j, i < n → j < n → ord i = ord j → i = j
theorem fw_pos {D : Nat → Nat → Nat} (h : ∀ r s, r < n → s < n → 1 ≤ D r s) (r s : Nat) (hr : r < n) (hs : s < n) : 1 ≤ fw D n r s :=
  fw_max D (fun _ _ => 1) h (fun _ _ _ _ _ _ => by omega) n (Nat.le_refl n) r s hr hs
theorem S_T (hS : Stp2 n S) : ∀ (d u x : Nat), u < n → x < n → u ≠ x → fw (scl 1 S) n u x < FA → fw (scl 1 S) n u x ≤ d → fw S n u x ≤ fw (scl 1 S) n u x := by
  have hFA := FAe
  intro d
  induction d with
  | zero =>
    intro u x hu hx hne hT hd
    obtain ⟨m, hm, hmr, h1, h2, h3⟩ := T_first hS.1 u x hu hx hne hT
    omega
  | succ d ih =>
    intro u x hu hx hne hT hd
    obtain ⟨m, hm, hmr, h1, h2, h3⟩ := T_first hS.1 u x hu hx hne hT
    by_cases e : m = x
    · subst e
      have := fw_le S n u m
      omega
    · have a1 := ih m x hm hx e (by omega) (by omega)
      have a2 := fw_tri S n m u x hm
      have a3 := fw_le S n u m
      omega
theorem S_FA (hS : Stp2 n S) (r s : Nat) (hr : r < n) (hs : s < n) : S r s ≤ FA := by
  have hFA := FAe
  rcases hS.1 r s hr hs with h | h <;> omega
theorem S_eq_T (hS : Stp2 n S) (u x : Nat) (hu : u < n) (hx : x < n) (hne : u ≠ x) : fw S n u x = fw (scl 1 S) n u x := by
  have hFA := FAe
  have h1 : fw (scl 1 S) n u x ≤ fw S n u x := by
    refine fw_mono (fun r s hr hs => ?_) u x hu hx
    unfold scl
    split
    · omega
    · split
      · rw [if_pos rfl]; omega
      · omega
  by_cases hT : fw (scl 1 S) n u x < FA
  · have h2 := S_T hS _ u x hu hx hne hT (Nat.le_refl _)
    omega
  · have h2 := fw_le S n u x
    have h3 := S_FA hS u x hu hx
    omega
/-- what holds of arcs when k roads have ranks -/
def CB (n : Nat) (k : Nat) (W : Nat → Nat → Nat) : Prop := (∀ u x, u < n → x < n → 1 ≤ W u x ∧ (W u x = FA ∨ W u x ≤ 149 * 2 ^ k)) ∧ ∀ u, u < n → W u u = FA
def CL (n : Nat) (ord : Nat → Nat) (k : Nat) (L : Nat → Bool) : Prop := ∀ r, r < n → (L r = true ↔ ∀ j, j < k → ord j ≠ r)
def CC (n : Nat) (S : Nat → Nat → Nat) (L : Nat → Bool) (W : Nat → Nat → Nat) : Prop := ∀ u x, u < n → x < n → u ≠ x → L u = true → L x = true → fw (arM L W 99) n u x = fw (scl 1 S) n u x
def mlt (ord : Nat → Nat) (j m : Nat) : Prop := m = 99 ∨ ∃ i, i < j ∧ m = ord i
def CD (n : Nat) (S : Nat → Nat → Nat) (ord : Nat → Nat) (k : Nat) (W Md : Nat → Nat → Nat) : Prop := ∀ u x, u < n → x < n → W u x < FA → (Md u x = 99 ∧ W u x = S u x) ∨ ∃ j, j < k ∧ Md u x = ord j ∧ u ≠ x ∧ u ≠ ord j ∧ x ≠ ord j ∧ W u x = W u (ord j) + W (ord j) x ∧ W u x = fw (scl 1 S) n u x ∧ mlt ord j (Md u (ord j)) ∧ mlt ord j (Md (ord j) x)
def CM (n : Nat) (W Md : Nat → Nat → Nat) : Prop := ∀ u x, u < n → x < n → Md u x < 12 → W u x < FA
def CI (n : Nat) (S : Nat → Nat → Nat) (ord : Nat → Nat) (k : Nat) (Z : CTS) : Prop := CB n k Z.1 ∧ CL n ord k Z.2.2 ∧ CC n S Z.2.2 Z.1 ∧ CD n S ord k Z.1 Z.2.1 ∧ (∀ u x, u < n → x < n → Z.2.1 u x = 99 ∨ Z.2.1 u x < n ∧ Z.1 u x < FA)
theorem pow12 {k : Nat} (hk : k ≤ 12) : 149 * 2 ^ k ≤ 610304 := by
  have h : 2 ^ k ≤ 2 ^ 12 := Nat.pow_le_pow_right (by decide) hk
  have h2 : (2 : Nat) ^ 12 = 4096 := by decide
  omega
theorem CI_0 (hn : n ≤ 12) (hS : Stp2 n S) : CI n S ord 0 (kst n S ord 0) := by
  have hFA := FAe
  refine ⟨⟨fun u x hu hx => ?_, hS.2⟩, fun r hr => ⟨fun _ j hj => by omega, fun _ => rfl⟩, fun u x hu hx hne _ _ => ?_, fun u x hu hx h => Or.inl ⟨rfl, rfl⟩, fun u x hu hx => Or.inl rfl⟩
  · rcases hS.1 u x hu hx with h | h
    · exact ⟨h.1, Or.inr (show S u x ≤ 149 * 2 ^ 0 by simpa using h.2)⟩
    · have h' : (kst n S ord 0).1 u x = FA := h
      exact ⟨by omega, Or.inl h'⟩
  · rw [← S_eq_T hS u x hu hx hne]
    refine fw_congr (fun r s hr hs => ?_) n (Nat.le_refl n) u x hu hx
    show arM (fun _ => true) S 99 r s = S r s
    unfold arM
    rw [if_pos ⟨rfl, rfl, by omega, by omega⟩]
/-- a row of arcs goes over v or it does not -/
theorem fw_over {L : Nat → Bool} {W : Nat → Nat → Nat} {v : Nat} (hn : n ≤ 12) (hv : v < n) (hW : ∀ u x, u < n → x < n → W u x ≤ FA) (u x : Nat) (hu : u < n) (hx : x < n) (huv : u ≠ v) (hxv : x ≠ v) :
    min (fw (arM L W v) n u x) (fw (arM L W 99) n u v + fw (arM L W 99) n v x) ≤ fw (arM L W 99) n u x := by
  have hmono : ∀ r s, r < n → s < n → fw (arM L W 99) n r s ≤ fw (arM L W v) n r s := fw_mono (fun r s hr hs => by
    unfold arM
    by_cases h1 : L r = true ∧ L s = true ∧ r ≠ v ∧ s ≠ v
    · rw [if_pos h1, if_pos ⟨h1.1, h1.2.1, by omega, by omega⟩]; exact Nat.le_refl _
    · rw [if_neg h1]
      split
      · exact hW r s hr hs
      · exact Nat.le_refl _)
  have key := fw_max (n := n) (arM L W 99) (fun r s => if r = v ∨ s = v then fw (arM L W 99) n r s else min (fw (arM L W v) n r s) (fw (arM L W 99) n r v + fw (arM L W 99) n v s)) (fun r s hr hs => ?_) (fun r s m hr hs hm => ?_) n (Nat.le_refl n) u x hu hx
  · rw [if_neg (by omega)] at key
    exact key
  · by_cases h : r = v ∨ s = v
    · rw [if_pos h]; exact fw_le _ n r s
    · rw [if_neg h]
      have a1 := fw_le (arM L W v) n r s
      have e : arM L W v r s = arM L W 99 r s := by
        unfold arM
        by_cases h1 : L r = true ∧ L s = true
        · rw [if_pos ⟨h1.1, h1.2, by omega, by omega⟩, if_pos ⟨h1.1, h1.2, by omega, by omega⟩]
        · rw [if_neg (fun q => h1 ⟨q.1, q.2.1⟩), if_neg (fun q => h1 ⟨q.1, q.2.1⟩)]
      omega
  · have t1 := fw_tri (arM L W 99) n m r s hm
    have t2 := fw_tri (arM L W v) n m r s hm
    have t3 := fw_tri (arM L W 99) n v r s hv
    have t4 := fw_tri (arM L W 99) n v r m hv
    have t5 := fw_tri (arM L W 99) n v m s hv
    have t6 := fw_tri (arM L W 99) n m v s hm
    have t7 := fw_tri (arM L W 99) n m r v hm
    have m1 := hmono r m hr hm
    have m2 := hmono m s hm hs
    by_cases a : r = v
    · subst a
      rw [if_pos (Or.inl rfl), if_pos (Or.inl rfl)]
      by_cases b : m = r ∨ s = r
      · rw [if_pos b]; exact t1
      · rw [if_neg b]; omega
    · by_cases c : s = v
      · subst c
        rw [if_pos (Or.inr rfl), if_pos (c := m = s ∨ s = s) (Or.inr rfl)]
        by_cases b : r = s ∨ m = s
        · rw [if_pos b]; exact t1
        · rw [if_neg b]; omega
      · rw [if_neg (by omega)]
        by_cases b : m = v
        · subst b
          rw [if_pos (Or.inr rfl), if_pos (Or.inl rfl)]
          omega
        · rw [if_neg (by omega), if_neg (by omega)]
          omega
theorem arM_FA {L : Nat → Bool} {W : Nat → Nat → Nat} {v : Nat} (hW : ∀ u x, u < n → x < n → W u x ≤ FA) (r s : Nat) (hr : r < n) (hs : s < n) : arM L W v r s ≤ FA := by
  unfold arM
  split
  · exact hW r s hr hs
  · exact Nat.le_refl _
theorem CB_FA {k : Nat} {W : Nat → Nat → Nat} (hk : k ≤ 12) (h : CB n k W) (u x : Nat) (hu : u < n) (hx : x < n) : W u x ≤ FA := by
  have hFA := FAe
  have := pow12 hk
  rcases (h.1 u x hu hx).2 with h1 | h1 <;> omega
theorem CI_step (hn : n ≤ 12) (hS : Stp2 n S) (ho : Ord n ord) {k : Nat} (hk : k < n) {Z : CTS} (h : CI n S ord k Z) : CI n S ord (k + 1) (ctr n (ord k) Z) := by
  have hFA := FAe
  obtain ⟨W, Md, L⟩ := Z
  obtain ⟨hB, hL, hC, hDd, hE⟩ := h
  dsimp only at hB hL hC hDd hE
  have hv : ord k < n := ho.1 k hk
  have hLv : L (ord k) = true := (hL _ hv).mpr (fun j hj e => by have := ho.2 j k (by omega) hk e; omega)
  generalize hve : ord k = v at hv hLv
  have hW : ∀ u x, u < n → x < n → W u x ≤ FA := CB_FA (by omega) hB
  have hA1 : ∀ r s, r < n → s < n → 1 ≤ arM L W 99 r s := fun r s hr hs => by
    unfold arM
    split
    · exact (hB.1 r s hr hs).1
    · omega
  have hle : ∀ u x, u < n → x < n → L u = true → L x = true → fw (arM L W 99) n u x ≤ W u x := fun u x hu hx h1 h2 => by
    have := fw_le (arM L W 99) n u x
    have e : arM L W 99 u x = W u x := by unfold arM; rw [if_pos ⟨h1, h2, by omega, by omega⟩]
    omega
  -- a shortcut's worth is least
  have hnd : ∀ u x, u < n → x < n → nd n L W v u x = true → W u v + W v x = fw (scl 1 S) n u x ∧ u ≠ x ∧ u ≠ v ∧ x ≠ v ∧ L u = true ∧ L x = true ∧ W u v < FA ∧ W v x < FA ∧ W u v + W v x < W u x := by
    intro u x hu hx h
    obtain ⟨h1, h2, h3, h4, h5, h6, h7, h8⟩ := of_decide_eq_true h
    have a1 := hle u v hu hv h4 hLv
    have a2 := hle v x hv hx hLv h5
    have a3 := fw_over (L := L) (W := W) hn hv hW u x hu hx h2 h3
    have a4 := fw_tri (arM L W 99) n v u x hv
    have a5 := hC u x hu hx h1 h4 h5
    have a6 := fw_le (arM L W v) n u x
    have e : arM L W v u x = W u x := by unfold arM; rw [if_pos ⟨h4, h5, h2, h3⟩]
    refine ⟨by omega, h1, h2, h3, h4, h5, by omega, by omega, by omega⟩
  have hcW : ∀ u x, u < n → x < n → cW n L W v u x ≤ W u x := fun u x hu hx => by
    unfold cW
    split
    · rename_i h; have := (hnd u x hu hx h).2.2.2.2.2.2.2.2; omega
    · exact Nat.le_refl _
  have hcL : ∀ r, cL L v r = true ↔ L r = true ∧ r ≠ v := fun r => by unfold cL; simp
  -- bounds
  have hB' : CB n (k + 1) (cW n L W v) := by
    refine ⟨fun u x hu hx => ?_, fun u hu => ?_⟩
    · unfold cW
      have p2 : 149 * 2 ^ (k + 1) = 149 * 2 ^ k + 149 * 2 ^ k := by rw [Nat.pow_succ]; omega
      split
      · rename_i h
        obtain ⟨_, _, _, _, _, _, h7, h8, _⟩ := hnd u x hu hx h
        have b1 := hB.1 u v hu hv
        have b2 := hB.1 v x hv hx
        refine ⟨by omega, Or.inr ?_⟩
        rcases b1.2 with q | q
        · omega
        · rcases b2.2 with q2 | q2
          · omega
          · omega
      · have b := hB.1 u x hu hx
        refine ⟨b.1, ?_⟩
        rcases b.2 with q | q
        · exact Or.inl q
        · right; omega
    · unfold cW
      rw [if_neg (fun h => (hnd u u hu hu h).2.1 rfl)]
      exact hB.2 u hu
  -- least rows of arcs stay
  have hmn : ∀ r s, r < n → s < n → fw (arM (cL L v) (cW n L W v) 99) n r s ≤ fw (arM L W v) n r s := fw_mono (fun r s hr hs => by
    unfold arM
    by_cases h1 : L r = true ∧ L s = true ∧ r ≠ v ∧ s ≠ v
    · rw [if_pos h1, if_pos ⟨(hcL r).mpr ⟨h1.1, h1.2.2.1⟩, (hcL s).mpr ⟨h1.2.1, h1.2.2.2⟩, by omega, by omega⟩]; exact hcW r s hr hs
    · rw [if_neg h1, if_neg (fun q => h1 ⟨((hcL r).mp q.1).1, ((hcL s).mp q.2.1).1, ((hcL r).mp q.1).2, ((hcL s).mp q.2.1).2⟩)]; exact Nat.le_refl _)
  have hge : ∀ u x, u < n → x < n → fw (arM L W 99) n u x ≤ fw (arM (cL L v) (cW n L W v) 99) n u x := fun u x hu hx => by
    refine fw_max _ (fw (arM L W 99) n) (fun r s hr hs => ?_) (fun r s m _ _ hm => fw_tri _ n m r s hm) n (Nat.le_refl n) u x hu hx
    unfold arM
    split
    · rename_i h
      have l1 := (hcL r).mp h.1
      have l2 := (hcL s).mp h.2.1
      show fw (arM L W 99) n r s ≤ cW n L W v r s
      unfold cW
      split
      · have t1 := hle r v hr hv l1.1 hLv
        have t2 := hle v s hv hs hLv l2.1
        have t3 := fw_tri (arM L W 99) n v r s hv
        omega
      · exact hle r s hr hs l1.1 l2.1
    · have t1 := fw_le (arM L W 99) n r s
      have t2 := arM_FA (L := L) (v := 99) hW r s hr hs
      exact Nat.le_trans t1 t2
  have hl1 : ∀ u x, u < n → x < n → L u = true → u ≠ v → L x = true → x ≠ v → fw (arM (cL L v) (cW n L W v) 99) n u x ≤ W u x := fun u x hu hx h1 h2 h3 h4 => by
    have t1 := fw_le (arM (cL L v) (cW n L W v) 99) n u x
    have e : arM (cL L v) (cW n L W v) 99 u x = cW n L W v u x := by unfold arM; rw [if_pos ⟨(hcL u).mpr ⟨h1, h2⟩, (hcL x).mpr ⟨h3, h4⟩, by omega, by omega⟩]
    have t2 := hcW u x hu hx
    omega
  -- two arcs over v
  have hby : ∀ u b, u < n → b < n → L u = true → u ≠ v → L b = true → b ≠ v → u ≠ b → W u v + W v b < FA → (fw (arM L W 99) n u v + fw (arM L W 99) n v b < W u v + W v b) ∨ fw (arM (cL L v) (cW n L W v) 99) n u b ≤ W u v + W v b := by
    intro u b hu hb h1 h2 h3 h4 hne hlt
    by_cases c1 : fw (arM L W 99) n u v + fw (arM L W 99) n v b < W u v + W v b
    · exact Or.inl c1
    · right
      by_cases c2 : W u v + W v b < fw (arM L W v) n u b
      · have hn1 : nd n L W v u b = true := decide_eq_true ⟨hne, h2, h4, h1, h3, hlt, by omega, c2⟩
        have t1 := fw_le (arM (cL L v) (cW n L W v) 99) n u b
        have e : arM (cL L v) (cW n L W v) 99 u b = cW n L W v u b := by unfold arM; rw [if_pos ⟨(hcL u).mpr ⟨h1, h2⟩, (hcL b).mpr ⟨h3, h4⟩, by omega, by omega⟩]
        have e2 : cW n L W v u b = W u v + W v b := by unfold cW; rw [if_pos hn1]
        omega
      · have := hmn u b hu hb
        omega
  have hup : ∀ (d u x : Nat), u < n → x < n → u ≠ x → L u = true → u ≠ v → L x = true → x ≠ v → fw (arM L W 99) n u x < FA → fw (arM L W 99) n u x ≤ d → fw (arM (cL L v) (cW n L W v) 99) n u x ≤ fw (arM L W 99) n u x := by
    intro d
    induction d with
    | zero =>
      intro u x hu hx _ _ _ _ _ _ hd
      have := fw_pos hA1 u x hu hx
      omega
    | succ d ih =>
      intro u x hu hx hne hLu huv hLx hxv hlt hd
      have inA : ∀ r m, r < n → m < n → arM L W 99 r m < FA → L r = true ∧ L m = true ∧ arM L W 99 r m = W r m := by
        intro r m hr hm h
        unfold arM at h ⊢
        by_cases c : L r = true ∧ L m = true ∧ r ≠ 99 ∧ m ≠ 99
        · rw [if_pos c]; exact ⟨c.1, c.2.1, rfl⟩
        · rw [if_neg c] at h; omega
      rcases fw_first' (arM L W 99) u x hu hx with e | ⟨m, hm, e⟩
      · rw [e] at hlt
        have q := inA u x hu hx hlt
        rw [e, q.2.2]
        exact hl1 u x hu hx hLu huv hLx hxv
      · have q := inA u m hu hm (by omega)
        have hmu : m ≠ u := fun c => by subst c; have := hB.2 m hm; omega
        have p1 := fw_pos hA1 m x hm hx
        have p2 := (hB.1 u m hu hm).1
        have hmx : m ≠ x := fun c => by subst c; have := hle u m hu hm hLu q.2.1; omega
        by_cases hmv : m = v
        · subst hmv
          rcases fw_first' (arM L W 99) m x hm hx with e2 | ⟨b, hb, e2⟩
          · have q2 := inA m x hm hx (by omega)
            rcases hby u x hu hx hLu huv hLx hxv hne (by omega) with c | c
            · have t := fw_tri (arM L W 99) n m u x hm
              omega
            · omega
          · have q2 := inA m b hm hb (by omega)
            have hbm : b ≠ m := fun c => by subst c; have := hB.2 b hb; omega
            have p3 := fw_pos hA1 b x hb hx
            have p4 := (hB.1 m b hm hb).1
            have hbx : b ≠ x := fun c => by subst c; have := hle m b hm hb hLv q2.2.1; omega
            have hub : u ≠ b := fun c => by subst c; omega
            have i1 := ih b x hb hx hbx q2.2.1 hbm hLx hxv (by omega) (by omega)
            have t2 := fw_tri (arM (cL L m) (cW n L W m) 99) n b u x hb
            rcases hby u b hu hb hLu huv q2.2.1 hbm hub (by omega) with c | c
            · have t := fw_tri (arM L W 99) n m u b hm
              have t3 := fw_tri (arM L W 99) n b u x hb
              omega
            · omega
        · have i1 := ih m x hm hx hmx q.2.1 hmv hLx hxv (by omega) (by omega)
          have t2 := fw_tri (arM (cL L v) (cW n L W v) 99) n m u x hm
          have t3 := hl1 u m hu hm hLu huv q.2.1 hmv
          omega
  refine ⟨?_, ?_, ?_, ?_, ?_⟩
  · exact hB'
  · intro r hr
    show cL L v r = true ↔ _
    rw [hcL, hL r hr]
    constructor
    · intro ⟨a, b⟩ j hj
      by_cases e : j = k
      · subst e; rw [hve]; exact Ne.symm b
      · exact a j (by omega)
    · intro a
      exact ⟨fun j hj => a j (by omega), fun e => a k (by omega) (by rw [hve, e])⟩
  · intro u x hu hx hne h1 h2
    have h1 : cL L v u = true := h1
    have h2 : cL L v x = true := h2
    show fw (arM (cL L v) (cW n L W v) 99) n u x = _
    rw [hcL] at h1 h2
    rw [← hC u x hu hx hne h1.1 h2.1]
    have g1 := hge u x hu hx
    by_cases hlt : fw (arM L W 99) n u x < FA
    · have g2 := hup _ u x hu hx hne h1.1 h1.2 h2.1 h2.2 hlt (Nat.le_refl _)
      omega
    · have t1 := fw_le (arM (cL L v) (cW n L W v) 99) n u x
      have t2 := arM_FA (n := n) (L := cL L v) (W := cW n L W v) (v := 99) (fun r s hr hs => Nat.le_trans (hcW r s hr hs) (hW r s hr hs)) u x hu hx
      omega
  · intro u x hu hx
    show cW n L W v u x < FA → (cMd n L W Md v u x = 99 ∧ cW n L W v u x = S u x) ∨ ∃ j, j < k + 1 ∧ cMd n L W Md v u x = ord j ∧ u ≠ x ∧ u ≠ ord j ∧ x ≠ ord j ∧ cW n L W v u x = cW n L W v u (ord j) + cW n L W v (ord j) x ∧ cW n L W v u x = fw (scl 1 S) n u x ∧ mlt ord j (cMd n L W Md v u (ord j)) ∧ mlt ord j (cMd n L W Md v (ord j) x)
    intro hlt
    have offv : ∀ r, cW n L W v r v = W r v ∧ cW n L W v v r = W v r ∧ cMd n L W Md v r v = Md r v ∧ cMd n L W Md v v r = Md v r := fun r => by
      have n1 : ¬ nd n L W v r v = true := fun h => (of_decide_eq_true h).2.2.1 rfl
      have n2 : ¬ nd n L W v v r = true := fun h => (of_decide_eq_true h).2.1 rfl
      unfold cW cMd
      rw [if_neg n1, if_neg n2, if_neg n1, if_neg n2]
      exact ⟨rfl, rfl, rfl, rfl⟩
    by_cases hn1 : nd n L W v u x = true
    · obtain ⟨a1, a2, a3, a4, a5, a6, a7, a8, a9⟩ := hnd u x hu hx hn1
      have e1 : cW n L W v u x = W u v + W v x := by unfold cW; rw [if_pos hn1]
      have e2 : cMd n L W Md v u x = v := by unfold cMd; rw [if_pos hn1]
      right
      have ml : ∀ r s, r < n → s < n → W r s < FA → mlt ord k (Md r s) := fun r s hr hs hlt => by
        rcases hDd r s hr hs hlt with ⟨q, _⟩ | ⟨j, hj, q, _⟩
        · exact Or.inl q
        · exact Or.inr ⟨j, hj, q⟩
      refine ⟨k, by omega, by rw [e2, hve], a2, by rw [hve]; exact a3, by rw [hve]; exact a4, ?_, by rw [e1]; exact a1, ?_, ?_⟩
      · rw [hve, (offv u).1, (offv x).2.1, e1]
      · rw [hve, (offv u).2.2.1]; exact ml u v hu hv a7
      · rw [hve, (offv x).2.2.2]; exact ml v x hv hx a8
    · have e1 : cW n L W v u x = W u x := by unfold cW; rw [if_neg hn1]
      have e2 : cMd n L W Md v u x = Md u x := by unfold cMd; rw [if_neg hn1]
      rw [e1] at hlt
      rw [e1, e2]
      rcases hDd u x hu hx hlt with ⟨q1, q2⟩ | ⟨j, hj, q1, q2, q3, q4, q5, q6, q7, q8⟩
      · exact Or.inl ⟨q1, q2⟩
      · right
        have hLj : ¬ L (ord j) = true := fun c => (hL _ (ho.1 j (by omega))).mp c j hj rfl
        have offj : ∀ r, cW n L W v r (ord j) = W r (ord j) ∧ cW n L W v (ord j) r = W (ord j) r ∧ cMd n L W Md v r (ord j) = Md r (ord j) ∧ cMd n L W Md v (ord j) r = Md (ord j) r := fun r => by
          have n1 : ¬ nd n L W v r (ord j) = true := fun h => hLj (of_decide_eq_true h).2.2.2.2.1
          have n2 : ¬ nd n L W v (ord j) r = true := fun h => hLj (of_decide_eq_true h).2.2.2.1
          unfold cW cMd
          rw [if_neg n1, if_neg n2, if_neg n1, if_neg n2]
          exact ⟨rfl, rfl, rfl, rfl⟩
        refine ⟨j, by omega, q1, q2, q3, q4, ?_, q6, ?_, ?_⟩
        · rw [(offj u).1, (offj x).2.1]; exact q5
        · rw [(offj u).2.2.1]; exact q7
        · rw [(offj x).2.2.2]; exact q8
  · intro u x hu hx
    show cMd n L W Md v u x = 99 ∨ cMd n L W Md v u x < n ∧ cW n L W v u x < FA
    by_cases hn1 : nd n L W v u x = true
    · have e1 : cW n L W v u x = W u v + W v x := by unfold cW; rw [if_pos hn1]
      have e2 : cMd n L W Md v u x = v := by unfold cMd; rw [if_pos hn1]
      rw [e1, e2]
      have q := (of_decide_eq_true hn1).2.2.2.2.2.1
      exact Or.inr ⟨hv, q⟩
    · have e1 : cW n L W v u x = W u x := by unfold cW; rw [if_neg hn1]
      have e2 : cMd n L W Md v u x = Md u x := by unfold cMd; rw [if_neg hn1]
      rw [e1, e2]
      exact hE u x hu hx
theorem CI_all (hn : n ≤ 12) (hS : Stp2 n S) (ho : Ord n ord) : ∀ (k : Nat), k ≤ n → CI n S ord k (kst n S ord k)
  | 0, _ => CI_0 hn hS
  | k + 1, hk => CI_step hn hS ho (by omega) (CI_all hn hS ho k (by omega))
end CTR
