/-! A world by a layout: cells of objects and of arrays of ints, what they hold in three lists (ints, longs, rows) -/
abbrev gfd : Type := Nat × Nat
abbrev gcl : Type := (Nat × Nat × Bool) ⊕ (Nat × List gfd)
abbrev gS : Type := List Int32 × List Int64 × List (Nat → Int32)
def gval (q : Nat → Nat) (w : gS) (f : gfd) : Value := if f.1 = 0 then .int (w.1.getD f.2 0) else if f.1 = 1 then .ref (q f.2) else .long (w.2.1.getD f.2 0)
def gcell (cI cZ : ClassId) (q : Nat → Nat) (w : gS) (d : gcl) : va_E := match d with
  | .inl a => .inl (if a.2.2 = true then cZ else cI, a.2.1, .inl (w.2.2.getD a.1 (fun _ => 0)))
  | .inr o => .inr (o.1, o.2.map (gval q w))
def gw (cI cZ : ClassId) (lay : List gcl) (q : Nat → Nat) (w : gS) : va_W := lay.zipIdx.map (fun d => (q d.2, gcell cI cZ q w d.1))
theorem gw_get (cI cZ : ClassId) (lay : List gcl) (q : Nat → Nat) (w : gS) (i : Nat) : (gw cI cZ lay q w)[i]? = (lay[i]?).map (fun d => (q i, gcell cI cZ q w d)) := by
  simp [gw, List.getElem?_map, List.getElem?_zipIdx, Option.map_map, Function.comp_def]
theorem gw_len (cI cZ : ClassId) (lay : List gcl) (q : Nat → Nat) (w : gS) : (gw cI cZ lay q w).length = lay.length := by simp [gw]
theorem gw_at {cI cZ : ClassId} {lay : List gcl} {q : Nat → Nat} {w : gS} {i : Nat} {d : gcl} (h : lay[i]? = some d) : (gw cI cZ lay q w)[i]? = some (q i, gcell cI cZ q w d) := by
  rw [gw_get, h]; rfl
/-- which addresses are the world's -/
def gA (lay : List gcl) (q : Nat → Nat) : Nat → Prop := fun a => ∃ i, i < lay.length ∧ q i = a
/-- the addresses are apart -/
def gJ (lay : List gcl) (q : Nat → Nat) : Prop := ∀ i j, i < lay.length → j < lay.length → q i = q j → i = j
theorem gD {cI cZ : ClassId} {lay : List gcl} {q : Nat → Nat} {w : gS} (hq : gJ lay q) : va_D (gA lay q) (gw cI cZ lay q w) := by
  have key : ∀ (i : Nat) (p : Nat × va_E), (gw cI cZ lay q w)[i]? = some p → i < lay.length ∧ q i = p.1 := by
    intro i p h
    have hl : i < (gw cI cZ lay q w).length := (List.getElem?_eq_some_iff.mp h).1
    rw [gw_len] at hl
    rw [gw_at (List.getElem?_eq_getElem hl)] at h
    have h := Option.some.inj h
    exact ⟨hl, by rw [← h]⟩
  refine ⟨fun i j a b hi hj hab => ?_, fun k a hk => ?_⟩
  · obtain ⟨h1, h2⟩ := key i a hi
    obtain ⟨h3, h4⟩ := key j b hj
    exact hq i j h1 h3 (by rw [h2, h4, hab])
  · obtain ⟨h1, h2⟩ := key k a hk
    exact ⟨k, h1, h2⟩
/-- a field (an array's row) stands at one place alone -/
def guB (lay : List gcl) (f : gfd) (i k : Nat) : Bool := lay.zipIdx.all (fun d => match d.1 with
  | .inl _ => true
  | .inr o => o.2.zipIdx.all (fun g => !(g.1 == f) || (d.2 == i && g.2 == k)))
theorem guB_spec {lay : List gcl} {f : gfd} {i k : Nat} (h : guB lay f i k = true) (i' k' c : Nat) (fs : List gfd) (h1 : lay[i']? = some (.inr (c, fs))) (h2 : fs[k']? = some f) : i' = i ∧ k' = k := by
  have m1 : ((.inr (c, fs) : gcl), i') ∈ lay.zipIdx := by
    apply List.mem_of_getElem? (i := i')
    rw [List.getElem?_zipIdx, h1]; simp
  have a1 := List.all_eq_true.mp h _ m1
  have m2 : (f, k') ∈ fs.zipIdx := by
    apply List.mem_of_getElem? (i := k')
    rw [List.getElem?_zipIdx, h2]; simp
  have a2 := List.all_eq_true.mp a1 _ m2
  simpa using a2
def gaB (lay : List gcl) (k i : Nat) : Bool := lay.zipIdx.all (fun d => match d.1 with
  | .inl a => !(a.1 == k) || d.2 == i
  | .inr _ => true)
theorem gaB_spec {lay : List gcl} {i k : Nat} (h : gaB lay k i = true) (i' n : Nat) (b : Bool) (h1 : lay[i']? = some (.inl (k, n, b))) : i' = i := by
  have m1 : ((.inl (k, n, b) : gcl), i') ∈ lay.zipIdx := by
    apply List.mem_of_getElem? (i := i')
    rw [List.getElem?_zipIdx, h1]; simp
  have a1 := List.all_eq_true.mp h _ m1
  simpa using a1
/-- two worlds that differ at most in one cell -/
theorem gw_set {cI cZ : ClassId} {lay : List gcl} {q : Nat → Nat} {w w' : gS} {i : Nat} {d : gcl} {e : va_E} (hi : lay[i]? = some d) (he : e = gcell cI cZ q w' d) (ho : ∀ n d', lay[n]? = some d' → n ≠ i → gcell cI cZ q w d' = gcell cI cZ q w' d') :
    (gw cI cZ lay q w).set i (q i, e) = gw cI cZ lay q w' := by
  apply List.ext_getElem?
  intro n
  rw [List.getElem?_set, gw_get, gw_get, gw_len]
  have hl : i < lay.length := (List.getElem?_eq_some_iff.mp hi).1
  by_cases hn : i = n
  · subst hn
    rw [if_pos rfl, if_pos hl, hi, he]
    rfl
  · rw [if_neg hn]
    cases hd : lay[n]? with
    | none => rfl
    | some d' =>
      show some (q n, gcell cI cZ q w d') = some (q n, gcell cI cZ q w' d')
      rw [ho n d' hd (Ne.symm hn)]
theorem gval_setI {q : Nat → Nat} {w : gS} {j : Nat} {x : Int32} {f : gfd} (h : f ≠ (0, j)) : gval q (w.1.set j x, w.2) f = gval q w f := by
  obtain ⟨a, b⟩ := f
  unfold gval
  by_cases ha : a = 0
  · subst ha
    have hb : b ≠ j := fun e => h (by rw [e])
    simp [List.getElem?_set, Ne.symm hb]
  · simp [ha]
theorem gval_setJ {q : Nat → Nat} {w : gS} {j : Nat} {x : Int64} {f : gfd} (h : f ≠ (2, j)) (h2 : f.1 ≤ 2) : gval q (w.1, w.2.1.set j x, w.2.2) f = gval q w f := by
  obtain ⟨a, b⟩ := f
  unfold gval
  by_cases ha : a = 0
  · simp [ha]
  · by_cases hb : a = 1
    · simp [hb]
    · have hc : a = 2 := by have : a ≤ 2 := h2; omega
      subst hc
      have hb : b ≠ j := fun e => h (by rw [e])
      simp [List.getElem?_set, Ne.symm hb]
theorem gw_setI {cI cZ : ClassId} {lay : List gcl} {q : Nat → Nat} {w : gS} {i k j ci : Nat} {fs : List gfd} {x : Int32} (hi : lay[i]? = some (.inr (ci, fs))) (hk : fs[k]? = some (0, j)) (hu : guB lay (0, j) i k = true) (hj : j < w.1.length) :
    (gw cI cZ lay q w).set i (q i, .inr (ci, (fs.map (gval q w)).set k (.int x))) = gw cI cZ lay q (w.1.set j x, w.2) := by
  refine gw_set hi ?_ (fun n d' hn hne => ?_)
  · show Sum.inr (ci, (fs.map (gval q w)).set k (.int x)) = Sum.inr (ci, fs.map (gval q (w.1.set j x, w.2)))
    congr 2
    apply List.ext_getElem?
    intro k'
    rw [List.getElem?_set, List.getElem?_map, List.getElem?_map, List.length_map]
    have hl : k < fs.length := (List.getElem?_eq_some_iff.mp hk).1
    by_cases hkk : k = k'
    · subst hkk
      rw [if_pos rfl, if_pos hl, hk]
      simp [gval, hj]
    · rw [if_neg hkk]
      cases hf : fs[k']? with
      | none => rfl
      | some f =>
        show some (gval q w f) = some (gval q (w.1.set j x, w.2) f)
        rw [gval_setI (fun e => hkk (guB_spec hu i k' ci fs hi (e ▸ hf)).2.symm)]
  · cases d' with
    | inl a => rfl
    | inr o =>
      obtain ⟨c', fs'⟩ := o
      show Sum.inr (c', fs'.map (gval q w)) = Sum.inr (c', fs'.map (gval q (w.1.set j x, w.2)))
      congr 2
      apply List.map_congr_left
      intro f hf
      obtain ⟨k', hk'⟩ := List.getElem?_of_mem hf
      exact (gval_setI (fun e => hne (guB_spec hu n k' c' fs' hn (e ▸ hk')).1)).symm
/-- the fields' kinds are three -/
def gkB (lay : List gcl) : Bool := lay.all (fun d => match d with
  | .inl _ => true
  | .inr o => o.2.all (fun g => decide (g.1 ≤ 2)))
theorem gkB_spec {lay : List gcl} (h : gkB lay = true) {i c : Nat} {fs : List gfd} (h1 : lay[i]? = some (.inr (c, fs))) {f : gfd} (hf : f ∈ fs) : f.1 ≤ 2 := by
  have a1 := List.all_eq_true.mp h _ (List.mem_of_getElem? h1)
  have a2 := List.all_eq_true.mp a1 _ hf
  simpa using a2
theorem gw_setJ {cI cZ : ClassId} {lay : List gcl} {q : Nat → Nat} {w : gS} {i k j ci : Nat} {fs : List gfd} {x : Int64} (hi : lay[i]? = some (.inr (ci, fs))) (hk : fs[k]? = some (2, j)) (hu : guB lay (2, j) i k = true) (hg : gkB lay = true) (hj : j < w.2.1.length) :
    (gw cI cZ lay q w).set i (q i, .inr (ci, (fs.map (gval q w)).set k (.long x))) = gw cI cZ lay q (w.1, w.2.1.set j x, w.2.2) := by
  refine gw_set hi ?_ (fun n d' hn hne => ?_)
  · show Sum.inr (ci, (fs.map (gval q w)).set k (.long x)) = Sum.inr (ci, fs.map (gval q (w.1, w.2.1.set j x, w.2.2)))
    congr 2
    apply List.ext_getElem?
    intro k'
    rw [List.getElem?_set, List.getElem?_map, List.getElem?_map, List.length_map]
    have hl : k < fs.length := (List.getElem?_eq_some_iff.mp hk).1
    by_cases hkk : k = k'
    · subst hkk
      rw [if_pos rfl, if_pos hl, hk]
      simp [gval, hj]
    · rw [if_neg hkk]
      cases hf : fs[k']? with
      | none => rfl
      | some f =>
        show some (gval q w f) = some (gval q (w.1, w.2.1.set j x, w.2.2) f)
        rw [gval_setJ (fun e => hkk (guB_spec hu i k' ci fs hi (e ▸ hf)).2.symm) (gkB_spec hg hi (List.mem_of_getElem? hf))]
  · cases d' with
    | inl a => rfl
    | inr o =>
      obtain ⟨c', fs'⟩ := o
      show Sum.inr (c', fs'.map (gval q w)) = Sum.inr (c', fs'.map (gval q (w.1, w.2.1.set j x, w.2.2)))
      congr 2
      apply List.map_congr_left
      intro f hf
      obtain ⟨k', hk'⟩ := List.getElem?_of_mem hf
      exact (gval_setJ (fun e => hne (guB_spec hu n k' c' fs' hn (e ▸ hk')).1) (gkB_spec hg hn hf)).symm
theorem gw_setA {cI cZ : ClassId} {lay : List gcl} {q : Nat → Nat} {w : gS} {i k n : Nat} {b : Bool} {f : Nat → Int32} (hi : lay[i]? = some (.inl (k, n, b))) (hu : gaB lay k i = true) (hk : k < w.2.2.length) :
    (gw cI cZ lay q w).set i (q i, .inl (if b = true then cZ else cI, n, .inl f)) = gw cI cZ lay q (w.1, w.2.1, w.2.2.set k f) := by
  refine gw_set hi ?_ (fun n' d' hn hne => ?_)
  · show Sum.inl (if b = true then cZ else cI, n, Sum.inl f) = Sum.inl (if b = true then cZ else cI, n, Sum.inl ((w.2.2.set k f).getD k (fun _ => 0)))
    simp [hk]
  · cases d' with
    | inl a =>
      obtain ⟨k', n'', b'⟩ := a
      show Sum.inl (if b' = true then cZ else cI, n'', Sum.inl (w.2.2.getD k' (fun _ => 0))) = Sum.inl (if b' = true then cZ else cI, n'', Sum.inl ((w.2.2.set k f).getD k' (fun _ => 0)))
      have hkk : k ≠ k' := fun e => hne (gaB_spec hu n' n'' b' (by rw [e]; exact hn))
      simp [List.getElem?_set, hkk]
    | inr o => rfl
/-! The words that every method here has: all good ones of the tables -/
def gtbl : List Cond := lw_tbl.filter goodWord
theorem tbM {w : Cond} (h : w ∈ lw_tbl) (g : goodWord w = true) : w ∈ gtbl := List.mem_filter.mpr ⟨h, g⟩
theorem tbG {w : Cond} (h : w ∈ gtbl) : goodWord w = true := (List.mem_filter.mp h).2
theorem tbT {w : Cond} (i : Nat) (h : tables_1[i]? = some w) (g : goodWord w = true) : w ∈ gtbl := tbM (List.mem_append_right _ (List.mem_of_getElem? h)) g
theorem tbS {w : Cond} (i : Nat) (h : (k2_sels lw_privs)[i]? = some w) (g : goodWord w = true) : w ∈ gtbl := tbM (List.mem_append_left _ (List.mem_of_getElem? h)) g
theorem tbI {y y' : MethodName} {c c' : ByteArray} {n n' : Nat} {r r' : Option FieldType} (h : Cond.code y' c' n' r' ∈ gtbl) : GoodIn (Cond.code y c n r :: gtbl) (Cond.code y' c' n' r' :: gtbl) := by
  intro w hw
  have hm : w ∈ gtbl := by
    rcases List.mem_cons.mp hw with rfl | h1
    · exact h
    · exact h1
  exact ⟨List.mem_cons_of_mem _ hm, good_of_word (tbG hm)⟩
theorem tbI' {y' : MethodName} {c' : ByteArray} {n' : Nat} {r' : Option FieldType} (h : Cond.code y' c' n' r' ∈ gtbl) : GoodIn gtbl (Cond.code y' c' n' r' :: gtbl) := by
  intro w hw
  have hm : w ∈ gtbl := by
    rcases List.mem_cons.mp hw with rfl | h1
    · exact h
    · exact h1
  exact ⟨hm, good_of_word (tbG hm)⟩
/-! A class's fields, a field's link, a method's link -/
def FLD (ci : Nat) (C : String) (T : u_T) (N : Nat) (ty0 : Nat → FieldType) : Prop := vwCl[ci]? = some (C, T, N) ∧ (∀ w ∈ u_ws C T N, w ∈ gtbl) ∧ (∀ k, k < N → parseFieldDescriptor (T k).2.2.1 = some (ty0 k)) ∧ ∀ a, a < N → ∀ b, b < N → a ≠ b → (T a).2.1 ≠ (T b).2.1
def FL (own : String) (index ci k : Nat) : Prop := ∃ (C : String) (T : u_T) (N : Nat) (ty0 : Nat → FieldType), FLD ci C T N ty0 ∧ k < N ∧ Cond.fieldLink own index (T k).1 (T k).2.1 (T k).2.2.1 ∈ gtbl
def FP (own : String) (index ci k : Nat) (ty : FieldType) : Prop := ∃ (C : String) (T : u_T) (N : Nat) (ty0 : Nat → FieldType), FLD ci C T N ty0 ∧ k < N ∧ Cond.fieldLink own index (T k).1 (T k).2.1 (T k).2.2.1 ∈ gtbl ∧ (T k).2.2.2 = false ∧ ty0 k = ty
def ML (own : String) (index : Nat) (y : MethodName) (bytes : ByteArray) (maxL : Nat) (ret : Option FieldType) (n : Nat) : Prop := Cond.methodLink own index y ∈ gtbl ∧ Cond.instanceMethod y ∈ gtbl ∧ Cond.selects y.cls y y ∈ gtbl ∧ Cond.initialized y.cls ∈ gtbl ∧ Cond.code y bytes maxL ret ∈ gtbl ∧ y.cls ≠ "java/lang/invoke/MethodHandle" ∧ y.cls ≠ "java/lang/invoke/VarHandle" ∧ (parseMethodDescriptor y.desc).map (fun d => d.parameters.length) = some n
def MLs (own : String) (index : Nat) (y : MethodName) (bytes : ByteArray) (maxL : Nat) (ret : Option FieldType) (n : Nat) : Prop := Cond.methodLink own index y ∈ gtbl ∧ Cond.static y ∈ gtbl ∧ Cond.initialized y.cls ∈ gtbl ∧ Cond.code y bytes maxL ret ∈ gtbl ∧ y.cls ≠ "java/lang/invoke/MethodHandle" ∧ y.cls ≠ "java/lang/invoke/VarHandle" ∧ (parseMethodDescriptor y.desc).map (fun d => d.parameters.length) = some n
/-- what the tables say of the classes, of int and boolean arrays, and of the one call among nest mates -/
def GT (D : va_G) (cI cZ : ClassId) (s : State) : Prop := va_K D vwCl [(cI, .int), (cZ, .boolean)] s ∧ va_Nw (.methodLinkNest RX4 57 yX7_isPlace RX7) s
theorem GT.warm {D : va_G} {cI cZ : ClassId} {s U : State} (hW : s.WarmedH U.vm) (h : GT D cI cZ s) : GT D cI cZ U := ⟨va_K.moved hW.alike h.1, va_Nw.warmM hW h.2⟩
theorem GT.calling {D : va_G} {cI cZ : ClassId} {U : State} {g : JFrame} {mk : MethodId} {a : Array Value} (h : GT D cI cZ U) : GT D cI cZ (U.calling g mk a) := ⟨va_K.moved (u := U) (U := U.calling g mk a) (Vm.Alike.refl U.vm) h.1, va_Nw.same (U := U.calling g mk a) rfl rfl h.2⟩
/-- the world at heap H, and that nothing else was written since s -/
def GH (D : va_G) (cI cZ : ClassId) (lay : List gcl) (q : Nat → Nat) (s : State) (w : gS) (H : Heap) (locs : List Loc) : Prop := va_P D vwCl (gw cI cZ lay q w) H ∧ va_S (gA lay q) s.heap H locs
def GPc (D : va_G) (cI cZ : ClassId) (lay : List gcl) (q : Nat → Nat) (av : List Value) (w : gS) : Array Value → State → Prop := va_Pc av (fun U => va_P D vwCl (gw cI cZ lay q w) U.heap ∧ GT D cI cZ U)
def GQc (D : va_G) (cI cZ : ClassId) (lay : List gcl) (q : Nat → Nat) (o : Option Value) (w' : gS) : Array Value → State → Outcome → State → Prop := fun _ st oc t => oc = .returned o ∧ va_P D vwCl (gw cI cZ lay q w') t.heap ∧ va_F (gA lay q) st t
/-- a method's contract: from the world w it answers o and leaves the world w' -/
def GM (l : Launch) (y : MethodName) (cc : ByteArray) (nL : Nat) (ret : Option FieldType) (fr lo : Nat) (D : va_G) (cI cZ : ClassId) (lay : List gcl) (q : Nat → Nat) (av : List Value) (w : gS) (o : Option Value) (w' : gS) : Prop :=
  Met l y (Cond.code y cc nL ret :: gtbl) { frames := fr, cells := 0, slots := 0, locals := lo } (GPc D cI cZ lay q av w) (GQc D cI cZ lay q o w') 0 0 (gA lay q)
theorem GM.intro {l : Launch} {y : MethodName} {cc : ByteArray} {nL : Nat} {ret : Option FieldType} {fr lo : Nat} {D : va_G} {cI cZ : ClassId} {lay : List gcl} {q : Nat → Nat} {av : List Value} {w : gS} {o : Option Value} {w' : gS} (own : String) (hy : plainName y.cls = true) (hC : y.cls = own) (hn : (lg_sl av).length ≤ nL)
    (body : ∀ (p : Program) (e : Env) (s : State) (m : MethodId) (below : List Frame) (meth : Method) (c : Code) (ls : Array Slot), CallFix p m c cc nL s av.toArray gtbl own → meth.sig.returnType = ret → meth.locks = false → GT D cI cZ s → GH D cI cZ lay q s w s.heap [] → lv_has ls nL (lv_args 0 av) →
      W p l e { frames := fr, cells := 0, slots := 0, locals := lo } s m av.toArray below meth c s.heap [] 0 0 (MQ below (GQc D cI cZ lay q o w') av.toArray s 0 0 (gA lay q)) (F0 m 0 ls [])) : GM l y cc nL ret fr lo D cI cZ lay q av w o w' := by
  refine Met.ofW (cc := cc) (maxL := nL) (ret := ret) hy rfl ?_
  intro p e s m args below meth c s₁ B hml hv
  obtain ⟨rfl, hP, hT⟩ := hv
  have hts := atoms_spec (ws := Cond.code y cc nL ret :: gtbl) B.pre
  have hown : s.vm.findClass own = some m.cls := hC ▸ findClass_of_methodNamed B.named
  have hl := lv_entry av hn
  rw [lg_entry_eq]
  exact body p e s m below meth c _ ⟨B.exec, B.bytes, hml, hown, fun w h => hts w (List.mem_cons_of_mem _ h)⟩ B.returns B.notSynchronized hT ⟨hP, va_S.rf⟩ hl
section GR
variable {p : Program} {l : Launch} {e : Env} {R : Room} {s : State} {m : MethodId} {args : Array Value} {below : List Frame} {meth : Method} {c : Code} {H : Heap} {locs : List Loc} {Q : State → Prop}
variable {cc : ByteArray} {pc nL : Nat} {ls : Array Slot} {rest : List Value} {own : String} {D : va_G} {cI cZ : ClassId} {lay : List gcl} {q : Nat → Nat} {w : gS}
theorem g_get (X : CallFix p m c cc nL s args gtbl own) (hT : GT D cI cZ s) (hG : GH D cI cZ lay q s w H locs) {index ci k : Nat} (hF : FL own index ci k) (i : Nat) {fs : List gfd} (hi : lay[i]? = some (.inr (ci, fs))) {f : gfd} (hk : fs[k]? = some f) {v : Value} (hv : gval q w f = v) (hdg : decode cc pc = .ok (.getfield index, 3))
    (kk : W p l e R s m args below meth c H locs 0 0 Q (F0 m (pc + 3) ls (v :: rest))) : W p l e R s m args below meth c H locs 0 0 Q (F0 m pc ls (.ref (q i) :: rest)) := by
  obtain ⟨hx, hb, hml, hown, hts⟩ := X
  obtain ⟨C, T, N, ty0, ⟨h1, h2, h3, h4⟩, h5, h6⟩ := hF
  refine va_get (C := C) (T := T) (N := N) hx hb hts h2 hown hT.1 hG.1 i (gw_at hi) h1 k h5 (hts _ h6) (fun _ h9 => h9) (v := v) ?_ hdg kk
  show (fs.map (gval q w))[k]? = some v
  rw [List.getElem?_map, hk, ← hv]
  rfl
theorem g_putI (X : CallFix p m c cc nL s args gtbl own) (hT : GT D cI cZ s) (hq : gJ lay q) (hG : GH D cI cZ lay q s w H locs) {index ci k : Nat} (hF : FP own index ci k .int) (i : Nat) {fs : List gfd} (hi : lay[i]? = some (.inr (ci, fs))) {j : Nat} (hk : fs[k]? = some (0, j)) (hu : guB lay (0, j) i k = true) (hj : j < w.1.length) {x : Int32} {w' : gS} (hw : (w.1.set j x, w.2) = w') (hdg : decode cc pc = .ok (.putfield index, 3))
    (kk : ∀ (H : Heap) (locs : List Loc), GH D cI cZ lay q s w' H locs → W p l e R s m args below meth c H locs 0 0 Q (F0 m (pc + 3) ls rest)) : W p l e R s m args below meth c H locs 0 0 Q (F0 m pc ls (.int x :: .ref (q i) :: rest)) := by
  obtain ⟨hx, hb, hml, hown, hts⟩ := X
  obtain ⟨C, T, N, ty0, ⟨h1, h2, h3, h4⟩, h5, h6, h7, h8⟩ := hF
  have hl : k < (fs.map (gval q w)).length := by rw [List.length_map]; exact (List.getElem?_eq_some_iff.mp hk).1
  refine va_put (C := C) (T := T) (N := N) (v := .int x) (ty := .int) hx hb hts h2 ty0 h3 h4 hown hT.1 hG.1 (gD hq) hG.2 i (gw_at hi) h1 k h5 (hts _ h6) (fun _ h9 => h9) h7 (by rw [h3 k h5, h8]) rfl rfl hl hdg (fun H1 locs1 hP1 _ hS1 => ?_)
  rw [gw_setI hi hk hu hj, hw] at hP1
  exact kk H1 locs1 ⟨hP1, hS1⟩
theorem g_putJ (X : CallFix p m c cc nL s args gtbl own) (hT : GT D cI cZ s) (hq : gJ lay q) (hG : GH D cI cZ lay q s w H locs) {index ci k : Nat} (hF : FP own index ci k .long) (i : Nat) {fs : List gfd} (hi : lay[i]? = some (.inr (ci, fs))) {j : Nat} (hk : fs[k]? = some (2, j)) (hu : guB lay (2, j) i k = true) (hg : gkB lay = true) (hj : j < w.2.1.length) {x : Int64} {w' : gS} (hw : (w.1, w.2.1.set j x, w.2.2) = w') (hdg : decode cc pc = .ok (.putfield index, 3))
    (kk : ∀ (H : Heap) (locs : List Loc), GH D cI cZ lay q s w' H locs → W p l e R s m args below meth c H locs 0 0 Q (F0 m (pc + 3) ls rest)) : W p l e R s m args below meth c H locs 0 0 Q (F0 m pc ls (.long x :: .ref (q i) :: rest)) := by
  obtain ⟨hx, hb, hml, hown, hts⟩ := X
  obtain ⟨C, T, N, ty0, ⟨h1, h2, h3, h4⟩, h5, h6, h7, h8⟩ := hF
  have hl : k < (fs.map (gval q w)).length := by rw [List.length_map]; exact (List.getElem?_eq_some_iff.mp hk).1
  refine va_put (C := C) (T := T) (N := N) (v := .long x) (ty := .long) hx hb hts h2 ty0 h3 h4 hown hT.1 hG.1 (gD hq) hG.2 i (gw_at hi) h1 k h5 (hts _ h6) (fun _ h9 => h9) h7 (by rw [h3 k h5, h8]) rfl rfl hl hdg (fun H1 locs1 hP1 _ hS1 => ?_)
  rw [gw_setJ hi hk hu hg hj, hw] at hP1
  exact kk H1 locs1 ⟨hP1, hS1⟩
theorem g_ald (X : CallFix p m c cc nL s args gtbl own) (hT : GT D cI cZ s) (hG : GH D cI cZ lay q s w H locs) (i : Nat) {k n : Nat} (hi : lay[i]? = some (.inl (k, n, false))) {f : Nat → Int32} (hf : w.2.2.getD k (fun _ => 0) = f) {x : Int32} (hin : vp_in x n) (hdg : decode cc pc = .ok (.iaload, 1))
    (kk : W p l e R s m args below meth c H locs 0 0 Q (F0 m (pc + 1) ls (.int (f x.toNatClampNeg) :: rest))) : W p l e R s m args below meth c H locs 0 0 Q (F0 m pc ls (.int x :: .ref (q i) :: rest)) := by
  obtain ⟨hx, hb, hml, hown, hts⟩ := X
  subst hf
  exact va_iald hx hb hT.1 hG.1 i 0 (gw_at hi) rfl hin hdg kk
theorem g_zald (X : CallFix p m c cc nL s args gtbl own) (hT : GT D cI cZ s) (hG : GH D cI cZ lay q s w H locs) (i : Nat) {k n : Nat} (hi : lay[i]? = some (.inl (k, n, true))) {f : Nat → Int32} (hf : w.2.2.getD k (fun _ => 0) = f) {x : Int32} (hin : vp_in x n) (hdg : decode cc pc = .ok (.baload, 1))
    (kk : W p l e R s m args below meth c H locs 0 0 Q (F0 m (pc + 1) ls (.int (f x.toNatClampNeg) :: rest))) : W p l e R s m args below meth c H locs 0 0 Q (F0 m pc ls (.int x :: .ref (q i) :: rest)) := by
  obtain ⟨hx, hb, hml, hown, hts⟩ := X
  subst hf
  exact va_zald hx hb hT.1 hG.1 i 1 (gw_at hi) rfl hin hdg kk
theorem g_ast (X : CallFix p m c cc nL s args gtbl own) (hT : GT D cI cZ s) (hq : gJ lay q) (hG : GH D cI cZ lay q s w H locs) (i : Nat) {k n : Nat} (hi : lay[i]? = some (.inl (k, n, false))) (hu : gaB lay k i = true) (hk : k < w.2.2.length) {x y : Int32} (hin : vp_in x n) {w' : gS} (hw : (w.1, w.2.1, w.2.2.set k (upd (w.2.2.getD k (fun _ => 0)) x.toNatClampNeg y)) = w') (hdg : decode cc pc = .ok (.iastore, 1))
    (kk : ∀ (H : Heap) (locs : List Loc), GH D cI cZ lay q s w' H locs → W p l e R s m args below meth c H locs 0 0 Q (F0 m (pc + 1) ls rest)) : W p l e R s m args below meth c H locs 0 0 Q (F0 m pc ls (.int y :: .int x :: .ref (q i) :: rest)) := by
  obtain ⟨hx, hb, hml, hown, hts⟩ := X
  refine va_iast hx hb hT.1 hG.1 (gD hq) hG.2 i 0 (gw_at hi) rfl hin hdg (fun H1 locs1 hP1 _ hS1 => ?_)
  have e := gw_setA (cI := cI) (cZ := cZ) (q := q) (w := w) (f := upd (w.2.2.getD k (fun _ => 0)) x.toNatClampNeg y) hi hu hk
  rw [e, hw] at hP1
  exact kk H1 locs1 ⟨hP1, hS1⟩
theorem g_zast (X : CallFix p m c cc nL s args gtbl own) (hT : GT D cI cZ s) (hq : gJ lay q) (hG : GH D cI cZ lay q s w H locs) (i : Nat) {k n : Nat} (hi : lay[i]? = some (.inl (k, n, true))) (hu : gaB lay k i = true) (hk : k < w.2.2.length) {x y : Int32} (hin : vp_in x n) {w' : gS} (hw : (w.1, w.2.1, w.2.2.set k (upd (w.2.2.getD k (fun _ => 0)) x.toNatClampNeg (vp_nar .boolean y))) = w') (hdg : decode cc pc = .ok (.bastore, 1))
    (kk : ∀ (H : Heap) (locs : List Loc), GH D cI cZ lay q s w' H locs → W p l e R s m args below meth c H locs 0 0 Q (F0 m (pc + 1) ls rest)) : W p l e R s m args below meth c H locs 0 0 Q (F0 m pc ls (.int y :: .int x :: .ref (q i) :: rest)) := by
  obtain ⟨hx, hb, hml, hown, hts⟩ := X
  refine va_zast hx hb hT.1 hG.1 (gD hq) hG.2 i 1 (gw_at hi) rfl hin hdg (fun H1 locs1 hP1 _ hS1 => ?_)
  have e := gw_setA (cI := cI) (cZ := cZ) (q := q) (w := w) (f := upd (w.2.2.getD k (fun _ => 0)) x.toNatClampNeg (vp_nar .boolean y)) hi hu hk
  rw [e, hw] at hP1
  exact kk H1 locs1 ⟨hP1, hS1⟩
theorem g_alen (X : CallFix p m c cc nL s args gtbl own) (hT : GT D cI cZ s) (hG : GH D cI cZ lay q s w H locs) (i : Nat) {k n : Nat} (hi : lay[i]? = some (.inl (k, n, false))) {v : Int32} (hv : Int32.ofNat n = v) (hdg : decode cc pc = .ok (.arraylength, 1))
    (kk : W p l e R s m args below meth c H locs 0 0 Q (F0 m (pc + 1) ls (.int v :: rest))) : W p l e R s m args below meth c H locs 0 0 Q (F0 m pc ls (.ref (q i) :: rest)) := by
  obtain ⟨hx, hb, hml, hown, hts⟩ := X
  exact va_alen hx hb hT.1 hG.1 i 0 (gw_at hi) rfl hv hdg kk
/-! ends -/
theorem g_iret {v : Int32} {w' : gS} (X : CallFix p m c cc nL s args gtbl own) (hT : GT D cI cZ s) (hG : GH D cI cZ lay q s w' H locs) (hr : meth.sig.returnType = some .int) (hlk : meth.locks = false) (hdg : decode cc pc = .ok (.ireturn, 1)) :
    W p l e R s m args below meth c H locs 0 0 (MQ below (GQc D cI cZ lay q (some (.int v)) w') args s 0 0 (gA lay q)) (F0 m pc ls [.int v]) :=
  W.iret X.1 X.2.1 hr (fun t ht hW => ⟨rfl, by rw [ht]; exact hG.1, hG.2.F ht⟩) hG.2.2.2 hdg hlk
theorem g_zret {v : Int32} {w' : gS} (X : CallFix p m c cc nL s args gtbl own) (hT : GT D cI cZ s) (hG : GH D cI cZ lay q s w' H locs) (hr : meth.sig.returnType = some .boolean) (hlk : meth.locks = false) (hz : v = 0 ∨ v = 1) (hdg : decode cc pc = .ok (.ireturn, 1)) :
    W p l e R s m args below meth c H locs 0 0 (MQ below (GQc D cI cZ lay q (some (.int v)) w') args s 0 0 (gA lay q)) (F0 m pc ls [.int v]) :=
  W.zret X.1 X.2.1 hr (by rcases hz with rfl | rfl <;> decide) (fun t ht hW => ⟨rfl, by rw [ht]; exact hG.1, hG.2.F ht⟩) hG.2.2.2 hdg hlk
theorem g_lret {v : Int64} {w' : gS} (X : CallFix p m c cc nL s args gtbl own) (hT : GT D cI cZ s) (hG : GH D cI cZ lay q s w' H locs) (hr : meth.sig.returnType = some .long) (hlk : meth.locks = false) (hdg : decode cc pc = .ok (.lreturn, 1)) :
    W p l e R s m args below meth c H locs 0 0 (MQ below (GQc D cI cZ lay q (some (.long v)) w') args s 0 0 (gA lay q)) (F0 m pc ls [.long v]) :=
  W.lret X.1 X.2.1 hr (fun t ht hW => ⟨rfl, by rw [ht]; exact hG.1, hG.2.F ht⟩) hG.2.2.2 hdg hlk
theorem g_vret {w' : gS} (X : CallFix p m c cc nL s args gtbl own) (hT : GT D cI cZ s) (hG : GH D cI cZ lay q s w' H locs) (hr : meth.sig.returnType = none) (hlk : meth.locks = false) (hdg : decode cc pc = .ok (.return_, 1)) :
    W p l e R s m args below meth c H locs 0 0 (MQ below (GQc D cI cZ lay q none w') args s 0 0 (gA lay q)) (F0 m pc ls []) :=
  W.vret X.1 X.2.1 hr (fun t ht hW => ⟨rfl, by rw [ht]; exact hG.1, hG.2.F ht⟩) hG.2.2.2 hdg hlk
/-! calls -/
theorem g_run {st0 : List Value} {a : Array Value} {o : Option Value} {w' : gS} (hr : va_Run p l e R s m args below meth c H locs 0 0 0 0 (F0 m pc ls st0) rest (GQc D cI cZ lay q o w' a) (gA lay q)) (hG : GH D cI cZ lay q s w H locs)
    (kk : ∀ (H : Heap) (locs : List Loc), GH D cI cZ lay q s w' H locs → W p l e R s m args below meth c H locs 0 0 Q (F0 m (pc + 3) ls (o.toList ++ rest))) : W p l e R s m args below meth c H locs 0 0 Q (F0 m pc ls st0) := by
  have hS := hG.2
  intro T hT X
  obtain ⟨v, st₀, t, T', L, h0, X', hL, e1, e2, ⟨hv, hP1, hz, hk⟩, st⟩ := hr T hT X
  cases hv
  rw [h0] at hz hk
  obtain ⟨t2, a1, b1⟩ := kk T'.heap (locs ++ L) ⟨by rw [e1]; exact hP1, Nat.le_trans hS.1 (by rw [e1]; exact hz), fun q' h1 h2 => by rw [e1, hk q' (Nat.lt_of_lt_of_le h1 hS.1) h2]; exact hS.2.1 q' h1 h2, fun q' hq' => by
      rcases List.mem_append.mp hq' with h | h
      · exact hS.2.2 q' h
      · exact hL q' h⟩ T' rfl X'
  exact ⟨t2, st t2 a1, b1⟩
theorem g_blind {D : va_G} {cI cZ : ClassId} {lay : List gcl} {q : Nat → Nat} {av : List Value} {w : gS} : FrameBlind (GPc D cI cZ lay q av w) := fun _ _ _ _ h => ⟨h.1, h.2.1, h.2.2.calling⟩
theorem g_callV {st0 : List Value} {y : MethodName} {bytes : ByteArray} {maxL n fr lo index ci : Nat} {ret : Option FieldType} {o : Option Value} {w' : gS} {fs : List gfd} {r : vw_C} (As rest : List Value) (i : Nat) (X : CallFix p m c cc nL s args gtbl own) (hT : GT D cI cZ s) (hG : GH D cI cZ lay q s w H locs) (hL : ML own index y bytes maxL ret n) (hM : GM l y bytes maxL ret fr lo D cI cZ lay q (.ref (q i) :: As) w o w')
    (hi : lay[i]? = some (.inr (ci, fs))) (hc : vwCl[ci]? = some r) (hy : r.1 = y.cls) (hst : st0 = As.reverse ++ .ref (q i) :: rest) (hn : As.length = n) (hsz : ls.size = nL) (hW : (rest.map fun v => v.category).sum ≤ 8) (hR : fr + 1 ≤ R.frames ∧ 8 + (maxL + 11) + lo ≤ R.locals) (hdg : decode cc pc = .ok (.invokevirtual index, 3))
    (kk : ∀ (H : Heap) (locs : List Loc), GH D cI cZ lay q s w' H locs → W p l e R s m args below meth c H locs 0 0 Q (F0 m (pc + 3) ls (o.toList ++ rest))) : W p l e R s m args below meth c H locs 0 0 Q (F0 m pc ls st0) := by
  obtain ⟨m1, m2, m3, m4, m5, m6, m7, m8⟩ := hL
  have hts := X.2.2.2.2
  refine g_run (a := (Value.ref (q i) :: As).toArray) (rest := rest) (o := o) (w' := w') ?_ hG kk
  refine va_runV (As := As) (rest := rest) (n := n) (C := y.cls) X hM ⟨callB_of n hts (tbI' m5) rfl rfl rfl (hts _ m4) (hts _ m1) ⟨m6, m7, m8⟩ hR, hts _ m2, hts _ m3⟩ ⟨g_blind, ?_, fun U hU hW => ⟨rfl, by rw [hU]; exact hG.1, hT.warm hW⟩⟩ rfl hn hsz hst (lv_room hW) hdg ⟨Nat.zero_le _, Nat.zero_le _⟩
  obtain ⟨cell, a1, a2, a3⟩ := va_recv hT.1 hG.1 hc (gw_at hi)
  exact ⟨cell, a1, a2, by rw [← hy]; exact a3⟩
theorem g_callS {st0 : List Value} {y : MethodName} {bytes : ByteArray} {maxL n fr lo index : Nat} {ret : Option FieldType} {o : Option Value} {w' : gS} (As rest : List Value) (X : CallFix p m c cc nL s args gtbl own) (hT : GT D cI cZ s) (hG : GH D cI cZ lay q s w H locs) (hL : MLs own index y bytes maxL ret n) (hM : GM l y bytes maxL ret fr lo D cI cZ lay q As w o w')
    (hst : st0 = As.reverse ++ rest) (hn : As.length = n) (hsz : ls.size = nL) (hW : (rest.map fun v => v.category).sum ≤ 8) (hR : fr + 1 ≤ R.frames ∧ 8 + (maxL + 11) + lo ≤ R.locals) (hdg : decode cc pc = .ok (.invokestatic index, 3))
    (kk : ∀ (H : Heap) (locs : List Loc), GH D cI cZ lay q s w' H locs → W p l e R s m args below meth c H locs 0 0 Q (F0 m (pc + 3) ls (o.toList ++ rest))) : W p l e R s m args below meth c H locs 0 0 Q (F0 m pc ls st0) := by
  obtain ⟨m1, m2, m4, m5, m6, m7, m8⟩ := hL
  have hts := X.2.2.2.2
  refine g_run (a := As.toArray) (rest := rest) (o := o) (w' := w') ?_ hG kk
  exact va_runS (As := As) (rest := rest) (n := n) X hM ⟨callB_of n hts (tbI' m5) rfl rfl rfl (hts _ m4) (hts _ m1) ⟨m6, m7, m8⟩ hR, hts _ m2⟩ ⟨g_blind, fun U hU hW => ⟨rfl, by rw [hU]; exact hG.1, hT.warm hW⟩⟩ rfl hn hsz hst (lv_room hW) hdg ⟨Nat.zero_le _, Nat.zero_le _⟩
/-- the one static call among nest mates -/
theorem g_callSN {st0 : List Value} {y : MethodName} {bytes : ByteArray} {maxL n fr lo index : Nat} {ret : Option FieldType} {o : Option Value} {w' : gS} {host : String} (As rest : List Value) (X : CallFix p m c cc nL s args gtbl own) (hT : GT D cI cZ s) (hG : GH D cI cZ lay q s w H locs) (hN : va_Nw (.methodLinkNest own index y host) s) (hL : Cond.static y ∈ gtbl ∧ Cond.initialized y.cls ∈ gtbl ∧ Cond.code y bytes maxL ret ∈ gtbl ∧ y.cls ≠ "java/lang/invoke/MethodHandle" ∧ y.cls ≠ "java/lang/invoke/VarHandle" ∧ (parseMethodDescriptor y.desc).map (fun d => d.parameters.length) = some n) (hM : GM l y bytes maxL ret fr lo D cI cZ lay q As w o w')
    (hst : st0 = As.reverse ++ rest) (hn : As.length = n) (hsz : ls.size = nL) (hW : (rest.map fun v => v.category).sum ≤ 8) (hR : fr + 1 ≤ R.frames ∧ 8 + (maxL + 11) + lo ≤ R.locals) (hdg : decode cc pc = .ok (.invokestatic index, 3))
    (kk : ∀ (H : Heap) (locs : List Loc), GH D cI cZ lay q s w' H locs → W p l e R s m args below meth c H locs 0 0 Q (F0 m (pc + 3) ls (o.toList ++ rest))) : W p l e R s m args below meth c H locs 0 0 Q (F0 m pc ls st0) := by
  obtain ⟨m2, m4, m5, m6, m7, m8⟩ := hL
  have hts := X.2.2.2.2
  refine g_run (a := As.toArray) (rest := rest) (o := o) (w' := w') ?_ hG kk
  exact va_runSN (As := As) (rest := rest) (n := n) X hM ⟨va_cnB n hts (tbI' m5) rfl rfl rfl hN (hts _ m4) ⟨m6, m7, m8⟩ hR, hts _ m2, trivial⟩ ⟨g_blind, fun U hU hW => ⟨rfl, by rw [hU]; exact hG.1, hT.warm hW⟩⟩ rfl hn hsz hst (lv_room hW) hdg ⟨Nat.zero_le _, Nat.zero_le _⟩
end GR
/-! What a method computes, as a function that may answer none (an index outside, a divisor 0, no fuel left) -/
def ckin {α : Type} (i : Int32) (n : Nat) (k : Option α) : Option α := if ¬ (i < 0 ∨ n ≤ i.toNatClampNeg) then k else none
theorem ckin_some {α : Type} {i : Int32} {n : Nat} {k : Option α} {o : α} (h : ckin i n k = some o) : vp_in i n ∧ k = some o := by
  unfold ckin at h
  split at h
  · rename_i h1; exact ⟨h1, h⟩
  · cases h
theorem ckin_in {α : Type} {i : Int32} {n : Nat} {k : Option α} (h : vp_in i n) : ckin i n k = k := if_pos h
def ckz {α : Type} (y : Int32) (k : Option α) : Option α := if y = 0 then none else k
theorem ckz_some {α : Type} {y : Int32} {k : Option α} {o : α} (h : ckz y k = some o) : ¬ y = 0 ∧ k = some o := by
  unfold ckz at h
  split at h
  · cases h
  · rename_i h1; exact ⟨h1, h⟩
def ckb {α : Type} (y : Int32) (k : Option α) : Option α := if y = 0 ∨ y = 1 then k else none
theorem ckb_some {α : Type} {y : Int32} {k : Option α} {o : α} (h : ckb y k = some o) : (y = 0 ∨ y = 1) ∧ k = some o := by
  unfold ckb at h
  split at h
  · rename_i h1; exact ⟨h1, h⟩
  · cases h
def ckp {α : Type} (c : Prop) [Decidable c] (k : Option α) : Option α := if c then k else none
theorem ckp_some {α : Type} {c : Prop} [Decidable c] {k : Option α} {o : α} (h : ckp c k = some o) : c ∧ k = some o := by
  unfold ckp at h
  split at h
  · rename_i h1; exact ⟨h1, h⟩
  · cases h
def bd {α β : Type} (x : α) (f : α → β) : β := f x
theorem bd_e {α β : Type} {e v : α} {f : α → Option β} {o : β} (ev : v = e) (h : bd e f = some o) : f v = some o := by rw [ev]; exact h
theorem ite_t {c : Prop} [Decidable c] {α : Type} {a b : Option α} {o : α} (hc : c) (h : (if c then a else b) = some o) : a = some o := by rw [if_pos hc] at h; exact h
theorem ite_f {c : Prop} [Decidable c] {α : Type} {a b : Option α} {o : α} (hc : ¬ c) (h : (if c then a else b) = some o) : b = some o := by rw [if_neg hc] at h; exact h
def bnd1 {α γ : Type} (x : Option α) (f : α → Option γ) : Option γ := x.bind f
def bnd2 {α β γ : Type} (x : Option (α × β)) (f : α → β → Option γ) : Option γ := x.bind fun z => f z.1 z.2
def bnd3 {α β δ γ : Type} (x : Option (α × β × δ)) (f : α → β → δ → Option γ) : Option γ := x.bind fun z => f z.1 z.2.1 z.2.2
def bnd4 {α β δ ε γ : Type} (x : Option (α × β × δ × ε)) (f : α → β → δ → ε → Option γ) : Option γ := x.bind fun z => f z.1 z.2.1 z.2.2.1 z.2.2.2
def bnd5 {α β δ ε ζ γ : Type} (x : Option (α × β × δ × ε × ζ)) (f : α → β → δ → ε → ζ → Option γ) : Option γ := x.bind fun z => f z.1 z.2.1 z.2.2.1 z.2.2.2.1 z.2.2.2.2
def bnd6 {α β δ ε ζ η γ : Type} (x : Option (α × β × δ × ε × ζ × η)) (f : α → β → δ → ε → ζ → η → Option γ) : Option γ := x.bind fun z => f z.1 z.2.1 z.2.2.1 z.2.2.2.1 z.2.2.2.2.1 z.2.2.2.2.2
def bnd7 {α β δ ε ζ η θ γ : Type} (x : Option (α × β × δ × ε × ζ × η × θ)) (f : α → β → δ → ε → ζ → η → θ → Option γ) : Option γ := x.bind fun z => f z.1 z.2.1 z.2.2.1 z.2.2.2.1 z.2.2.2.2.1 z.2.2.2.2.2.1 z.2.2.2.2.2.2
def bnd8 {α β δ ε ζ η θ ι γ : Type} (x : Option (α × β × δ × ε × ζ × η × θ × ι)) (f : α → β → δ → ε → ζ → η → θ → ι → Option γ) : Option γ := x.bind fun z => f z.1 z.2.1 z.2.2.1 z.2.2.2.1 z.2.2.2.2.1 z.2.2.2.2.2.1 z.2.2.2.2.2.2.1 z.2.2.2.2.2.2.2
def bnd9 {α β δ ε ζ η θ ι κ γ : Type} (x : Option (α × β × δ × ε × ζ × η × θ × ι × κ)) (f : α → β → δ → ε → ζ → η → θ → ι → κ → Option γ) : Option γ := x.bind fun z => f z.1 z.2.1 z.2.2.1 z.2.2.2.1 z.2.2.2.2.1 z.2.2.2.2.2.1 z.2.2.2.2.2.2.1 z.2.2.2.2.2.2.2.1 z.2.2.2.2.2.2.2.2
theorem bnd1_some {α γ : Type} {x : Option α} {f : α → Option γ} {o : γ} (h : bnd1 x f = some o) : ∃ a, x = some a ∧ f a = some o := by
  cases x with
  | none => cases h
  | some z => exact ⟨_, rfl, h⟩
theorem bnd2_some {α β γ : Type} {x : Option (α × β)} {f : α → β → Option γ} {o : γ} (h : bnd2 x f = some o) : ∃ a b, x = some (a, b) ∧ f a b = some o := by
  cases x with
  | none => cases h
  | some z => exact ⟨_, _, rfl, h⟩
theorem bnd3_some {α β δ γ : Type} {x : Option (α × β × δ)} {f : α → β → δ → Option γ} {o : γ} (h : bnd3 x f = some o) : ∃ a b d, x = some (a, b, d) ∧ f a b d = some o := by
  cases x with
  | none => cases h
  | some z => exact ⟨_, _, _, rfl, h⟩
theorem bnd4_some {α β δ ε γ : Type} {x : Option (α × β × δ × ε)} {f : α → β → δ → ε → Option γ} {o : γ} (h : bnd4 x f = some o) : ∃ a b d e, x = some (a, b, d, e) ∧ f a b d e = some o := by
  cases x with
  | none => cases h
  | some z => exact ⟨_, _, _, _, rfl, h⟩
theorem bnd5_some {α β δ ε ζ γ : Type} {x : Option (α × β × δ × ε × ζ)} {f : α → β → δ → ε → ζ → Option γ} {o : γ} (h : bnd5 x f = some o) : ∃ a b d e g, x = some (a, b, d, e, g) ∧ f a b d e g = some o := by
  cases x with
  | none => cases h
  | some z => exact ⟨_, _, _, _, _, rfl, h⟩
theorem bnd6_some {α β δ ε ζ η γ : Type} {x : Option (α × β × δ × ε × ζ × η)} {f : α → β → δ → ε → ζ → η → Option γ} {o : γ} (h : bnd6 x f = some o) : ∃ a b d e g i, x = some (a, b, d, e, g, i) ∧ f a b d e g i = some o := by
  cases x with
  | none => cases h
  | some z => exact ⟨_, _, _, _, _, _, rfl, h⟩
theorem bnd7_some {α β δ ε ζ η θ γ : Type} {x : Option (α × β × δ × ε × ζ × η × θ)} {f : α → β → δ → ε → ζ → η → θ → Option γ} {o : γ} (h : bnd7 x f = some o) : ∃ a b d e g i j, x = some (a, b, d, e, g, i, j) ∧ f a b d e g i j = some o := by
  cases x with
  | none => cases h
  | some z => exact ⟨_, _, _, _, _, _, _, rfl, h⟩
theorem bnd8_some {α β δ ε ζ η θ ι γ : Type} {x : Option (α × β × δ × ε × ζ × η × θ × ι)} {f : α → β → δ → ε → ζ → η → θ → ι → Option γ} {o : γ} (h : bnd8 x f = some o) : ∃ a b d e g i j k, x = some (a, b, d, e, g, i, j, k) ∧ f a b d e g i j k = some o := by
  cases x with
  | none => cases h
  | some z => exact ⟨_, _, _, _, _, _, _, _, rfl, h⟩
theorem bnd9_some {α β δ ε ζ η θ ι κ γ : Type} {x : Option (α × β × δ × ε × ζ × η × θ × ι × κ)} {f : α → β → δ → ε → ζ → η → θ → ι → κ → Option γ} {o : γ} (h : bnd9 x f = some o) : ∃ a b d e g i j k m, x = some (a, b, d, e, g, i, j, k, m) ∧ f a b d e g i j k m = some o := by
  cases x with
  | none => cases h
  | some z => exact ⟨_, _, _, _, _, _, _, _, _, rfl, h⟩
/-- a loop: its body goes on with a new state (inl) or leaves (inr); the fuel ends it -/
def lpG {σ ρ : Type} (b : σ → Option (σ ⊕ ρ)) : Nat → σ → Option ρ
  | 0, _ => none
  | n + 1, x => match b x with
    | none => none
    | some (.inl y) => lpG b n y
    | some (.inr o) => some o
theorem lpG_W {σ ρ : Type} {b : σ → Option (σ ⊕ ρ)} {out : ρ} (Wh : σ → Prop) (hs : ∀ (x : σ) (r : σ ⊕ ρ), b x = some r → (∀ y, r = .inl y → Wh y) → (∀ o, r = .inr o → o = out) → Wh x) : ∀ (n : Nat) (x : σ), lpG b n x = some out → Wh x
  | 0, _, h => by cases h
  | n + 1, x, h => by
    unfold lpG at h
    cases hb : b x with
    | none => rw [hb] at h; cases h
    | some r =>
      rw [hb] at h
      refine hs x r hb (fun y hy => ?_) (fun o ho => ?_)
      · subst hy
        exact lpG_W Wh hs n y h
      · subst ho
        exact Option.some.inj h
