/-! constructors: worlds that grow -/
def nwl : List Cond := [.methodLinkNest RX7 9 yX4_init RX7, .methodLinkNest RX7 18 yX3_init RX7, .methodLinkNest RX3 23 yX1_init RX7, .methodLinkNest RX7 25 yX2_init RX7, .methodLinkNest RX2 11 yX1_init RX7, .methodLinkNest RX7 32 yX0_init RX7, .methodLinkNest RX0 11 yX1_init RX7, .methodLinkNest RX7 39 yX6_init RX7, .methodLinkNest RX6 11 yX1_init RX7, .methodLinkNest RX5 20 yX1_init RX7]
def GN (D : va_G) (cI cZ : ClassId) (s : State) : Prop := GT D cI cZ s ∧ ∀ w ∈ nwl, va_Nw w s
theorem nwl_all {P : Cond → Prop} (h : ∀ own i y, P (.methodLinkNest own i y RX7)) : ∀ w ∈ nwl, P w := by
  simp only [nwl, List.forall_mem_cons, List.not_mem_nil, false_imp_iff, implies_true, and_true]
  exact ⟨h _ _ _, h _ _ _, h _ _ _, h _ _ _, h _ _ _, h _ _ _, h _ _ _, h _ _ _, h _ _ _, h _ _ _⟩
theorem GN.warm {D : va_G} {cI cZ : ClassId} {s U : State} (hW : s.WarmedH U.vm) (h : GN D cI cZ s) : GN D cI cZ U := ⟨h.1.warm hW, fun w hw => (nwl_all (P := fun w => va_Nw w s → va_Nw w U) (fun _ _ _ => va_Nw.warmM hW) w hw) (h.2 w hw)⟩
theorem GN.calling {D : va_G} {cI cZ : ClassId} {U : State} {g : JFrame} {mk : MethodId} {a : Array Value} (h : GN D cI cZ U) : GN D cI cZ (U.calling g mk a) := ⟨h.1.calling, fun w hw => (nwl_all (P := fun w => va_Nw w U → va_Nw w (U.calling g mk a)) (fun _ _ _ q => va_Nw.same (U := U.calling g mk a) rfl rfl q) w hw) (h.2 w hw)⟩
def KPc (D : va_G) (cI cZ : ClassId) (h0 sz : Nat) (w0 : va_W) : Array Value → State → Prop := va_Pc [.ref h0] (fun U => U.heap.size = sz ∧ va_P D vwCl w0 U.heap ∧ GN D cI cZ U ∧ va_D (fun _ => True) w0)
def KQc (D : va_G) (sz : Nat) (w0 : va_W) (wo : (Nat → Nat) → va_W) : Array Value → State → Outcome → State → Prop := va_Qv (fun _ : Nat → Nat => True) (fun u t => va_P D vwCl (wo u) t.heap ∧ va_D (va_A w0 sz) (wo u)) (va_A w0 sz)
/-- a constructor's contract: from the world w0 (its own cell) to the world 'wo u', u the new cells' addresses -/
def KM (l : Launch) (y : MethodName) (cc : ByteArray) (fr lo mc ms : Nat) (D : va_G) (cI cZ : ClassId) (h0 : Nat) (w0 : va_W) (wo : (Nat → Nat) → va_W) : Prop :=
  ∀ sz : Nat, Met l y (Cond.code y cc 1 none :: gtbl) { frames := fr, cells := mc, slots := ms, locals := lo } (KPc D cI cZ h0 sz w0) (KQc D sz w0 wo) mc ms (va_A w0 sz)
theorem KM.go {l : Launch} {y : MethodName} {cc : ByteArray} {fr lo mc ms : Nat} {D : va_G} {cI cZ : ClassId} {h0 : Nat} {w0 : va_W} {wo : (Nat → Nat) → va_W} (own : String) (hy : plainName y.cls = true) (hC : y.cls = own) (hN : y.name = "<init>")
    (body : ∀ (p : Program) (e : Env) (s : State) (m : MethodId) (args : Array Value) (below : List Frame) (meth : Method) (c : Code) (ls : Array Slot) (R : Room) (Q : State → Prop) (A : Nat → Prop), CallFix p m c cc 1 s args gtbl own → meth.name = "<init>" → GN D cI cZ s → va_P D vwCl w0 s.heap → va_D A w0 → (∀ q : Nat, s.heap.size ≤ q → A q) → va_S A s.heap s.heap [] → lv_has ls 1 [(0, .ref h0)] →
      R = { frames := fr, cells := mc, slots := ms, locals := lo } → (∀ (u : Nat → Nat) (H : Heap) (locs : List Loc) (ls : Array Slot) (pc : Nat), va_P D vwCl (wo u) H → va_D A (wo u) → va_S A s.heap H locs → decode cc pc = .ok (.return_, 1) → W p l e R s m args below meth c H locs mc ms Q (F0 m pc ls [])) → W p l e R s m args below meth c s.heap [] 0 0 Q (F0 m 0 ls [])) : KM l y cc fr lo mc ms D cI cZ h0 w0 wo := by
  intro sz
  refine Met.ofW (cc := cc) (maxL := 1) (ret := none) hy rfl ?_
  intro p e s m args below meth c s₁ B hml hv
  obtain ⟨rfl, hsz, hP, hK, hD0⟩ := hv
  have hts := atoms_spec (ws := Cond.code y cc 1 none :: gtbl) B.pre
  have hown : s.vm.findClass own = some m.cls := hC ▸ findClass_of_methodNamed B.named
  have hin : meth.name = "<init>" := (name_of_methodNamed B.named B.method).1.trans hN
  subst hsz
  have hD := hD0.self (sz := s.heap.size)
  have hl := lv_entry ([.ref h0]) (n := 1) (Nat.le_of_ble_eq_true rfl)
  have hr := B.returns
  have hlk := B.notSynchronized
  rw [lg_entry_eq]
  refine body p e s m _ below meth c _ _ _ (va_A w0 s.heap.size) ⟨B.exec, B.bytes, hml, hown, fun w h => hts w (List.mem_cons_of_mem _ h)⟩ hin hK hP hD (fun q h => Or.inr h) va_S.rf hl rfl ?_
  intro u H locs ls pc hP hD hS hdg
  exact W.vret B.exec B.bytes hr (fun t ht hW => ⟨⟨u, rfl, trivial, by rw [ht]; exact hP, hD⟩, hS.F ht⟩) hS.2.2 hdg hlk
def FF (own : String) (index ci k : Nat) (ty : FieldType) : Prop := ∃ (C : String) (T : u_T) (N : Nat) (ty0 : Nat → FieldType), FLD ci C T N ty0 ∧ k < N ∧ Cond.fieldLink own index (T k).1 (T k).2.1 (T k).2.2.1 ∈ gtbl ∧ (T k).2.2.2 = true ∧ (T k).1 = own ∧ ty0 k = ty ∧ ∀ a : Nat, narrow ty (.ref a) = .ref a ∧ fits ty (.ref a) = true
/-- a class that is made: its fields' first values -/
def NWC (own : String) (index ci N : Nat) (fs : List Value) : Prop := ∃ (C : String) (T : u_T) (ty0 : Nat → FieldType), FLD ci C T N ty0 ∧ Cond.classLink own index C ∈ gtbl ∧ Cond.instantiable C N ∈ gtbl ∧ Cond.initialized C ∈ gtbl ∧ ∀ j, j < N → defaultValue (ty0 j) = vp_V fs j
section KR
variable {p : Program} {l : Launch} {e : Env} {R : Room} {s : State} {m : MethodId} {args : Array Value} {below : List Frame} {meth : Method} {c : Code} {H : Heap} {locs : List Loc} {cells slots : Nat} {Q : State → Prop}
variable {cc : ByteArray} {pc nL : Nat} {ls : Array Slot} {rest : List Value} {own : String} {D : va_G} {cI cZ : ClassId} {A : Nat → Prop} {ws : va_W}
theorem k_obj (X : CallFix p m c cc nL s args gtbl own) {index : Nat} {h0 : Nat} (hL : Cond.methodLink own index objectInit ∈ gtbl ∧ Cond.instanceMethod objectInit ∈ gtbl ∧ Cond.code objectInit ⟨#[0xb1]⟩ 1 none ∈ gtbl) (hsz : ls.size = nL) (hf : 1 ≤ R.frames) (hlo : (rest.map fun v => v.category).sum + 12 ≤ R.locals) (hdg : decode cc pc = .ok (.invokespecial index, 3))
    (kk : W p l e R s m args below meth c H locs cells slots Q (F0 m (pc + 3) ls rest)) : W p l e R s m args below meth c H locs cells slots Q (F0 m pc ls (.ref h0 :: rest)) := by
  obtain ⟨hx, hb, hml, hown, hts⟩ := X
  exact W.objInit hx hb hown (hts _ hL.1) (hts _ hL.2.1) (hts _ hL.2.2) rfl (hsz.trans hml.symm) rfl hdg hf (by show 2 * 0 + _ + 12 ≤ _; omega) kk
theorem k_newaI (X : CallFix p m c cc nL s args gtbl own) (hT : GN D cI cZ s) (hP : va_P D vwCl ws H) (hD : va_D A ws) (hS : va_S A s.heap H locs) (hA : ∀ q, s.heap.size ≤ q → A q) (hw : Cond.arrayClass .int ∈ gtbl) {n : Int32} {N : Nat} (hn : ¬ n < 0) (hN : n.toNatClampNeg = N) (hby : N * componentBytes .int ≤ 536870912) (hc : cells + 1 ≤ R.cells) (hs : slots + N ≤ R.slots) (hdg : decode cc pc = .ok (.newarray .int, 2))
    (kk : ∀ (q : Nat) (H : Heap), va_P D vwCl (ws ++ [(q, .inl (cI, N, .inl (fun _ => 0)))]) H → va_D A (ws ++ [(q, .inl (cI, N, .inl (fun _ => 0)))]) → va_S A s.heap H locs → W p l e R s m args below meth c H locs (cells + 1) (slots + N) Q (F0 m (pc + 2) ls (.ref q :: rest))) : W p l e R s m args below meth c H locs cells slots Q (F0 m pc ls (.int n :: rest)) := by
  obtain ⟨hx, hb, hml, hown, hts⟩ := X
  refine va_newa (atype := .int) (ty := .int) (a0 := (N, .inl (fun _ => 0))) hx hb (hts _ hw) rfl hT.1.1 hP hD hS hA (fun _ => rfl) hn hN hby hc hs hdg (fun q cA H1 hK1 hP1 hD1 hS1 => ?_)
  have h1 : s.vm.findClass ("[" ++ FieldType.int.toString) = some cI := (hT.1.1.2 0 _ rfl).2
  have h2 : s.vm.findClass ("[" ++ FieldType.int.toString) = some cA := (hK1.2 2 (cA, .int) rfl).2
  have h3 : cA = cI := Option.some.inj (h2.symm.trans h1)
  subst h3
  exact kk q H1 hP1 hD1 hS1
theorem k_newaZ (X : CallFix p m c cc nL s args gtbl own) (hT : GN D cI cZ s) (hP : va_P D vwCl ws H) (hD : va_D A ws) (hS : va_S A s.heap H locs) (hA : ∀ q, s.heap.size ≤ q → A q) (hw : Cond.arrayClass .boolean ∈ gtbl) {n : Int32} {N : Nat} (hn : ¬ n < 0) (hN : n.toNatClampNeg = N) (hby : N * componentBytes .boolean ≤ 536870912) (hc : cells + 1 ≤ R.cells) (hs : slots + N ≤ R.slots) (hdg : decode cc pc = .ok (.newarray .boolean, 2))
    (kk : ∀ (q : Nat) (H : Heap), va_P D vwCl (ws ++ [(q, .inl (cZ, N, .inl (fun _ => 0)))]) H → va_D A (ws ++ [(q, .inl (cZ, N, .inl (fun _ => 0)))]) → va_S A s.heap H locs → W p l e R s m args below meth c H locs (cells + 1) (slots + N) Q (F0 m (pc + 2) ls (.ref q :: rest))) : W p l e R s m args below meth c H locs cells slots Q (F0 m pc ls (.int n :: rest)) := by
  obtain ⟨hx, hb, hml, hown, hts⟩ := X
  refine va_newa (atype := .boolean) (ty := .boolean) (a0 := (N, .inl (fun _ => 0))) hx hb (hts _ hw) rfl hT.1.1 hP hD hS hA (fun _ => rfl) hn hN hby hc hs hdg (fun q cA H1 hK1 hP1 hD1 hS1 => ?_)
  have h1 : s.vm.findClass ("[" ++ FieldType.boolean.toString) = some cZ := (hT.1.1.2 1 _ rfl).2
  have h2 : s.vm.findClass ("[" ++ FieldType.boolean.toString) = some cA := (hK1.2 2 (cA, .boolean) rfl).2
  have h3 : cA = cZ := Option.some.inj (h2.symm.trans h1)
  subst h3
  exact kk q H1 hP1 hD1 hS1
theorem k_new (X : CallFix p m c cc nL s args gtbl own) (hT : GN D cI cZ s) (hP : va_P D vwCl ws H) (hD : va_D A ws) (hS : va_S A s.heap H locs) (hA : ∀ q, s.heap.size ≤ q → A q) {index ci N : Nat} {fs : List Value} (hN : NWC own index ci N fs) (hc : cells + 1 ≤ R.cells) (hs : slots + N ≤ R.slots) (hdg : decode cc pc = .ok (.new index, 3))
    (kk : ∀ (q : Nat) (H : Heap), va_P D vwCl (ws ++ [(q, .inr (ci, fs))]) H → va_D A (ws ++ [(q, .inr (ci, fs))]) → va_S A s.heap H locs → W p l e R s m args below meth c H locs (cells + 1) (slots + N) Q (F0 m (pc + 3) ls (.ref q :: rest))) : W p l e R s m args below meth c H locs cells slots Q (F0 m pc ls rest) := by
  obtain ⟨hx, hb, hml, hown, hts⟩ := X
  obtain ⟨C, T, ty0, ⟨h1, h2, h3, h4⟩, h5, h6, h7, h8⟩ := hN
  exact va_new (C := C) (T := T) (N := N) hx hb hts h2 ty0 h3 hown (hts _ h5) (hts _ h6) (hts _ h7) hT.1.1 hP hD hS hA h1 h8 hc hs hdg kk
theorem k_putF (X : CallFix p m c cc nL s args gtbl own) (hin : meth.name = "<init>") (hT : GN D cI cZ s) (hP : va_P D vwCl ws H) (hD : va_D A ws) (hS : va_S A s.heap H locs) {index ci k : Nat} {ty : FieldType} (hF : FF own index ci k ty) (i : Nat) {a v : Nat} {fs : List Value} (hi : ws[i]? = some (a, .inr (ci, fs))) (hl : k < fs.length) {ws' : va_W} (hw : ws.set i (a, .inr (ci, fs.set k (.ref v))) = ws') (hdg : decode cc pc = .ok (.putfield index, 3))
    (kk : ∀ (H : Heap) (locs : List Loc), va_P D vwCl ws' H → va_D A ws' → va_S A s.heap H locs → W p l e R s m args below meth c H locs cells slots Q (F0 m (pc + 3) ls rest)) : W p l e R s m args below meth c H locs cells slots Q (F0 m pc ls (.ref v :: .ref a :: rest)) := by
  obtain ⟨hx, hb, hml, hown, hts⟩ := X
  obtain ⟨C, T, N, ty0, ⟨h1, h2, h3, h4⟩, h5, h6, h7, h8, h9, h10⟩ := hF
  subst hw
  exact va_putF (C := C) (T := T) (N := N) (v := .ref v) (ty := ty) hx hb hts h2 ty0 h3 h4 hown hT.1.1 hP hD hS i hi h1 k h5 (hts _ h6) (fun _ h9 => h9) h7 hin h8 (by rw [h3 k h5, h9]) (h10 v).1 (h10 v).2 hl hdg kk
theorem k_get (X : CallFix p m c cc nL s args gtbl own) (hT : GN D cI cZ s) (hP : va_P D vwCl ws H) {index ci k : Nat} (hF : FL own index ci k) (i : Nat) {a : Nat} {fs : List Value} (hi : ws[i]? = some (a, .inr (ci, fs))) {v : Value} (hv : fs[k]? = some v) (hdg : decode cc pc = .ok (.getfield index, 3))
    (kk : W p l e R s m args below meth c H locs cells slots Q (F0 m (pc + 3) ls (v :: rest))) : W p l e R s m args below meth c H locs cells slots Q (F0 m pc ls (.ref a :: rest)) := by
  obtain ⟨hx, hb, hml, hown, hts⟩ := X
  obtain ⟨C, T, N, ty0, ⟨h1, h2, h3, h4⟩, h5, h6⟩ := hF
  exact va_get (C := C) (T := T) (N := N) hx hb hts h2 hown hT.1.1 hP i hi h1 k h5 (hts _ h6) (fun _ h9 => h9) hv hdg kk
theorem k_blind {h0 sz : Nat} {w0 : va_W} : FrameBlind (KPc D cI cZ h0 sz w0) := fun _ _ _ _ h => ⟨h.1, h.2.1, h.2.2.1, h.2.2.2.1.calling, h.2.2.2.2⟩
theorem k_after {a : Array Value} {w0 wr : va_W} {wo : (Nat → Nat) → va_W} {mc ms : Nat} {st0 : List Value} (hr : va_Run p l e R s m args below meth c H locs cells slots mc ms (F0 m pc ls st0) rest (KQc D H.size w0 wo a) (va_A w0 H.size)) (hP : va_P D vwCl ws H) (hD : va_D A ws) (hS : va_S A s.heap H locs) (hA : ∀ q, s.heap.size ≤ q → A q) (isC isR : List Nat) (hC : isC.map (fun i => ws[i]?) = w0.map some) (hR : isR.map (fun i => ws[i]?) = wr.map some) (hn : va_nd isR = true) (hdis : ∀ i ∈ isR, i ∉ isC)
    (kk : ∀ (u : Nat → Nat) (H : Heap) (locs : List Loc), va_P D vwCl (wr ++ wo u) H → va_D A (wr ++ wo u) → va_S A s.heap H locs → W p l e R s m args below meth c H locs (cells + mc) (slots + ms) Q (F0 m (pc + 3) ls rest)) : W p l e R s m args below meth c H locs cells slots Q (F0 m pc ls st0) := by
  have hFc := va_free (wc := w0) hD hS hA isC hC
  refine va_callv hr hS (fun q _ h => hFc q h) hFc (fun u t H1 locs1 ht hvm hw hB hz1 hk1 hS1 => ?_)
  obtain ⟨hP1, hD1⟩ := hB
  rw [ht] at hP1
  obtain ⟨hP2, hD2⟩ := va_join (wr := wr) hP hD isC isR hC hR hn hdis hk1 hFc hP1 hD1
  exact kk u H1 locs1 hP2 hD2 hS1
/-- a nest mate's constructor -/
theorem k_callN {y : MethodName} {bytes : ByteArray} {fr lo mc ms index h0 : Nat} {w0 wr : va_W} {wo : (Nat → Nat) → va_W} (isC isR : List Nat) (X : CallFix p m c cc nL s args gtbl own) (hT : GN D cI cZ s) (hP : va_P D vwCl ws H) (hD : va_D A ws) (hS : va_S A s.heap H locs) (hA : ∀ q, s.heap.size ≤ q → A q) (hM : KM l y bytes fr lo mc ms D cI cZ h0 w0 wo) (hN : Cond.methodLinkNest own index y RX7 ∈ nwl)
    (hL : Cond.instanceMethod y ∈ gtbl ∧ Cond.initialized y.cls ∈ gtbl ∧ Cond.code y bytes 1 none ∈ gtbl ∧ y.cls ≠ "java/lang/invoke/MethodHandle" ∧ y.cls ≠ "java/lang/invoke/VarHandle" ∧ (parseMethodDescriptor y.desc).map (fun d => d.parameters.length) = some 0 ∧ y.name = "<init>") (hC : isC.map (fun i => ws[i]?) = w0.map some) (hn0 : va_nd isC = true) (hR : isR.map (fun i => ws[i]?) = wr.map some) (hn : va_nd isR = true) (hdis : ∀ i ∈ isR, i ∉ isC) (hsz : ls.size = nL) (hW : (rest.map fun v => v.category).sum ≤ 8) (hRm : fr + 1 ≤ R.frames ∧ 8 + (1 + 11) + lo ≤ R.locals) (hcs : cells + mc ≤ R.cells ∧ slots + ms ≤ R.slots) (hdg : decode cc pc = .ok (.invokespecial index, 3))
    (kk : ∀ (u : Nat → Nat) (H : Heap) (locs : List Loc), va_P D vwCl (wr ++ wo u) H → va_D A (wr ++ wo u) → va_S A s.heap H locs → W p l e R s m args below meth c H locs (cells + mc) (slots + ms) Q (F0 m (pc + 3) ls rest)) : W p l e R s m args below meth c H locs cells slots Q (F0 m pc ls (.ref h0 :: rest)) := by
  obtain ⟨m2, m4, m5, m6, m7, m8, m9⟩ := hL
  have hts := X.2.2.2.2
  have hPc : va_P D vwCl w0 H := fun k x hx => by
    have h1 : (isC.map (fun i => ws[i]?))[k]? = some (some x) := by rw [hC, List.getElem?_map, hx]; rfl
    rw [List.getElem?_map] at h1
    cases hi : isC[k]? with
    | none => rw [hi] at h1; cases h1
    | some i => rw [hi] at h1; exact hP i x (Option.some.inj h1)
  have hDc := hD.sub (ws' := w0) isC hn0 hC
  refine k_after (w0 := w0) (a := (Value.ref h0 :: []).toArray) ?_ hP hD hS hA isC isR hC hR hn hdis kk
  exact va_runIN (As := []) (rest := rest) (n := 0) X (hM H.size) ⟨va_cnB 0 hts (tbI' m5) rfl rfl rfl (hT.2 _ hN) (hts _ m4) ⟨m6, m7, m8⟩ hRm, m9, hts _ m2⟩ ⟨k_blind, fun U hU hW => ⟨rfl, by rw [hU], by rw [hU]; exact hPc, hT.warm hW, hDc.weaken (fun _ _ _ _ => trivial)⟩⟩ rfl rfl hsz rfl (lv_room hW) hdg hcs
/-- a constructor by its own link -/
theorem k_callI {y : MethodName} {bytes : ByteArray} {fr lo mc ms index h0 : Nat} {w0 wr : va_W} {wo : (Nat → Nat) → va_W} (isC isR : List Nat) (X : CallFix p m c cc nL s args gtbl own) (hT : GN D cI cZ s) (hP : va_P D vwCl ws H) (hD : va_D A ws) (hS : va_S A s.heap H locs) (hA : ∀ q, s.heap.size ≤ q → A q) (hM : KM l y bytes fr lo mc ms D cI cZ h0 w0 wo) (hN : Cond.methodLink own index y ∈ gtbl)
    (hL : Cond.instanceMethod y ∈ gtbl ∧ Cond.initialized y.cls ∈ gtbl ∧ Cond.code y bytes 1 none ∈ gtbl ∧ y.cls ≠ "java/lang/invoke/MethodHandle" ∧ y.cls ≠ "java/lang/invoke/VarHandle" ∧ (parseMethodDescriptor y.desc).map (fun d => d.parameters.length) = some 0 ∧ y.name = "<init>") (hC : isC.map (fun i => ws[i]?) = w0.map some) (hn0 : va_nd isC = true) (hR : isR.map (fun i => ws[i]?) = wr.map some) (hn : va_nd isR = true) (hdis : ∀ i ∈ isR, i ∉ isC) (hsz : ls.size = nL) (hW : (rest.map fun v => v.category).sum ≤ 8) (hRm : fr + 1 ≤ R.frames ∧ 8 + (1 + 11) + lo ≤ R.locals) (hcs : cells + mc ≤ R.cells ∧ slots + ms ≤ R.slots) (hdg : decode cc pc = .ok (.invokespecial index, 3))
    (kk : ∀ (u : Nat → Nat) (H : Heap) (locs : List Loc), va_P D vwCl (wr ++ wo u) H → va_D A (wr ++ wo u) → va_S A s.heap H locs → W p l e R s m args below meth c H locs (cells + mc) (slots + ms) Q (F0 m (pc + 3) ls rest)) : W p l e R s m args below meth c H locs cells slots Q (F0 m pc ls (.ref h0 :: rest)) := by
  obtain ⟨m2, m4, m5, m6, m7, m8, m9⟩ := hL
  have hts := X.2.2.2.2
  have hPc : va_P D vwCl w0 H := fun k x hx => by
    have h1 : (isC.map (fun i => ws[i]?))[k]? = some (some x) := by rw [hC, List.getElem?_map, hx]; rfl
    rw [List.getElem?_map] at h1
    cases hi : isC[k]? with
    | none => rw [hi] at h1; cases h1
    | some i => rw [hi] at h1; exact hP i x (Option.some.inj h1)
  have hDc := hD.sub (ws' := w0) isC hn0 hC
  refine k_after (w0 := w0) (a := (Value.ref h0 :: []).toArray) ?_ hP hD hS hA isC isR hC hR hn hdis kk
  exact va_runI (As := []) (rest := rest) (n := 0) X (hM H.size) (cwI 0 hts (tbI' m5) rfl rfl rfl (hts _ m4) (hts _ hN) (hts _ m2) m9 ⟨m6, m7, m8⟩ hRm) ⟨k_blind, fun U hU hW => ⟨rfl, by rw [hU], by rw [hU]; exact hPc, hT.warm hW, hDc.weaken (fun _ _ _ _ => trivial)⟩⟩ rfl rfl hsz rfl (lv_room hW) hdg hcs
end KR
