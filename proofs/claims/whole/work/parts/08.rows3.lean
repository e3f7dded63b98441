/-! CONTRACTS OVER STORES: start, end; a room by its four numbers -/
abbrev sw_R (fr ce sl lo : Nat) : Room := { frames := fr, cells := ce, slots := sl, locals := lo }
def sw_Pc (D : va_G) (cT : Nat → ClassId) (σ : sw_S) (av : List sw_U) : Array Value → State → Prop := va_Pc (av.map sw_v) (fun U => sw_H D cT σ U.heap ∧ sw_K D cT U)
def sw_Q (o : Option sw_U) (D : va_G) (cT : Nat → ClassId) (σ σ' : sw_S) : Array Value → State → Outcome → State → Prop := fun _ st oc t => oc = .returned (o.map sw_v) ∧ sw_H D cT σ' t.heap ∧ sw_D (sw_A σ) σ' ∧ va_F (sw_A σ) st t
/-- the words of a method: its code, and the whole table -/
abbrev sw_w (y : MethodName) (b : ByteArray) (n : Nat) (r : Option FieldType) : List Cond := Cond.code y b n r :: sw_Tb
/-- a method's contract -/
abbrev sw_M (l : Launch) (D : va_G) (cT : Nat → ClassId) (y : MethodName) (b : ByteArray) (n : Nat) (r : Option FieldType) (fr lo mc ms : Nat) (σ : sw_S) (av : List sw_U) (o : Option sw_U) (σ' : sw_S) : Prop := Met l y (sw_w y b n r) (sw_R fr mc ms lo) (sw_Pc D cT σ av) (sw_Q o D cT σ σ') mc ms (sw_A σ)
theorem sw_blind {D : va_G} {cT : Nat → ClassId} {σ : sw_S} {av : List sw_U} : FrameBlind (sw_Pc D cT σ av) := by
  intro a U g mk q
  obtain ⟨q0, q1, q2, q3, q4, q5⟩ := q
  exact ⟨q0, q1, va_K.moved (u := U) (U := U.calling g mk a) (Vm.Alike.refl U.vm) q2, va_Nw.same rfl rfl q3, va_Nw.same rfl rfl q4, va_AO.moved (u := U) (U := U.calling g mk a) (Vm.Alike.refl U.vm) q5⟩
theorem sw_good_w {y : MethodName} {b : ByteArray} {n : Nat} {r : Option FieldType} (h : Cond.code y b n r ∈ sw_Tb) : GoodIn sw_Tb (sw_w y b n r) := fun w hw => (List.mem_cons.mp hw).elim (fun q => by rw [q]; exact sw_good _ h) (fun q => sw_good w q)
/-- the kept part behind a call -/
theorem sw_F.S {A : Nat → Prop} {σ : sw_S} {H0 H H1 : Heap} {locs L : List Loc} (hS : va_S A H0 H locs) (hz : H.size ≤ H1.size) (hk : ∀ q : Nat, q < H.size → ¬ sw_A σ q → H1[q]? = H[q]?) (hA : ∀ q, sw_A σ q → A q) (hL : ∀ q ∈ L, sw_A σ q.base) : va_S A H0 H1 (locs ++ L) :=
  ⟨Nat.le_trans hS.1 hz, fun q h1 h2 => (hk q (Nat.lt_of_lt_of_le h1 hS.1) (fun z => h2 (hA q z))).trans (hS.2.1 q h1 h2), fun q hq => (List.mem_append.mp hq).elim (hS.2.2 q) (fun h => hA _ (hL q h))⟩
section SY
variable {p : Program} {l : Launch} {e : Env} {R : Room} {s : State} {m : MethodId} {args : Array Value} {below : List Frame} {meth : Method} {c : Code} {Q : State → Prop} {nL : Nat} {A : Nat → Prop} {D : va_G} {cT : Nat → ClassId} {cc : ByteArray} {own : String} {σ : sw_S} {ce sl pc : Nat} {lv : List (Nat × sw_U)} {st : List sw_U}
variable {y : MethodName} {b : ByteArray} {n maxL fr lo mc ms index : Nat} {r : Option FieldType} {As : List sw_U} {o : Option sw_U} {σ1 : sw_S} {st0 : List sw_U}
theorem g_run (K : sw_C p s m args c cc nL own A D cT) {a : Array Value} (hr : ∀ (H : Heap) (locs : List Loc) (ls : Array Slot), lv_has ls nL (lv.map sw_q) → sw_H D cT σ H → va_Run p l e R s m args below meth c H locs ce sl mc ms (F0 m pc ls (st0.map sw_v)) (st.map sw_v) (sw_Q o D cT σ σ1 a) (sw_A σ)) (kk : sw_G p l e R s m args below meth c Q nL A D cT σ1 (ce + mc) (sl + ms) (pc + 3) lv (o.toList ++ st)) : sw_G p l e R s m args below meth c Q nL A D cT σ ce sl pc lv st0 := by
  intro H locs ls hl hP hD hS
  intro T hT X
  have hA : ∀ q, sw_A σ q → A q := fun q h => h.elim (fun ⟨x, hx⟩ => hD q x hx) (fun h => K.2.2 q (Nat.le_trans hS.1 (by rw [hP.1]; exact h)))
  obtain ⟨v, st₀, t, T', L, h0, X', hL, e1, e2, ⟨hv, hP1, hD1, hz, hk⟩, stp⟩ := hr H locs ls hl hP T hT X
  rw [h0] at hz hk
  have hv' : v = o.map sw_v := Outcome.returned.inj hv
  subst hv'
  obtain ⟨t2, a1, b1⟩ := kk T'.heap (locs ++ L) ls hl (by rw [e1]; exact hP1) (fun q x hx => hA q (hD1 q x hx)) (sw_F.S hS (by rw [e1]; exact hz) (fun q h1 h2 => by rw [e1]; exact hk q h1 h2) hA hL) T' rfl X'
  refine ⟨t2, stp t2 ?_, b1⟩
  cases o <;> exact a1
theorem sw_callB (K : sw_C p s m args c cc nL own A D cT) (hcode : Cond.code y b maxL r ∈ sw_Tb) (hl : Cond.methodLink own index y ∈ sw_Tb) (hini : Cond.initialized y.cls ∈ sw_Tb) (hd : y.cls ≠ "java/lang/invoke/MethodHandle" ∧ y.cls ≠ "java/lang/invoke/VarHandle" ∧ (parseMethodDescriptor y.desc).map (fun d => d.parameters.length) = some n) (hR : fr + 1 ≤ R.frames ∧ 8 + (maxL + 11) + lo ≤ R.locals) : CallB R s args own index y b maxL r (sw_w y b maxL r) (sw_R fr mc ms lo) mc ms n :=
  callB_of n K.1.2.2.2.2 (sw_good_w hcode) rfl rfl rfl (K.1.2.2.2.2 _ hini) (K.1.2.2.2.2 _ hl) hd hR
theorem sw_preU (K : sw_C p s m args c cc nL own A D cT) {H : Heap} (hP : sw_H D cT σ H) {As : List sw_U} : ∀ U : State, U.heap = H → s.WarmedH U.vm → sw_Pc D cT σ As (As.map sw_v).toArray U := fun U hU hW => ⟨rfl, by rw [hU]; exact hP, K.2.1.warm hW⟩
/-- a virtual call: the receiver at a, of kind ci -/
theorem g_callV (K : sw_C p s m args c cc nL own A D cT) {a ci : Nat} {q : vw_C} {fs : List Value} (As : List sw_U) (hM : sw_M l D cT y b maxL r fr lo mc ms σ (P_ (some a) :: As) o σ1) (hob : sw_ob ci a σ = some fs) (hci : vwCl[ci]? = some q) (hyc : y.cls = q.1) (hcode : Cond.code y b maxL r ∈ sw_Tb) (hl : Cond.methodLink own index y ∈ sw_Tb) (hini : Cond.initialized y.cls ∈ sw_Tb) (him : Cond.instanceMethod y ∈ sw_Tb) (hse : Cond.selects y.cls y y ∈ sw_Tb) (hd : y.cls ≠ "java/lang/invoke/MethodHandle" ∧ y.cls ≠ "java/lang/invoke/VarHandle" ∧ (parseMethodDescriptor y.desc).map (fun d => d.parameters.length) = some As.length) (hR : fr + 1 ≤ R.frames ∧ 8 + (maxL + 11) + lo ≤ R.locals) (hst : st0 = As.reverse ++ P_ (some a) :: st) (hrm : ((st.map sw_v).map fun v => v.category).sum ≤ 8) (hf : ce + mc ≤ R.cells ∧ sl + ms ≤ R.slots) (hdg : decode cc pc = .ok (.invokevirtual index, 3)) (kk : sw_G p l e R s m args below meth c Q nL A D cT σ1 (ce + mc) (sl + ms) (pc + 3) lv (o.toList ++ st)) : sw_G p l e R s m args below meth c Q nL A D cT σ ce sl pc lv st0 := by
  refine g_run (a := (Value.ref a :: As.map sw_v).toArray) K (fun H locs ls hl2 hP => ?_) kk
  have hts := K.1.2.2.2.2
  have hrecv : ∃ cellB : Cell, H[a]? = some cellB ∧ cellB.vm.isStatics = false ∧ s.vm.findClass y.cls = some cellB.cls := by
    obtain ⟨q', h1, cell, g1, g2, g3, -⟩ := hP.2 a _ (sw_ob_eq hob)
    exact ⟨cell, g1, by rw [g3]; rfl, by rw [g2, hyc]; exact (K.2.1.1.1 ci q hci).2.1⟩
  subst hst
  exact va_runV (As := As.map sw_v) (b := a) K.1 hM ⟨sw_callB K hcode hl hini hd hR, hts _ him, hts _ hse⟩ ⟨sw_blind, hrecv, sw_preU K hP (As := P_ (some a) :: As)⟩ rfl (by simp) hl2.1 (by simp [sw_v, va_rf]) (lv_room hrm) hdg hf
theorem g_callI (K : sw_C p s m args c cc nL own A D cT) {a : Nat} (As : List sw_U) (hM : sw_M l D cT y b maxL none fr lo mc ms σ (P_ (some a) :: As) none σ1) (hcode : Cond.code y b maxL none ∈ sw_Tb) (hl : Cond.methodLink own index y ∈ sw_Tb) (hini : Cond.initialized y.cls ∈ sw_Tb) (him : Cond.instanceMethod y ∈ sw_Tb) (hy1 : y.name = "<init>") (hd : y.cls ≠ "java/lang/invoke/MethodHandle" ∧ y.cls ≠ "java/lang/invoke/VarHandle" ∧ (parseMethodDescriptor y.desc).map (fun d => d.parameters.length) = some As.length) (hR : fr + 1 ≤ R.frames ∧ 8 + (maxL + 11) + lo ≤ R.locals) (hst : st0 = As.reverse ++ P_ (some a) :: st) (hrm : ((st.map sw_v).map fun v => v.category).sum ≤ 8) (hf : ce + mc ≤ R.cells ∧ sl + ms ≤ R.slots) (hdg : decode cc pc = .ok (.invokespecial index, 3)) (kk : sw_G p l e R s m args below meth c Q nL A D cT σ1 (ce + mc) (sl + ms) (pc + 3) lv st) : sw_G p l e R s m args below meth c Q nL A D cT σ ce sl pc lv st0 := by
  refine g_run (o := none) (a := (Value.ref a :: As.map sw_v).toArray) K (fun H locs ls hl2 hP => ?_) kk
  subst hst
  exact va_runI (As := As.map sw_v) (b := a) K.1 hM ⟨sw_callB K hcode hl hini hd hR, hy1, K.1.2.2.2.2 _ him⟩ ⟨sw_blind, sw_preU K hP (As := P_ (some a) :: As)⟩ rfl (by simp) hl2.1 (by simp [sw_v, va_rf]) (lv_room hrm) hdg hf
theorem g_callS (K : sw_C p s m args c cc nL own A D cT) (As : List sw_U) (hM : sw_M l D cT y b maxL r fr lo mc ms σ As o σ1) (hcode : Cond.code y b maxL r ∈ sw_Tb) (hl : Cond.methodLink own index y ∈ sw_Tb) (hini : Cond.initialized y.cls ∈ sw_Tb) (hsta : Cond.static y ∈ sw_Tb) (hd : y.cls ≠ "java/lang/invoke/MethodHandle" ∧ y.cls ≠ "java/lang/invoke/VarHandle" ∧ (parseMethodDescriptor y.desc).map (fun d => d.parameters.length) = some As.length) (hR : fr + 1 ≤ R.frames ∧ 8 + (maxL + 11) + lo ≤ R.locals) (hst : st0 = As.reverse ++ st) (hrm : ((st.map sw_v).map fun v => v.category).sum ≤ 8) (hf : ce + mc ≤ R.cells ∧ sl + ms ≤ R.slots) (hdg : decode cc pc = .ok (.invokestatic index, 3)) (kk : sw_G p l e R s m args below meth c Q nL A D cT σ1 (ce + mc) (sl + ms) (pc + 3) lv (o.toList ++ st)) : sw_G p l e R s m args below meth c Q nL A D cT σ ce sl pc lv st0 := by
  refine g_run (a := (As.map sw_v).toArray) K (fun H locs ls hl2 hP => ?_) kk
  subst hst
  exact va_runS (As := As.map sw_v) K.1 hM ⟨sw_callB K hcode hl hini hd hR, K.1.2.2.2.2 _ hsta⟩ ⟨sw_blind, sw_preU K hP (As := As)⟩ rfl (by simp) hl2.1 (by simp) (lv_room hrm) hdg hf
theorem g_callN (K : sw_C p s m args c cc nL own A D cT) {host : String} (As : List sw_U) (hM : sw_M l D cT y b maxL r fr lo mc ms σ As o σ1) (hcode : Cond.code y b maxL r ∈ sw_Tb) (hl : va_Nw (.methodLinkNest own index y host) s) (hini : Cond.initialized y.cls ∈ sw_Tb) (hsta : Cond.static y ∈ sw_Tb) (hd : y.cls ≠ "java/lang/invoke/MethodHandle" ∧ y.cls ≠ "java/lang/invoke/VarHandle" ∧ (parseMethodDescriptor y.desc).map (fun d => d.parameters.length) = some As.length) (hR : fr + 1 ≤ R.frames ∧ 8 + (maxL + 11) + lo ≤ R.locals) (hst : st0 = As.reverse ++ st) (hrm : ((st.map sw_v).map fun v => v.category).sum ≤ 8) (hf : ce + mc ≤ R.cells ∧ sl + ms ≤ R.slots) (hdg : decode cc pc = .ok (.invokestatic index, 3)) (kk : sw_G p l e R s m args below meth c Q nL A D cT σ1 (ce + mc) (sl + ms) (pc + 3) lv (o.toList ++ st)) : sw_G p l e R s m args below meth c Q nL A D cT σ ce sl pc lv st0 := by
  refine g_run (a := (As.map sw_v).toArray) K (fun H locs ls hl2 hP => ?_) kk
  subst hst
  exact va_runSN (host := host) (As := As.map sw_v) K.1 hM ⟨va_cnB As.length K.1.2.2.2.2 (sw_good_w hcode) rfl rfl rfl hl (K.1.2.2.2.2 _ hini) hd hR, K.1.2.2.2.2 _ hsta, trivial⟩ ⟨sw_blind, sw_preU K hP (As := As)⟩ rfl (by simp) hl2.1 (by simp) (lv_room hrm) hdg hf
theorem g_objInit (K : sw_C p s m args c cc nL own A D cT) {a : Nat} (hl : Cond.methodLink own index objectInit ∈ sw_Tb) (him : Cond.instanceMethod objectInit ∈ sw_Tb) (hcode : Cond.code objectInit ⟨#[0xb1]⟩ 1 none ∈ sw_Tb) (hR : 1 ≤ R.frames ∧ 20 ≤ R.locals) (hrm : ((st.map sw_v).map fun v => v.category).sum ≤ 8) (hdg : decode cc pc = .ok (.invokespecial index, 3)) (kk : sw_G p l e R s m args below meth c Q nL A D cT σ ce sl (pc + 3) lv st) : sw_G p l e R s m args below meth c Q nL A D cT σ ce sl pc lv (P_ (some a) :: st) := by
  intro H locs ls hl2 hP hD hS
  have hts := K.1.2.2.2.2
  exact W.objInit K.1.1 K.1.2.1 K.1.2.2.2.1 (hts _ hl) (hts _ him) (hts _ hcode) rfl (by rw [K.1.2.2.1]; exact hl2.1) rfl hdg hR.1 (by have := lv_room (m := m) (pc := pc) (ls := ls) (rest := []) hrm; exact Nat.le_trans (Nat.add_le_add_right this 12) hR.2) (kk H locs ls hl2 hP hD hS)
end SY
/-! returns, and a contract out of its body -/
def sw_av : Nat → List sw_U → List (Nat × sw_U)
  | _, [] => []
  | i, v :: vs => (i, v) :: sw_av (if sw_2 v = true then i + 2 else i + 1) vs
def sw_n : List sw_U → Nat
  | [] => 0
  | v :: vs => (if sw_2 v = true then 2 else 1) + sw_n vs
theorem sw_cat2 (u : sw_U) : (sw_v u).category = 2 ↔ sw_2 u = true := by
  rw [← sw_cat u]; simp
theorem sw_av_eq (av : List sw_U) : ∀ i, lv_args i (av.map sw_v) = (sw_av i av).map sw_q := by
  induction av with
  | nil => intro i; rfl
  | cons v vs ih =>
    intro i
    simp only [List.map_cons, lv_args, sw_av, sw_cat2, ih]
    rfl
theorem sw_n_eq (av : List sw_U) : (lg_sl (av.map sw_v)).length = sw_n av := by
  induction av with
  | nil => rfl
  | cons v vs ih =>
    have h : lg_sl ((v :: vs).map sw_v) = (if (sw_v v).category = 2 then [Slot.val (sw_v v), .second] else [.val (sw_v v)]) ++ lg_sl (vs.map sw_v) := rfl
    rw [h, List.length_append, ih]
    simp only [sw_n, sw_cat2]
    split <;> rfl
section SZ
variable {p : Program} {l : Launch} {e : Env} {R : Room} {s : State} {m : MethodId} {args : Array Value} {below : List Frame} {meth : Method} {c : Code} {Q : State → Prop} {nL : Nat} {A : Nat → Prop} {D : va_G} {cT : Nat → ClassId} {cc : ByteArray} {own : String} {σ : sw_S} {ce sl pc : Nat} {lv : List (Nat × sw_U)} {st : List sw_U}
def sw_Ti (cc : ByteArray) (p : Program) (l : Launch) (e : Env) (R : Room) (s : State) (m : MethodId) (args : Array Value) (below : List Frame) (meth : Method) (c : Code) (Q : State → Prop) (nL : Nat) (A : Nat → Prop) (D : va_G) (cT : Nat → ClassId) (mc ms : Nat) (σ' : sw_S) (x : Int32) : Prop := ∀ (ce sl pc : Nat) (lv : List (Nat × sw_U)), ce ≤ mc → sl ≤ ms → decode cc pc = .ok (.ireturn, 1) → sw_G p l e R s m args below meth c Q nL A D cT σ' ce sl pc lv [I_ x]
theorem sw_met_i {y : MethodName} {b : ByteArray} {maxL fr lo mc ms : Nat} {σ' : sw_S} {av : List sw_U} {x : Int32} (hy : plainName y.cls = true) (hlen : sw_n av ≤ maxL)
    (body : ∀ (p : Program) (e : Env) (s : State) (m : MethodId) (args : Array Value) (below : List Frame) (meth : Method) (c : Code) (A : Nat → Prop) (Q : State → Prop), sw_C p s m args c b maxL y.cls A D cT → meth.name = y.name → sw_Ti b p l e (sw_R fr mc ms lo) s m args below meth c Q maxL A D cT mc ms σ' x → sw_G p l e (sw_R fr mc ms lo) s m args below meth c Q maxL A D cT σ 0 0 0 (sw_av 0 av) []) :
    sw_M l D cT y b maxL (some .int) fr lo mc ms σ av (some (I_ x)) σ' := by
  refine Met.ofW (cc := b) (maxL := maxL) (ret := (some .int)) hy rfl ?_
  intro p e s m args below meth c s₁ B hml hv
  obtain ⟨rfl, hP, hK⟩ := hv
  have hts := atoms_spec (ws := sw_w y b maxL (some .int)) B.pre
  have hown : s.vm.findClass y.cls = some m.cls := findClass_of_methodNamed B.named
  have hname : meth.name = y.name := (name_of_methodNamed B.named B.method).1
  have hlocks := B.notSynchronized
  have K : sw_C p s m (av.map sw_v).toArray c b maxL y.cls (sw_A σ) D cT := ⟨⟨B.exec, B.bytes, hml, hown, fun w hw => hts w (List.mem_cons_of_mem _ hw)⟩, hK, fun q hq => Or.inr (by rw [← hP.1]; exact hq)⟩
  have hg := body p e s m (av.map sw_v).toArray below meth c (sw_A σ) (MQ below (sw_Q (some (I_ x)) D cT σ σ') (av.map sw_v).toArray s mc ms (sw_A σ)) K hname (fun ce sl pc lv h1 h2 hdg H locs ls hl hP1 hD1 hS1 => W.widen h1 h2 (W.iret (v := x) K.1.1 K.1.2.1 B.returns (fun t ht hW => ⟨rfl, by rw [ht]; exact hP1, hD1, hS1.F ht⟩) hS1.2.2 hdg hlocks))
  have hl := lv_entry (av.map sw_v) (n := maxL) (by rw [sw_n_eq]; exact hlen)
  rw [sw_av_eq] at hl
  rw [lg_entry_eq]
  exact hg s.heap [] _ hl hP (fun a x hx => Or.inl ⟨x, hx⟩) va_S.rf
def sw_Tz (cc : ByteArray) (p : Program) (l : Launch) (e : Env) (R : Room) (s : State) (m : MethodId) (args : Array Value) (below : List Frame) (meth : Method) (c : Code) (Q : State → Prop) (nL : Nat) (A : Nat → Prop) (D : va_G) (cT : Nat → ClassId) (mc ms : Nat) (σ' : sw_S) (x : Int32) : Prop := ∀ (ce sl pc : Nat) (lv : List (Nat × sw_U)), ce ≤ mc → sl ≤ ms → narrow .boolean (.int x) = .int x → decode cc pc = .ok (.ireturn, 1) → sw_G p l e R s m args below meth c Q nL A D cT σ' ce sl pc lv [I_ x]
theorem sw_met_z {y : MethodName} {b : ByteArray} {maxL fr lo mc ms : Nat} {σ' : sw_S} {av : List sw_U} {x : Int32} (hy : plainName y.cls = true) (hlen : sw_n av ≤ maxL)
    (body : ∀ (p : Program) (e : Env) (s : State) (m : MethodId) (args : Array Value) (below : List Frame) (meth : Method) (c : Code) (A : Nat → Prop) (Q : State → Prop), sw_C p s m args c b maxL y.cls A D cT → meth.name = y.name → sw_Tz b p l e (sw_R fr mc ms lo) s m args below meth c Q maxL A D cT mc ms σ' x → sw_G p l e (sw_R fr mc ms lo) s m args below meth c Q maxL A D cT σ 0 0 0 (sw_av 0 av) []) :
    sw_M l D cT y b maxL (some .boolean) fr lo mc ms σ av (some (I_ x)) σ' := by
  refine Met.ofW (cc := b) (maxL := maxL) (ret := (some .boolean)) hy rfl ?_
  intro p e s m args below meth c s₁ B hml hv
  obtain ⟨rfl, hP, hK⟩ := hv
  have hts := atoms_spec (ws := sw_w y b maxL (some .boolean)) B.pre
  have hown : s.vm.findClass y.cls = some m.cls := findClass_of_methodNamed B.named
  have hname : meth.name = y.name := (name_of_methodNamed B.named B.method).1
  have hlocks := B.notSynchronized
  have K : sw_C p s m (av.map sw_v).toArray c b maxL y.cls (sw_A σ) D cT := ⟨⟨B.exec, B.bytes, hml, hown, fun w hw => hts w (List.mem_cons_of_mem _ hw)⟩, hK, fun q hq => Or.inr (by rw [← hP.1]; exact hq)⟩
  have hg := body p e s m (av.map sw_v).toArray below meth c (sw_A σ) (MQ below (sw_Q (some (I_ x)) D cT σ σ') (av.map sw_v).toArray s mc ms (sw_A σ)) K hname (fun ce sl pc lv h1 h2 hz hdg H locs ls hl hP1 hD1 hS1 => W.widen h1 h2 (W.zret (v := x) (ty := .boolean) K.1.1 K.1.2.1 B.returns hz (fun t ht hW => ⟨rfl, by rw [ht]; exact hP1, hD1, hS1.F ht⟩) hS1.2.2 hdg hlocks))
  have hl := lv_entry (av.map sw_v) (n := maxL) (by rw [sw_n_eq]; exact hlen)
  rw [sw_av_eq] at hl
  rw [lg_entry_eq]
  exact hg s.heap [] _ hl hP (fun a x hx => Or.inl ⟨x, hx⟩) va_S.rf
def sw_Tl (cc : ByteArray) (p : Program) (l : Launch) (e : Env) (R : Room) (s : State) (m : MethodId) (args : Array Value) (below : List Frame) (meth : Method) (c : Code) (Q : State → Prop) (nL : Nat) (A : Nat → Prop) (D : va_G) (cT : Nat → ClassId) (mc ms : Nat) (σ' : sw_S) (x : Int64) : Prop := ∀ (ce sl pc : Nat) (lv : List (Nat × sw_U)), ce ≤ mc → sl ≤ ms → decode cc pc = .ok (.lreturn, 1) → sw_G p l e R s m args below meth c Q nL A D cT σ' ce sl pc lv [J_ x]
theorem sw_met_l {y : MethodName} {b : ByteArray} {maxL fr lo mc ms : Nat} {σ' : sw_S} {av : List sw_U} {x : Int64} (hy : plainName y.cls = true) (hlen : sw_n av ≤ maxL)
    (body : ∀ (p : Program) (e : Env) (s : State) (m : MethodId) (args : Array Value) (below : List Frame) (meth : Method) (c : Code) (A : Nat → Prop) (Q : State → Prop), sw_C p s m args c b maxL y.cls A D cT → meth.name = y.name → sw_Tl b p l e (sw_R fr mc ms lo) s m args below meth c Q maxL A D cT mc ms σ' x → sw_G p l e (sw_R fr mc ms lo) s m args below meth c Q maxL A D cT σ 0 0 0 (sw_av 0 av) []) :
    sw_M l D cT y b maxL (some .long) fr lo mc ms σ av (some (J_ x)) σ' := by
  refine Met.ofW (cc := b) (maxL := maxL) (ret := (some .long)) hy rfl ?_
  intro p e s m args below meth c s₁ B hml hv
  obtain ⟨rfl, hP, hK⟩ := hv
  have hts := atoms_spec (ws := sw_w y b maxL (some .long)) B.pre
  have hown : s.vm.findClass y.cls = some m.cls := findClass_of_methodNamed B.named
  have hname : meth.name = y.name := (name_of_methodNamed B.named B.method).1
  have hlocks := B.notSynchronized
  have K : sw_C p s m (av.map sw_v).toArray c b maxL y.cls (sw_A σ) D cT := ⟨⟨B.exec, B.bytes, hml, hown, fun w hw => hts w (List.mem_cons_of_mem _ hw)⟩, hK, fun q hq => Or.inr (by rw [← hP.1]; exact hq)⟩
  have hg := body p e s m (av.map sw_v).toArray below meth c (sw_A σ) (MQ below (sw_Q (some (J_ x)) D cT σ σ') (av.map sw_v).toArray s mc ms (sw_A σ)) K hname (fun ce sl pc lv h1 h2 hdg H locs ls hl hP1 hD1 hS1 => W.widen h1 h2 (W.lret (v := x) K.1.1 K.1.2.1 B.returns (fun t ht hW => ⟨rfl, by rw [ht]; exact hP1, hD1, hS1.F ht⟩) hS1.2.2 hdg hlocks))
  have hl := lv_entry (av.map sw_v) (n := maxL) (by rw [sw_n_eq]; exact hlen)
  rw [sw_av_eq] at hl
  rw [lg_entry_eq]
  exact hg s.heap [] _ hl hP (fun a x hx => Or.inl ⟨x, hx⟩) va_S.rf
def sw_Tv (cc : ByteArray) (p : Program) (l : Launch) (e : Env) (R : Room) (s : State) (m : MethodId) (args : Array Value) (below : List Frame) (meth : Method) (c : Code) (Q : State → Prop) (nL : Nat) (A : Nat → Prop) (D : va_G) (cT : Nat → ClassId) (mc ms : Nat) (σ' : sw_S)  : Prop := ∀ (ce sl pc : Nat) (lv : List (Nat × sw_U)), ce ≤ mc → sl ≤ ms → decode cc pc = .ok (.return_, 1) → sw_G p l e R s m args below meth c Q nL A D cT σ' ce sl pc lv []
theorem sw_met_v {y : MethodName} {b : ByteArray} {maxL fr lo mc ms : Nat} {σ' : sw_S} {av : List sw_U}  (hy : plainName y.cls = true) (hlen : sw_n av ≤ maxL)
    (body : ∀ (p : Program) (e : Env) (s : State) (m : MethodId) (args : Array Value) (below : List Frame) (meth : Method) (c : Code) (A : Nat → Prop) (Q : State → Prop), sw_C p s m args c b maxL y.cls A D cT → meth.name = y.name → sw_Tv b p l e (sw_R fr mc ms lo) s m args below meth c Q maxL A D cT mc ms σ'  → sw_G p l e (sw_R fr mc ms lo) s m args below meth c Q maxL A D cT σ 0 0 0 (sw_av 0 av) []) :
    sw_M l D cT y b maxL none fr lo mc ms σ av (none) σ' := by
  refine Met.ofW (cc := b) (maxL := maxL) (ret := none) hy rfl ?_
  intro p e s m args below meth c s₁ B hml hv
  obtain ⟨rfl, hP, hK⟩ := hv
  have hts := atoms_spec (ws := sw_w y b maxL none) B.pre
  have hown : s.vm.findClass y.cls = some m.cls := findClass_of_methodNamed B.named
  have hname : meth.name = y.name := (name_of_methodNamed B.named B.method).1
  have hlocks := B.notSynchronized
  have K : sw_C p s m (av.map sw_v).toArray c b maxL y.cls (sw_A σ) D cT := ⟨⟨B.exec, B.bytes, hml, hown, fun w hw => hts w (List.mem_cons_of_mem _ hw)⟩, hK, fun q hq => Or.inr (by rw [← hP.1]; exact hq)⟩
  have hg := body p e s m (av.map sw_v).toArray below meth c (sw_A σ) (MQ below (sw_Q (none) D cT σ σ') (av.map sw_v).toArray s mc ms (sw_A σ)) K hname (fun ce sl pc lv h1 h2 hdg H locs ls hl hP1 hD1 hS1 => W.widen h1 h2 (W.vret K.1.1 K.1.2.1 B.returns (fun t ht hW => ⟨rfl, by rw [ht]; exact hP1, hD1, hS1.F ht⟩) hS1.2.2 hdg hlocks))
  have hl := lv_entry (av.map sw_v) (n := maxL) (by rw [sw_n_eq]; exact hlen)
  rw [sw_av_eq] at hl
  rw [lg_entry_eq]
  exact hg s.heap [] _ hl hP (fun a x hx => Or.inl ⟨x, hx⟩) va_S.rf
def sw_Ta (cc : ByteArray) (p : Program) (l : Launch) (e : Env) (R : Room) (s : State) (m : MethodId) (args : Array Value) (below : List Frame) (meth : Method) (c : Code) (Q : State → Prop) (nL : Nat) (A : Nat → Prop) (D : va_G) (cT : Nat → ClassId) (mc ms : Nat) (σ' : sw_S) (x : Option Nat) : Prop := ∀ (ce sl pc : Nat) (lv : List (Nat × sw_U)), ce ≤ mc → sl ≤ ms → decode cc pc = .ok (.areturn, 1) → sw_G p l e R s m args below meth c Q nL A D cT σ' ce sl pc lv [P_ x]
theorem sw_met_a {y : MethodName} {b : ByteArray} {maxL fr lo mc ms : Nat} {σ' : sw_S} {av : List sw_U} {x : Option Nat} (hy : plainName y.cls = true) (hlen : sw_n av ≤ maxL)
    (body : ∀ (p : Program) (e : Env) (s : State) (m : MethodId) (args : Array Value) (below : List Frame) (meth : Method) (c : Code) (A : Nat → Prop) (Q : State → Prop), sw_C p s m args c b maxL y.cls A D cT → meth.name = y.name → sw_Ta b p l e (sw_R fr mc ms lo) s m args below meth c Q maxL A D cT mc ms σ' x → sw_G p l e (sw_R fr mc ms lo) s m args below meth c Q maxL A D cT σ 0 0 0 (sw_av 0 av) []) :
    sw_M l D cT y b maxL (some (.object RX1)) fr lo mc ms σ av (some (P_ x)) σ' := by
  refine Met.ofW (cc := b) (maxL := maxL) (ret := (some (.object RX1))) hy rfl ?_
  intro p e s m args below meth c s₁ B hml hv
  obtain ⟨rfl, hP, hK⟩ := hv
  have hts := atoms_spec (ws := sw_w y b maxL (some (.object RX1))) B.pre
  have hown : s.vm.findClass y.cls = some m.cls := findClass_of_methodNamed B.named
  have hname : meth.name = y.name := (name_of_methodNamed B.named B.method).1
  have hlocks := B.notSynchronized
  have K : sw_C p s m (av.map sw_v).toArray c b maxL y.cls (sw_A σ) D cT := ⟨⟨B.exec, B.bytes, hml, hown, fun w hw => hts w (List.mem_cons_of_mem _ hw)⟩, hK, fun q hq => Or.inr (by rw [← hP.1]; exact hq)⟩
  have hg := body p e s m (av.map sw_v).toArray below meth c (sw_A σ) (MQ below (sw_Q (some (P_ x)) D cT σ σ') (av.map sw_v).toArray s mc ms (sw_A σ)) K hname (fun ce sl pc lv h1 h2 hdg H locs ls hl hP1 hD1 hS1 => W.widen h1 h2 (W.aret (v := va_rf x) K.1.1 K.1.2.1 B.returns (Or.inl ⟨_, rfl⟩) (va_rf_or x) (fun t ht hW => ⟨rfl, by rw [ht]; exact hP1, hD1, hS1.F ht⟩) hS1.2.2 hdg hlocks))
  have hl := lv_entry (av.map sw_v) (n := maxL) (by rw [sw_n_eq]; exact hlen)
  rw [sw_av_eq] at hl
  rw [lg_entry_eq]
  exact hg s.heap [] _ hl hP (fun a x hx => Or.inl ⟨x, hx⟩) va_S.rf
end SZ
