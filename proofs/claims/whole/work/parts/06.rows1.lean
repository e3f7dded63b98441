/-! THE JUDGEMENT OVER STORES -/
/-- a value by its sort: an int, a long, a reference or null -/
abbrev sw_U : Type := Int32 ⊕ (Int64 ⊕ Option Nat)
abbrev I_ (x : Int32) : sw_U := .inl x
abbrev J_ (x : Int64) : sw_U := .inr (.inl x)
abbrev P_ (r : Option Nat) : sw_U := .inr (.inr r)
def sw_v : sw_U → Value
  | .inl x => .int x
  | .inr (.inl x) => .long x
  | .inr (.inr r) => va_rf r
def sw_q (q : Nat × sw_U) : Nat × Value := (q.1, sw_v q.2)
def sw_2 : sw_U → Bool
  | .inr (.inl _) => true
  | _ => false
theorem sw_cat (u : sw_U) : ((sw_v u).category == 2) = sw_2 u := by
  rcases u with x | x | r
  · rfl
  · rfl
  · cases r <;> rfl
def sw_ls (i : Nat) (v : sw_U) (lv : List (Nat × sw_U)) : List (Nat × sw_U) := (i, v) :: lv.filter (fun q => !(q.1 == i) && !(q.1 + 1 == i && sw_2 q.2))
def sw_l2 (i : Nat) (v : sw_U) (lv : List (Nat × sw_U)) : List (Nat × sw_U) := (i, v) :: lv.filter (fun q => !(q.1 == i) && (!(q.1 == i + 1) && !(q.1 + 1 == i && sw_2 q.2)))
theorem sw_l2_eq (i : Nat) (v : sw_U) (lv : List (Nat × sw_U)) : (i, sw_v v) :: (lv.map sw_q).filter (fun q => !(q.1 == i) && (!(q.1 == i + 1) && !(q.1 + 1 == i && q.2.category == 2))) = (sw_l2 i v lv).map sw_q := by
  unfold sw_l2
  rw [List.map_cons, List.filter_map]
  congr 2
  apply List.filter_congr
  intro q _
  simp only [Function.comp, sw_q, sw_cat]
theorem sw_ls_eq (i : Nat) (v : sw_U) (lv : List (Nat × sw_U)) : (i, sw_v v) :: (lv.map sw_q).filter (fun q => !(q.1 == i) && !(q.1 + 1 == i && q.2.category == 2)) = (sw_ls i v lv).map sw_q := by
  unfold sw_ls
  rw [List.map_cons, List.filter_map]
  congr 2
  apply List.filter_congr
  intro q _
  simp only [Function.comp, sw_q, sw_cat]
def sw_K (D : va_G) (cT : Nat → ClassId) (U : State) : Prop := va_K D vwCl (sw_tys cT) U ∧ va_Nw (.methodLinkNest RX1 44 yX7_mix RX7) U ∧ va_Nw (.methodLinkNest RX0 109 yX7_mix RX7) U ∧ va_AO RX1 U
theorem sw_K.warm {D : va_G} {cT : Nat → ClassId} {s U : State} (hW : s.WarmedH U.vm) (h : sw_K D cT s) : sw_K D cT U := ⟨va_K.moved hW.alike h.1, va_Nw.warmM hW h.2.1, va_Nw.warmM hW h.2.2.1, va_AO.moved hW.alike h.2.2.2⟩
def sw_C (p : Program) (s : State) (m : MethodId) (args : Array Value) (c : Code) (cc : ByteArray) (nL : Nat) (own : String) (A : Nat → Prop) (D : va_G) (cT : Nat → ClassId) : Prop := CallFix p m c cc nL s args sw_Tb own ∧ sw_K D cT s ∧ ∀ q, s.heap.size ≤ q → A q
def sw_G (p : Program) (l : Launch) (e : Env) (R : Room) (s : State) (m : MethodId) (args : Array Value) (below : List Frame) (meth : Method) (c : Code) (Q : State → Prop) (nL : Nat) (A : Nat → Prop) (D : va_G) (cT : Nat → ClassId) (σ : sw_S) (ce sl pc : Nat) (lv : List (Nat × sw_U)) (st : List sw_U) : Prop :=
  ∀ (H : Heap) (locs : List Loc) (ls : Array Slot), lv_has ls nL (lv.map sw_q) → sw_H D cT σ H → sw_D A σ → va_S A s.heap H locs → W p l e R s m args below meth c H locs ce sl Q (F0 m pc ls (st.map sw_v))
theorem sw_at {ls : Array Slot} {nL : Nat} {lv : List (Nat × sw_U)} (h : lv_has ls nL (lv.map sw_q)) (k : Nat) {i : Nat} {v : sw_U} (hk : lv[k]? = some (i, v)) : ls[i]? = some (.val (sw_v v)) := lv_at h k (by rw [List.getElem?_map, hk]; rfl)
section SW
variable {p : Program} {l : Launch} {e : Env} {R : Room} {s : State} {m : MethodId} {args : Array Value} {below : List Frame} {meth : Method} {c : Code} {Q : State → Prop} {nL : Nat} {A : Nat → Prop} {D : va_G} {cT : Nat → ClassId} {cc : ByteArray} {own : String} {σ : sw_S} {ce sl pc : Nat} {lv : List (Nat × sw_U)} {st : List sw_U}
theorem g_iconst (K : sw_C p s m args c cc nL own A D cT) {n : Int} {v : Int32} (hdg : decode cc pc = .ok (.iconst n, 1)) (hv : Int32.ofInt n = v) (kk : sw_G p l e R s m args below meth c Q nL A D cT σ ce sl (pc + 1) lv (I_ v :: st)) : sw_G p l e R s m args below meth c Q nL A D cT σ ce sl pc lv (st) := by
  intro H locs ls hl hP hD hS
  exact lv_iconst K.1.1 K.1.2.1 hdg hv (kk H locs ls hl hP hD hS)
theorem g_bipush (K : sw_C p s m args c cc nL own A D cT) {n : Int} {v : Int32} (hdg : decode cc pc = .ok (.bipush n, 2)) (hv : (Int8.ofInt n).toInt32 = v) (kk : sw_G p l e R s m args below meth c Q nL A D cT σ ce sl (pc + 2) lv (I_ v :: st)) : sw_G p l e R s m args below meth c Q nL A D cT σ ce sl pc lv (st) := by
  intro H locs ls hl hP hD hS
  exact lv_bipush K.1.1 K.1.2.1 hdg hv (kk H locs ls hl hP hD hS)
theorem g_sipush (K : sw_C p s m args c cc nL own A D cT) {n : Int} {v : Int32} (hdg : decode cc pc = .ok (.sipush n, 3)) (hv : (Int16.ofInt n).toInt32 = v) (kk : sw_G p l e R s m args below meth c Q nL A D cT σ ce sl (pc + 3) lv (I_ v :: st)) : sw_G p l e R s m args below meth c Q nL A D cT σ ce sl pc lv (st) := by
  intro H locs ls hl hP hD hS
  exact lv_sipush K.1.1 K.1.2.1 hdg hv (kk H locs ls hl hP hD hS)
theorem g_lconst (K : sw_C p s m args c cc nL own A D cT) {n : Fin 2} {v : Int64} (hdg : decode cc pc = .ok (.lconst n, 1)) (hv : Int64.ofNat (n : Nat) = v) (kk : sw_G p l e R s m args below meth c Q nL A D cT σ ce sl (pc + 1) lv (J_ v :: st)) : sw_G p l e R s m args below meth c Q nL A D cT σ ce sl pc lv (st) := by
  intro H locs ls hl hP hD hS
  exact lv_lconst K.1.1 K.1.2.1 hdg hv (kk H locs ls hl hP hD hS)
theorem g_iadd (K : sw_C p s m args c cc nL own A D cT) {x y : Int32} (hdg : decode cc pc = .ok (.iadd, 1)) (kk : sw_G p l e R s m args below meth c Q nL A D cT σ ce sl (pc + 1) lv (I_ (x + y) :: st)) : sw_G p l e R s m args below meth c Q nL A D cT σ ce sl pc lv (I_ y :: I_ x :: st) := by
  intro H locs ls hl hP hD hS
  exact lv_iadd K.1.1 K.1.2.1 hdg  (kk H locs ls hl hP hD hS)
theorem g_isub (K : sw_C p s m args c cc nL own A D cT) {x y : Int32} (hdg : decode cc pc = .ok (.isub, 1)) (kk : sw_G p l e R s m args below meth c Q nL A D cT σ ce sl (pc + 1) lv (I_ (x - y) :: st)) : sw_G p l e R s m args below meth c Q nL A D cT σ ce sl pc lv (I_ y :: I_ x :: st) := by
  intro H locs ls hl hP hD hS
  exact lv_isub K.1.1 K.1.2.1 hdg  (kk H locs ls hl hP hD hS)
theorem g_imul (K : sw_C p s m args c cc nL own A D cT) {x y : Int32} (hdg : decode cc pc = .ok (.imul, 1)) (kk : sw_G p l e R s m args below meth c Q nL A D cT σ ce sl (pc + 1) lv (I_ (x * y) :: st)) : sw_G p l e R s m args below meth c Q nL A D cT σ ce sl pc lv (I_ y :: I_ x :: st) := by
  intro H locs ls hl hP hD hS
  exact lv_imul K.1.1 K.1.2.1 hdg  (kk H locs ls hl hP hD hS)
theorem g_iand (K : sw_C p s m args c cc nL own A D cT) {x y : Int32} (hdg : decode cc pc = .ok (.iand, 1)) (kk : sw_G p l e R s m args below meth c Q nL A D cT σ ce sl (pc + 1) lv (I_ (x &&& y) :: st)) : sw_G p l e R s m args below meth c Q nL A D cT σ ce sl pc lv (I_ y :: I_ x :: st) := by
  intro H locs ls hl hP hD hS
  exact lv_iand K.1.1 K.1.2.1 hdg  (kk H locs ls hl hP hD hS)
theorem g_ixor (K : sw_C p s m args c cc nL own A D cT) {x y : Int32} (hdg : decode cc pc = .ok (.ixor, 1)) (kk : sw_G p l e R s m args below meth c Q nL A D cT σ ce sl (pc + 1) lv (I_ (x ^^^ y) :: st)) : sw_G p l e R s m args below meth c Q nL A D cT σ ce sl pc lv (I_ y :: I_ x :: st) := by
  intro H locs ls hl hP hD hS
  exact lv_ixor K.1.1 K.1.2.1 hdg  (kk H locs ls hl hP hD hS)
theorem g_idiv (K : sw_C p s m args c cc nL own A D cT) {x y : Int32} (hdg : decode cc pc = .ok (.idiv, 1)) (hne : ¬ y = 0) (kk : sw_G p l e R s m args below meth c Q nL A D cT σ ce sl (pc + 1) lv (I_ (x / y) :: st)) : sw_G p l e R s m args below meth c Q nL A D cT σ ce sl pc lv (I_ y :: I_ x :: st) := by
  intro H locs ls hl hP hD hS
  exact lv_idiv K.1.1 K.1.2.1 hdg hne (kk H locs ls hl hP hD hS)
theorem g_irem (K : sw_C p s m args c cc nL own A D cT) {x y : Int32} (hdg : decode cc pc = .ok (.irem, 1)) (hne : ¬ y = 0) (kk : sw_G p l e R s m args below meth c Q nL A D cT σ ce sl (pc + 1) lv (I_ (x - x / y * y) :: st)) : sw_G p l e R s m args below meth c Q nL A D cT σ ce sl pc lv (I_ y :: I_ x :: st) := by
  intro H locs ls hl hP hD hS
  exact lv_irem K.1.1 K.1.2.1 hdg hne (kk H locs ls hl hP hD hS)
theorem g_iushr (K : sw_C p s m args c cc nL own A D cT) {x y : Int32} (hdg : decode cc pc = .ok (.iushr, 1)) (kk : sw_G p l e R s m args below meth c Q nL A D cT σ ce sl (pc + 1) lv (I_ ((x.toUInt32 >>> (y.toUInt32 &&& Int32.toUInt32 31)).toInt32) :: st)) : sw_G p l e R s m args below meth c Q nL A D cT σ ce sl pc lv (I_ y :: I_ x :: st) := by
  intro H locs ls hl hP hD hS
  exact lv_iushr K.1.1 K.1.2.1 hdg rfl (kk H locs ls hl hP hD hS)
theorem g_ladd (K : sw_C p s m args c cc nL own A D cT) {x y : Int64} (hdg : decode cc pc = .ok (.ladd, 1)) (kk : sw_G p l e R s m args below meth c Q nL A D cT σ ce sl (pc + 1) lv (J_ (x + y) :: st)) : sw_G p l e R s m args below meth c Q nL A D cT σ ce sl pc lv (J_ y :: J_ x :: st) := by
  intro H locs ls hl hP hD hS
  exact lv_ladd K.1.1 K.1.2.1 hdg  (kk H locs ls hl hP hD hS)
theorem g_lsub (K : sw_C p s m args c cc nL own A D cT) {x y : Int64} (hdg : decode cc pc = .ok (.lsub, 1)) (kk : sw_G p l e R s m args below meth c Q nL A D cT σ ce sl (pc + 1) lv (J_ (x - y) :: st)) : sw_G p l e R s m args below meth c Q nL A D cT σ ce sl pc lv (J_ y :: J_ x :: st) := by
  intro H locs ls hl hP hD hS
  exact lv_lsub K.1.1 K.1.2.1 hdg  (kk H locs ls hl hP hD hS)
theorem g_i2l (K : sw_C p s m args c cc nL own A D cT) {x : Int32} (hdg : decode cc pc = .ok (.i2l, 1)) (kk : sw_G p l e R s m args below meth c Q nL A D cT σ ce sl (pc + 1) lv (J_ (x.toInt64) :: st)) : sw_G p l e R s m args below meth c Q nL A D cT σ ce sl pc lv (I_ x :: st) := by
  intro H locs ls hl hP hD hS
  exact lv_i2l K.1.1 K.1.2.1 hdg rfl (kk H locs ls hl hP hD hS)
theorem g_lcmp (K : sw_C p s m args c cc nL own A D cT) {x y : Int64} (hdg : decode cc pc = .ok (.lcmp, 1)) (kk : sw_G p l e R s m args below meth c Q nL A D cT σ ce sl (pc + 1) lv (I_ (lg_cmp x y) :: st)) : sw_G p l e R s m args below meth c Q nL A D cT σ ce sl pc lv (J_ y :: J_ x :: st) := by
  intro H locs ls hl hP hD hS
  exact W.lcmp K.1.1 K.1.2.1 hdg  (kk H locs ls hl hP hD hS)
theorem g_null (K : sw_C p s m args c cc nL own A D cT) (hdg : decode cc pc = .ok (.aconst_null, 1)) (kk : sw_G p l e R s m args below meth c Q nL A D cT σ ce sl (pc + 1) lv (P_ none :: st)) : sw_G p l e R s m args below meth c Q nL A D cT σ ce sl pc lv (st) := by
  intro H locs ls hl hP hD hS
  exact lv_null K.1.1 K.1.2.1 hdg  (kk H locs ls hl hP hD hS)
theorem g_dup (K : sw_C p s m args c cc nL own A D cT) {u : sw_U} (h2 : sw_2 u = false) (hdg : decode cc pc = .ok (.dup, 1)) (kk : sw_G p l e R s m args below meth c Q nL A D cT σ ce sl (pc + 1) lv (u :: u :: st)) : sw_G p l e R s m args below meth c Q nL A D cT σ ce sl pc lv (u :: st) := by
  intro H locs ls hl hP hD hS
  refine lv_dup K.1.1 K.1.2.1 hdg ?_ (kk H locs ls hl hP hD hS)
  rcases u with x | x | r
  · rfl
  · cases h2
  · cases r <;> rfl
theorem g_dup2 (K : sw_C p s m args c cc nL own A D cT) {u v : sw_U} (h2 : sw_2 u = false) (h3 : sw_2 v = false) (hdg : decode cc pc = .ok (.dup2, 1)) (kk : sw_G p l e R s m args below meth c Q nL A D cT σ ce sl (pc + 1) lv (u :: v :: u :: v :: st)) : sw_G p l e R s m args below meth c Q nL A D cT σ ce sl pc lv (u :: v :: st) := by
  intro H locs ls hl hP hD hS
  refine lv_dup2_11 K.1.1 K.1.2.1 hdg ?_ ?_ (kk H locs ls hl hP hD hS)
  · rcases u with x | x | r
    · rfl
    · cases h2
    · cases r <;> rfl
  · rcases v with x | x | r
    · rfl
    · cases h3
    · cases r <;> rfl
theorem g_ldc (K : sw_C p s m args c cc nL own A D cT) {index : Nat} {v : Int32} (hc : Cond.constant own index v ∈ sw_Tb) (hdg : decode cc pc = .ok (.ldc index, 2)) (kk : sw_G p l e R s m args below meth c Q nL A D cT σ ce sl (pc + 2) lv (I_ v :: st)) : sw_G p l e R s m args below meth c Q nL A D cT σ ce sl pc lv st := by
  intro H locs ls hl hP hD hS
  exact lv_ldc K.1.1 K.1.2.1 K.1.2.2.2.1 (K.1.2.2.2.2 _ hc) hdg (kk H locs ls hl hP hD hS)
theorem g_ldc2 (K : sw_C p s m args c cc nL own A D cT) {index : Nat} {v : Int64} (hc : Cond.constantLong own index v ∈ sw_Tb) (hdg : decode cc pc = .ok (.ldc2_w index, 3)) (kk : sw_G p l e R s m args below meth c Q nL A D cT σ ce sl (pc + 3) lv (J_ v :: st)) : sw_G p l e R s m args below meth c Q nL A D cT σ ce sl pc lv st := by
  intro H locs ls hl hP hD hS
  exact lv_ldc2 K.1.1 K.1.2.1 K.1.2.2.2.1 (K.1.2.2.2.2 _ hc) hdg (kk H locs ls hl hP hD hS)
theorem g_iload_n (K : sw_C p s m args c cc nL own A D cT) (k : Nat) {j : Fin 4} {i : Nat} {x : Int32} (hk : lv[k]? = some (i, I_ x)) (hi : (j : Nat) = i) (hdg : decode cc pc = .ok (.iload_n j, 1)) (kk : sw_G p l e R s m args below meth c Q nL A D cT σ ce sl (pc + 1) lv (I_ x :: st)) : sw_G p l e R s m args below meth c Q nL A D cT σ ce sl pc lv st := by
  intro H locs ls hl hP hD hS
  exact lv_iload_n K.1.1 K.1.2.1 hdg hi (sw_at hl k hk) (kk H locs ls hl hP hD hS)
theorem g_iload (K : sw_C p s m args c cc nL own A D cT) (k : Nat) {i : Nat} {x : Int32} (hk : lv[k]? = some (i, I_ x)) (hdg : decode cc pc = .ok (.iload i, 2)) (kk : sw_G p l e R s m args below meth c Q nL A D cT σ ce sl (pc + 2) lv (I_ x :: st)) : sw_G p l e R s m args below meth c Q nL A D cT σ ce sl pc lv st := by
  intro H locs ls hl hP hD hS
  exact lv_iload K.1.1 K.1.2.1 hdg (sw_at hl k hk) (kk H locs ls hl hP hD hS)
theorem g_lload_n (K : sw_C p s m args c cc nL own A D cT) (k : Nat) {j : Fin 4} {i : Nat} {x : Int64} (hk : lv[k]? = some (i, J_ x)) (hi : (j : Nat) = i) (hdg : decode cc pc = .ok (.lload_n j, 1)) (kk : sw_G p l e R s m args below meth c Q nL A D cT σ ce sl (pc + 1) lv (J_ x :: st)) : sw_G p l e R s m args below meth c Q nL A D cT σ ce sl pc lv st := by
  intro H locs ls hl hP hD hS
  exact lv_lload_n K.1.1 K.1.2.1 hdg hi (sw_at hl k hk) (kk H locs ls hl hP hD hS)
theorem g_lload (K : sw_C p s m args c cc nL own A D cT) (k : Nat) {i : Nat} {x : Int64} (hk : lv[k]? = some (i, J_ x)) (hdg : decode cc pc = .ok (.lload i, 2)) (kk : sw_G p l e R s m args below meth c Q nL A D cT σ ce sl (pc + 2) lv (J_ x :: st)) : sw_G p l e R s m args below meth c Q nL A D cT σ ce sl pc lv st := by
  intro H locs ls hl hP hD hS
  exact lv_lload K.1.1 K.1.2.1 hdg (sw_at hl k hk) (kk H locs ls hl hP hD hS)
theorem g_aload_n (K : sw_C p s m args c cc nL own A D cT) (k : Nat) {j : Fin 4} {i : Nat} {r : Option Nat} (hk : lv[k]? = some (i, P_ r)) (hi : (j : Nat) = i) (hdg : decode cc pc = .ok (.aload_n j, 1)) (kk : sw_G p l e R s m args below meth c Q nL A D cT σ ce sl (pc + 1) lv (P_ r :: st)) : sw_G p l e R s m args below meth c Q nL A D cT σ ce sl pc lv st := by
  intro H locs ls hl hP hD hS
  have hh := sw_at hl k hk
  have kq := kk H locs ls hl hP hD hS
  cases r with
  | none => exact lv_aload_nN K.1.1 K.1.2.1 hdg hi hh kq
  | some a => exact lv_aload_n K.1.1 K.1.2.1 hdg hi hh kq
theorem g_aload (K : sw_C p s m args c cc nL own A D cT) (k : Nat) {i : Nat} {r : Option Nat} (hk : lv[k]? = some (i, P_ r)) (hdg : decode cc pc = .ok (.aload i, 2)) (kk : sw_G p l e R s m args below meth c Q nL A D cT σ ce sl (pc + 2) lv (P_ r :: st)) : sw_G p l e R s m args below meth c Q nL A D cT σ ce sl pc lv st := by
  intro H locs ls hl hP hD hS
  have hh := sw_at hl k hk
  have kq := kk H locs ls hl hP hD hS
  cases r with
  | none => exact lv_aloadN K.1.1 K.1.2.1 hdg hh kq
  | some a => exact lv_aload K.1.1 K.1.2.1 hdg hh kq
theorem g_istore_n (K : sw_C p s m args c cc nL own A D cT) {j : Fin 4} {i : Nat} {x : Int32} (lv' : List (Nat × sw_U)) (hi : (j : Nat) = i) (hn : i < nL) (hv : sw_ls i (I_ x) lv = lv') (hdg : decode cc pc = .ok (.istore_n j, 1)) (kk : sw_G p l e R s m args below meth c Q nL A D cT σ ce sl (pc + 1) lv' st) : sw_G p l e R s m args below meth c Q nL A D cT σ ce sl pc lv (I_ x :: st) := by
  intro H locs ls hl hP hD hS
  subst hv
  exact lv_istore_n K.1.1 K.1.2.1 hdg hi hl hn (sw_ls_eq i (I_ x) lv) (fun ls' hl' => kk H locs ls' hl' hP hD hS)
theorem g_istore (K : sw_C p s m args c cc nL own A D cT) {i : Nat} {x : Int32} (lv' : List (Nat × sw_U)) (hn : i < nL) (hv : sw_ls i (I_ x) lv = lv') (hdg : decode cc pc = .ok (.istore i, 2)) (kk : sw_G p l e R s m args below meth c Q nL A D cT σ ce sl (pc + 2) lv' st) : sw_G p l e R s m args below meth c Q nL A D cT σ ce sl pc lv (I_ x :: st) := by
  intro H locs ls hl hP hD hS
  subst hv
  exact lv_istore K.1.1 K.1.2.1 hdg hl hn (sw_ls_eq i (I_ x) lv) (fun ls' hl' => kk H locs ls' hl' hP hD hS)
theorem g_lstore_n (K : sw_C p s m args c cc nL own A D cT) {j : Fin 4} {i : Nat} {x : Int64} (lv' : List (Nat × sw_U)) (hi : (j : Nat) = i) (hn : i + 1 < nL) (hv : sw_l2 i (J_ x) lv = lv') (hdg : decode cc pc = .ok (.lstore_n j, 1)) (kk : sw_G p l e R s m args below meth c Q nL A D cT σ ce sl (pc + 1) lv' st) : sw_G p l e R s m args below meth c Q nL A D cT σ ce sl pc lv (J_ x :: st) := by
  intro H locs ls hl hP hD hS
  subst hv
  exact lv_lstore_n K.1.1 K.1.2.1 hdg hi hl hn (sw_l2_eq i (J_ x) lv) (fun ls' hl' => kk H locs ls' hl' hP hD hS)
theorem g_lstore (K : sw_C p s m args c cc nL own A D cT) {i : Nat} {x : Int64} (lv' : List (Nat × sw_U)) (hn : i + 1 < nL) (hv : sw_l2 i (J_ x) lv = lv') (hdg : decode cc pc = .ok (.lstore i, 2)) (kk : sw_G p l e R s m args below meth c Q nL A D cT σ ce sl (pc + 2) lv' st) : sw_G p l e R s m args below meth c Q nL A D cT σ ce sl pc lv (J_ x :: st) := by
  intro H locs ls hl hP hD hS
  subst hv
  exact lv_lstore K.1.1 K.1.2.1 hdg hl hn (sw_l2_eq i (J_ x) lv) (fun ls' hl' => kk H locs ls' hl' hP hD hS)
theorem g_astore_n (K : sw_C p s m args c cc nL own A D cT) {j : Fin 4} {i : Nat} {r : Option Nat} (lv' : List (Nat × sw_U)) (hi : (j : Nat) = i) (hn : i < nL) (hv : sw_ls i (P_ r) lv = lv') (hdg : decode cc pc = .ok (.astore_n j, 1)) (kk : sw_G p l e R s m args below meth c Q nL A D cT σ ce sl (pc + 1) lv' st) : sw_G p l e R s m args below meth c Q nL A D cT σ ce sl pc lv (P_ r :: st) := by
  intro H locs ls hl hP hD hS
  subst hv
  have he := sw_ls_eq i (P_ r) lv
  have kq := fun ls' hl' => kk H locs ls' hl' hP hD hS
  cases r with
  | none => exact lv_astore_nN K.1.1 K.1.2.1 hdg hi hl hn he kq
  | some a => exact lv_astore_n K.1.1 K.1.2.1 hdg hi hl hn he kq
theorem g_astore (K : sw_C p s m args c cc nL own A D cT) {i : Nat} {r : Option Nat} (lv' : List (Nat × sw_U)) (hn : i < nL) (hv : sw_ls i (P_ r) lv = lv') (hdg : decode cc pc = .ok (.astore i, 2)) (kk : sw_G p l e R s m args below meth c Q nL A D cT σ ce sl (pc + 2) lv' st) : sw_G p l e R s m args below meth c Q nL A D cT σ ce sl pc lv (P_ r :: st) := by
  intro H locs ls hl hP hD hS
  subst hv
  have he := sw_ls_eq i (P_ r) lv
  have kq := fun ls' hl' => kk H locs ls' hl' hP hD hS
  cases r with
  | none => exact lv_astoreN K.1.1 K.1.2.1 hdg hl hn he kq
  | some a => exact lv_astore K.1.1 K.1.2.1 hdg hl hn he kq
theorem g_iinc (K : sw_C p s m args c cc nL own A D cT) (k : Nat) {i : Nat} {n : Int} {x : Int32} (v : Int32) (lv' : List (Nat × sw_U)) (hk : lv[k]? = some (i, I_ x)) (hx : x + Int32.ofInt n = v) (hn : i < nL) (hv : sw_ls i (I_ v) lv = lv') (hdg : decode cc pc = .ok (.iinc i n, 3)) (kk : sw_G p l e R s m args below meth c Q nL A D cT σ ce sl (pc + 3) lv' st) : sw_G p l e R s m args below meth c Q nL A D cT σ ce sl pc lv st := by
  intro H locs ls hl hP hD hS
  subst hv
  exact lv_iinc K.1.1 K.1.2.1 hdg hl (k := k) (by rw [List.getElem?_map, hk]; rfl) hx hn (sw_ls_eq i (I_ v) lv) (fun ls' hl' => kk H locs ls' hl' hP hD hS)
theorem g_sub (K : sw_C p s m args c cc nL own A D cT) (ks : List Nat) {lv' : List (Nat × sw_U)} (hv : ks.filterMap (fun k => lv[k]?) = lv') (kk : sw_G p l e R s m args below meth c Q nL A D cT σ ce sl pc lv' st) : sw_G p l e R s m args below meth c Q nL A D cT σ ce sl pc lv st := by
  intro H locs ls hl hP hD hS
  subst hv
  refine kk H locs ls ⟨hl.1, hl.2.1, fun q hq => ?_⟩ hP hD hS
  obtain ⟨q', h1, rfl⟩ := List.mem_map.mp hq
  obtain ⟨k, -, hk⟩ := List.mem_filterMap.mp h1
  exact hl.2.2 _ (List.mem_map.mpr ⟨q', List.mem_of_getElem? hk, rfl⟩)
theorem g_room {ce' sl' : Nat} (h1 : ce ≤ ce') (h2 : sl ≤ sl') (kk : sw_G p l e R s m args below meth c Q nL A D cT σ ce' sl' pc lv st) : sw_G p l e R s m args below meth c Q nL A D cT σ ce sl pc lv st := by
  intro H locs ls hl hP hD hS
  exact W.widen h1 h2 (kk H locs ls hl hP hD hS)
theorem g_goto (K : sw_C p s m args c cc nL own A D cT) {off : Int} {tgt : Nat} (hdg : decode cc pc = .ok (.goto off, 3)) (ht : (pc : Int) + off = (tgt : Int)) (kk : sw_G p l e R s m args below meth c Q nL A D cT σ ce sl tgt lv st) : sw_G p l e R s m args below meth c Q nL A D cT σ ce sl pc lv st := by
  intro H locs ls hl hP hD hS
  exact lv_goto K.1.1 K.1.2.1 hdg ht (kk H locs ls hl hP hD hS)
theorem g_if_eq (K : sw_C p s m args c cc nL own A D cT) {x : Int32} {off : Int} (tgt : Nat) (hdg : decode cc pc = .ok (.ifCond .eq off, 3)) (ht : (pc : Int) + off = (tgt : Int)) (kt : x = 0 → sw_G p l e R s m args below meth c Q nL A D cT σ ce sl tgt lv st) (kf : ¬ x = 0 → sw_G p l e R s m args below meth c Q nL A D cT σ ce sl (pc + 3) lv st) : sw_G p l e R s m args below meth c Q nL A D cT σ ce sl pc lv (I_ x :: st) := by
  intro H locs ls hl hP hD hS
  exact lv_if_eq K.1.1 K.1.2.1 hdg ht (fun h => kt h H locs ls hl hP hD hS) (fun h => kf h H locs ls hl hP hD hS)
theorem g_icmp_eq (K : sw_C p s m args c cc nL own A D cT) {x y : Int32} {off : Int} (tgt : Nat) (hdg : decode cc pc = .ok (.if_icmp .eq off, 3)) (ht : (pc : Int) + off = (tgt : Int)) (kt : x = y → sw_G p l e R s m args below meth c Q nL A D cT σ ce sl tgt lv st) (kf : ¬ x = y → sw_G p l e R s m args below meth c Q nL A D cT σ ce sl (pc + 3) lv st) : sw_G p l e R s m args below meth c Q nL A D cT σ ce sl pc lv (I_ y :: I_ x :: st) := by
  intro H locs ls hl hP hD hS
  exact lv_icmp_eq K.1.1 K.1.2.1 hdg ht (fun h => kt h H locs ls hl hP hD hS) (fun h => kf h H locs ls hl hP hD hS)
theorem g_if_ne (K : sw_C p s m args c cc nL own A D cT) {x : Int32} {off : Int} (tgt : Nat) (hdg : decode cc pc = .ok (.ifCond .ne off, 3)) (ht : (pc : Int) + off = (tgt : Int)) (kf : x = 0 → sw_G p l e R s m args below meth c Q nL A D cT σ ce sl (pc + 3) lv st) (kt : ¬ x = 0 → sw_G p l e R s m args below meth c Q nL A D cT σ ce sl tgt lv st) : sw_G p l e R s m args below meth c Q nL A D cT σ ce sl pc lv (I_ x :: st) := by
  intro H locs ls hl hP hD hS
  exact lv_if_ne K.1.1 K.1.2.1 hdg ht (fun h => kt h H locs ls hl hP hD hS) (fun h => kf h H locs ls hl hP hD hS)
theorem g_icmp_ne (K : sw_C p s m args c cc nL own A D cT) {x y : Int32} {off : Int} (tgt : Nat) (hdg : decode cc pc = .ok (.if_icmp .ne off, 3)) (ht : (pc : Int) + off = (tgt : Int)) (kf : x = y → sw_G p l e R s m args below meth c Q nL A D cT σ ce sl (pc + 3) lv st) (kt : ¬ x = y → sw_G p l e R s m args below meth c Q nL A D cT σ ce sl tgt lv st) : sw_G p l e R s m args below meth c Q nL A D cT σ ce sl pc lv (I_ y :: I_ x :: st) := by
  intro H locs ls hl hP hD hS
  exact lv_icmp_ne K.1.1 K.1.2.1 hdg ht (fun h => kt h H locs ls hl hP hD hS) (fun h => kf h H locs ls hl hP hD hS)
theorem g_if_lt (K : sw_C p s m args c cc nL own A D cT) {x : Int32} {off : Int} (tgt : Nat) (hdg : decode cc pc = .ok (.ifCond .lt off, 3)) (ht : (pc : Int) + off = (tgt : Int)) (kt : x < 0 → sw_G p l e R s m args below meth c Q nL A D cT σ ce sl tgt lv st) (kf : ¬ x < 0 → sw_G p l e R s m args below meth c Q nL A D cT σ ce sl (pc + 3) lv st) : sw_G p l e R s m args below meth c Q nL A D cT σ ce sl pc lv (I_ x :: st) := by
  intro H locs ls hl hP hD hS
  exact lv_if_lt K.1.1 K.1.2.1 hdg ht (fun h => kt h H locs ls hl hP hD hS) (fun h => kf h H locs ls hl hP hD hS)
theorem g_icmp_lt (K : sw_C p s m args c cc nL own A D cT) {x y : Int32} {off : Int} (tgt : Nat) (hdg : decode cc pc = .ok (.if_icmp .lt off, 3)) (ht : (pc : Int) + off = (tgt : Int)) (kt : x < y → sw_G p l e R s m args below meth c Q nL A D cT σ ce sl tgt lv st) (kf : ¬ x < y → sw_G p l e R s m args below meth c Q nL A D cT σ ce sl (pc + 3) lv st) : sw_G p l e R s m args below meth c Q nL A D cT σ ce sl pc lv (I_ y :: I_ x :: st) := by
  intro H locs ls hl hP hD hS
  exact lv_icmp_lt K.1.1 K.1.2.1 hdg ht (fun h => kt h H locs ls hl hP hD hS) (fun h => kf h H locs ls hl hP hD hS)
theorem g_if_ge (K : sw_C p s m args c cc nL own A D cT) {x : Int32} {off : Int} (tgt : Nat) (hdg : decode cc pc = .ok (.ifCond .ge off, 3)) (ht : (pc : Int) + off = (tgt : Int)) (kt : 0 ≤ x → sw_G p l e R s m args below meth c Q nL A D cT σ ce sl tgt lv st) (kf : ¬ 0 ≤ x → sw_G p l e R s m args below meth c Q nL A D cT σ ce sl (pc + 3) lv st) : sw_G p l e R s m args below meth c Q nL A D cT σ ce sl pc lv (I_ x :: st) := by
  intro H locs ls hl hP hD hS
  exact lv_if_ge K.1.1 K.1.2.1 hdg ht (fun h => kt h H locs ls hl hP hD hS) (fun h => kf h H locs ls hl hP hD hS)
theorem g_icmp_ge (K : sw_C p s m args c cc nL own A D cT) {x y : Int32} {off : Int} (tgt : Nat) (hdg : decode cc pc = .ok (.if_icmp .ge off, 3)) (ht : (pc : Int) + off = (tgt : Int)) (kt : y ≤ x → sw_G p l e R s m args below meth c Q nL A D cT σ ce sl tgt lv st) (kf : ¬ y ≤ x → sw_G p l e R s m args below meth c Q nL A D cT σ ce sl (pc + 3) lv st) : sw_G p l e R s m args below meth c Q nL A D cT σ ce sl pc lv (I_ y :: I_ x :: st) := by
  intro H locs ls hl hP hD hS
  exact lv_icmp_ge K.1.1 K.1.2.1 hdg ht (fun h => kt h H locs ls hl hP hD hS) (fun h => kf h H locs ls hl hP hD hS)
theorem g_if_gt (K : sw_C p s m args c cc nL own A D cT) {x : Int32} {off : Int} (tgt : Nat) (hdg : decode cc pc = .ok (.ifCond .gt off, 3)) (ht : (pc : Int) + off = (tgt : Int)) (kt : 0 < x → sw_G p l e R s m args below meth c Q nL A D cT σ ce sl tgt lv st) (kf : ¬ 0 < x → sw_G p l e R s m args below meth c Q nL A D cT σ ce sl (pc + 3) lv st) : sw_G p l e R s m args below meth c Q nL A D cT σ ce sl pc lv (I_ x :: st) := by
  intro H locs ls hl hP hD hS
  exact lv_if_gt K.1.1 K.1.2.1 hdg ht (fun h => kt h H locs ls hl hP hD hS) (fun h => kf h H locs ls hl hP hD hS)
theorem g_icmp_gt (K : sw_C p s m args c cc nL own A D cT) {x y : Int32} {off : Int} (tgt : Nat) (hdg : decode cc pc = .ok (.if_icmp .gt off, 3)) (ht : (pc : Int) + off = (tgt : Int)) (kt : y < x → sw_G p l e R s m args below meth c Q nL A D cT σ ce sl tgt lv st) (kf : ¬ y < x → sw_G p l e R s m args below meth c Q nL A D cT σ ce sl (pc + 3) lv st) : sw_G p l e R s m args below meth c Q nL A D cT σ ce sl pc lv (I_ y :: I_ x :: st) := by
  intro H locs ls hl hP hD hS
  exact lv_icmp_gt K.1.1 K.1.2.1 hdg ht (fun h => kt h H locs ls hl hP hD hS) (fun h => kf h H locs ls hl hP hD hS)
theorem g_if_le (K : sw_C p s m args c cc nL own A D cT) {x : Int32} {off : Int} (tgt : Nat) (hdg : decode cc pc = .ok (.ifCond .le off, 3)) (ht : (pc : Int) + off = (tgt : Int)) (kt : x ≤ 0 → sw_G p l e R s m args below meth c Q nL A D cT σ ce sl tgt lv st) (kf : ¬ x ≤ 0 → sw_G p l e R s m args below meth c Q nL A D cT σ ce sl (pc + 3) lv st) : sw_G p l e R s m args below meth c Q nL A D cT σ ce sl pc lv (I_ x :: st) := by
  intro H locs ls hl hP hD hS
  exact lv_if_le K.1.1 K.1.2.1 hdg ht (fun h => kt h H locs ls hl hP hD hS) (fun h => kf h H locs ls hl hP hD hS)
theorem g_icmp_le (K : sw_C p s m args c cc nL own A D cT) {x y : Int32} {off : Int} (tgt : Nat) (hdg : decode cc pc = .ok (.if_icmp .le off, 3)) (ht : (pc : Int) + off = (tgt : Int)) (kt : x ≤ y → sw_G p l e R s m args below meth c Q nL A D cT σ ce sl tgt lv st) (kf : ¬ x ≤ y → sw_G p l e R s m args below meth c Q nL A D cT σ ce sl (pc + 3) lv st) : sw_G p l e R s m args below meth c Q nL A D cT σ ce sl pc lv (I_ y :: I_ x :: st) := by
  intro H locs ls hl hP hD hS
  exact lv_icmp_le K.1.1 K.1.2.1 hdg ht (fun h => kt h H locs ls hl hP hD hS) (fun h => kf h H locs ls hl hP hD hS)
theorem g_ifnull (K : sw_C p s m args c cc nL own A D cT) {r : Option Nat} {off : Int} (tgt : Nat) (hdg : decode cc pc = .ok (.ifnull off, 3)) (ht : (pc : Int) + off = (tgt : Int)) (kt : r = none → sw_G p l e R s m args below meth c Q nL A D cT σ ce sl tgt lv st) (kf : ¬ r = none → sw_G p l e R s m args below meth c Q nL A D cT σ ce sl (pc + 3) lv st) : sw_G p l e R s m args below meth c Q nL A D cT σ ce sl pc lv (P_ r :: st) := by
  intro H locs ls hl hP hD hS
  cases r with
  | none => exact lv_ifnullN K.1.1 K.1.2.1 hdg ht (kt rfl H locs ls hl hP hD hS)
  | some a => exact lv_ifnull K.1.1 K.1.2.1 hdg (kf (fun h => by cases h) H locs ls hl hP hD hS)
theorem g_get (K : sw_C p s m args c cc nL own A D cT) {ref Cn : String} {T : u_T} {N index : Nat} {ci a k : Nat} (hc : vwCl[ci]? = some (Cn, T, N)) (hin : ∀ w ∈ u_ws Cn T N, w ∈ sw_Tb) (hk : k < N) (hlink : Cond.fieldLink own index ref (T k).2.1 (T k).2.2.1 ∈ sw_Tb) (hsame : (T k).1 = ref) {u : sw_U} {fs : List Value} (ho : σ.2 a = some (.inr (ci, fs))) (hv : fs[k]? = some (sw_v u)) (hdg : decode cc pc = .ok (.getfield index, 3)) (kk : sw_G p l e R s m args below meth c Q nL A D cT σ ce sl (pc + 3) lv (u :: st)) : sw_G p l e R s m args below meth c Q nL A D cT σ ce sl pc lv (P_ (some a) :: st) := by
  intro H locs ls hl hP hD hS
  have hP1 : va_P D vwCl [(a, sw_V cT (.inr (ci, fs)))] H := fun j q hj => by
    match j, hj with
    | 0, hj => cases hj; exact hP.2 a _ ho
    | j + 1, hj => simp at hj
  subst hsame
  exact va_get K.1.1 K.1.2.1 K.1.2.2.2.2 hin K.1.2.2.2.1 K.2.1.1 hP1 0 (fs := fs) rfl hc k hk (K.1.2.2.2.2 _ hlink) (fun _ h => h) hv hdg (kk H locs ls hl hP hD hS)
theorem g_getI (K : sw_C p s m args c cc nL own A D cT) {ref Cn : String} {T : u_T} {N index : Nat} {ci a k : Nat} (hc : vwCl[ci]? = some (Cn, T, N)) (hin : ∀ w ∈ u_ws Cn T N, w ∈ sw_Tb) (hk : k < N) (hlink : Cond.fieldLink own index ref (T k).2.1 (T k).2.2.1 ∈ sw_Tb) (hsame : (T k).1 = ref) {x : Int32} (h : sw_gI ci a k σ = some x) (hdg : decode cc pc = .ok (.getfield index, 3)) (kk : sw_G p l e R s m args below meth c Q nL A D cT σ ce sl (pc + 3) lv (I_ x :: st)) : sw_G p l e R s m args below meth c Q nL A D cT σ ce sl pc lv (P_ (some a) :: st) := by
  obtain ⟨fs, h1, h2⟩ := sw_gI_eq h
  exact g_get (u := I_ x) K hc hin hk hlink hsame h1 h2 hdg kk
theorem g_getR (K : sw_C p s m args c cc nL own A D cT) {ref Cn : String} {T : u_T} {N index : Nat} {ci a k : Nat} (hc : vwCl[ci]? = some (Cn, T, N)) (hin : ∀ w ∈ u_ws Cn T N, w ∈ sw_Tb) (hk : k < N) (hlink : Cond.fieldLink own index ref (T k).2.1 (T k).2.2.1 ∈ sw_Tb) (hsame : (T k).1 = ref) {x : Option Nat} (h : sw_gR ci a k σ = some x) (hdg : decode cc pc = .ok (.getfield index, 3)) (kk : sw_G p l e R s m args below meth c Q nL A D cT σ ce sl (pc + 3) lv (P_ x :: st)) : sw_G p l e R s m args below meth c Q nL A D cT σ ce sl pc lv (P_ (some a) :: st) := by
  obtain ⟨fs, h1, h2⟩ := sw_gR_eq h
  exact g_get (u := P_ x) K hc hin hk hlink hsame h1 h2 hdg kk
theorem g_put (K : sw_C p s m args c cc nL own A D cT) {ref Cn : String} {T : u_T} {N index : Nat} {ci a k : Nat} (hc : vwCl[ci]? = some (Cn, T, N)) (hin : ∀ w ∈ u_ws Cn T N, w ∈ sw_Tb) (hk : k < N) (hlink : Cond.fieldLink own index ref (T k).2.1 (T k).2.2.1 ∈ sw_Tb) (hsame : (T k).1 = ref) {σ1 : sw_S} {u : sw_U} (ty0 : Nat → FieldType) (hty : ∀ k, k < N → parseFieldDescriptor (T k).2.2.1 = some (ty0 k)) (hnm : ∀ a, a < N → ∀ b, b < N → a ≠ b → (T a).2.1 ≠ (T b).2.1) (hfin : (T k).2.2.2 = false ∨ ((T k).2.2.2 = true ∧ meth.name = "<init>" ∧ (T k).1 = own)) (hn : narrow (ty0 k) (sw_v u) = sw_v u) (hfit : fits (ty0 k) (sw_v u) = true) (h : sw_pt ci a k (sw_v u) σ = some σ1) (hdg : decode cc pc = .ok (.putfield index, 3)) (kk : sw_G p l e R s m args below meth c Q nL A D cT σ1 ce sl (pc + 3) lv st) : sw_G p l e R s m args below meth c Q nL A D cT σ ce sl pc lv (u :: P_ (some a) :: st) := by
  obtain ⟨fs, ho, hl0, rfl⟩ := sw_pt_eq h
  intro H locs ls hl hP hD hS
  subst hsame
  have hown := K.1.2.2.2.1
  have hts := K.1.2.2.2.2
  have hap := va_apart (own := own) hts hin ty0 hty hnm K.2.1.1 hc
  obtain ⟨r, h1, cell, q1, q2, q3, q4⟩ := hP.2 a _ ho
  have hr : r = (Cn, T, N) := Option.some.inj (h1.symm.trans hc)
  subst hr
  obtain ⟨hSl, hfc, kC, hkC, hkind⟩ := K.2.1.1.1 ci _ hc
  obtain ⟨cf, kf, fi, f, hi, hsl⟩ := hSl k hk
  have hlay := hts _ (hin _ (u_in_lay hk))
  have hst := (u_facts hfc hkC (u_lays hts hin hk) hi).1
  have fin : ∀ H1 : Heap, H1[a]? = some (cell.setSlot f.slot (sw_v u)) → H1.size = H.size → (∀ q, q ≠ a → H1[q]? = H[q]?) → W p l e R s m args below meth c H1 (locs ++ [⟨a, f.slot⟩]) ce sl Q (F0 m (pc + 3) ls (st.map sw_v)) := fun H1 e1 e2 e3 => by
    rw [hsl] at e1 ⊢
    exact kk H1 _ ls hl (hP.set e2 e3 ⟨_, hc, t_OB.to (V := updV (vp_V fs) k (sw_v u)) ⟨_, e1, q2, q3, t_set q4 hap hk (sw_v u)⟩ (fun j _ => vp_updV_set hl0 (sw_v u) j)⟩) (hD.set (hD a _ ho)) (hS.put e2 e3 (hD a _ ho))
  rcases hfin with hfin | ⟨hfin, hin2, hdecl⟩
  · unfold u_lay at hlay
    rw [if_neg (by rw [hfin]; decide)] at hlay
    have h6 := u_store hfc hkC hkind hlay hi (hty k hk) hn hfit
    exact W.putK K.1.1 K.1.2.1 (f := f) ⟨hown, hts _ hlink, ⟨_, _, _, hi⟩, hst⟩ (by rw [q2]; exact h6) q1 q3 (by rw [hsl]; exact k2_hasslot (q4 k hk)) rfl rfl hdg fin
  · unfold u_lay at hlay
    rw [if_pos hfin] at hlay
    have hcf : m.cls = cf := by
      obtain ⟨_, _, c', _, _, _, -, -, hf', -, -, -, hown2, -⟩ := Cond.laysFinal_spec hlay
      have e1 : c' = cf := by have := hi.symm.trans hf'; simp at this; exact this.1.symm
      rw [hdecl] at hown2
      rw [← e1]; exact Option.some.inj (hown.symm.trans hown2)
    have h6 := u_fits hfc hkC hkind (Or.inr hlay) hi (hty k hk) hn hfit
    exact W.putFinK K.1.1 K.1.2.1 hown (hts _ hlink) hi hst hcf hin2 (by rw [q2]; exact h6) q1 q3 (by rw [hsl]; exact k2_hasslot (q4 k hk)) rfl rfl hdg fin
end SW
