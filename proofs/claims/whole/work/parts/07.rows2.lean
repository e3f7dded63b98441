section SX
variable {p : Program} {l : Launch} {e : Env} {R : Room} {s : State} {m : MethodId} {args : Array Value} {below : List Frame} {meth : Method} {c : Code} {Q : State → Prop} {nL : Nat} {A : Nat → Prop} {D : va_G} {cT : Nat → ClassId} {cc : ByteArray} {own : String} {σ : sw_S} {ce sl pc : Nat} {lv : List (Nat × sw_U)} {st : List sw_U}
theorem g_iald (K : sw_C p s m args c cc nL own A D cT) {a : Nat} {i x : Int32} (h : sw_al 0 a i σ = some x) (hdg : decode cc pc = .ok (.iaload, 1)) (kk : sw_G p l e R s m args below meth c Q nL A D cT σ ce sl (pc + 1) lv (I_ x :: st)) : sw_G p l e R s m args below meth c Q nL A D cT σ ce sl pc lv (I_ i :: P_ (some a) :: st) := by
  obtain ⟨⟨n, f⟩, h1, h2⟩ := Option.bind_eq_some_iff.mp h
  obtain ⟨j, h3, h4⟩ := Option.bind_eq_some_iff.mp h2
  obtain ⟨h5, rfl⟩ := sw_ix_eq h3
  cases h4
  have ho := sw_ai_eq h1
  intro H locs ls hl hP hD hS
  have hP1 : va_P D vwCl [(a, sw_V cT (.inl (0, n, .inl f)))] H := fun j q hj => by
    match j, hj with
    | 0, hj => cases hj; exact hP.2 a _ ho
    | j + 1, hj => simp at hj
  exact va_iald K.1.1 K.1.2.1 K.2.1.1 hP1 0 0 (n := n) (f := f) rfl rfl h5 hdg (kk H locs ls hl hP hD hS)
theorem g_zald (K : sw_C p s m args c cc nL own A D cT) {a : Nat} {i x : Int32} (h : sw_al 2 a i σ = some x) (hdg : decode cc pc = .ok (.baload, 1)) (kk : sw_G p l e R s m args below meth c Q nL A D cT σ ce sl (pc + 1) lv (I_ x :: st)) : sw_G p l e R s m args below meth c Q nL A D cT σ ce sl pc lv (I_ i :: P_ (some a) :: st) := by
  obtain ⟨⟨n, f⟩, h1, h2⟩ := Option.bind_eq_some_iff.mp h
  obtain ⟨j, h3, h4⟩ := Option.bind_eq_some_iff.mp h2
  obtain ⟨h5, rfl⟩ := sw_ix_eq h3
  cases h4
  have ho := sw_ai_eq h1
  intro H locs ls hl hP hD hS
  have hP1 : va_P D vwCl [(a, sw_V cT (.inl (2, n, .inl f)))] H := fun j q hj => by
    match j, hj with
    | 0, hj => cases hj; exact hP.2 a _ ho
    | j + 1, hj => simp at hj
  exact va_zald K.1.1 K.1.2.1 K.2.1.1 hP1 0 2 (n := n) (f := f) rfl rfl h5 hdg (kk H locs ls hl hP hD hS)
theorem g_jald (K : sw_C p s m args c cc nL own A D cT) {a : Nat} {i : Int32} {x : Int64} (h : sw_jl a i σ = some x) (hdg : decode cc pc = .ok (.laload, 1)) (kk : sw_G p l e R s m args below meth c Q nL A D cT σ ce sl (pc + 1) lv (J_ x :: st)) : sw_G p l e R s m args below meth c Q nL A D cT σ ce sl pc lv (I_ i :: P_ (some a) :: st) := by
  obtain ⟨⟨n, f⟩, h1, h2⟩ := Option.bind_eq_some_iff.mp h
  obtain ⟨j, h3, h4⟩ := Option.bind_eq_some_iff.mp h2
  obtain ⟨h5, rfl⟩ := sw_ix_eq h3
  cases h4
  have ho := sw_aj_eq h1
  intro H locs ls hl hP hD hS
  have hP1 : va_P D vwCl [(a, sw_V cT (.inl (1, n, .inr (.inl f))))] H := fun j q hj => by
    match j, hj with
    | 0, hj => cases hj; exact hP.2 a _ ho
    | j + 1, hj => simp at hj
  exact va_lald K.1.1 K.1.2.1 K.2.1.1 hP1 0 1 (n := n) (f := f) rfl rfl h5 hdg (kk H locs ls hl hP hD hS)
theorem g_qald (K : sw_C p s m args c cc nL own A D cT) {a : Nat} {i : Int32} {x : Option Nat} (h : sw_ql a i σ = some x) (hdg : decode cc pc = .ok (.aaload, 1)) (kk : sw_G p l e R s m args below meth c Q nL A D cT σ ce sl (pc + 1) lv (P_ x :: st)) : sw_G p l e R s m args below meth c Q nL A D cT σ ce sl pc lv (I_ i :: P_ (some a) :: st) := by
  obtain ⟨⟨n, f⟩, h1, h2⟩ := Option.bind_eq_some_iff.mp h
  obtain ⟨j, h3, h4⟩ := Option.bind_eq_some_iff.mp h2
  obtain ⟨h5, rfl⟩ := sw_ix_eq h3
  cases h4
  have ho := sw_aq_eq h1
  intro H locs ls hl hP hD hS
  have hP1 : va_P D vwCl [(a, sw_V cT (.inl (3, n, .inr (.inr (.inr (.inr f))))))] H := fun j q hj => by
    match j, hj with
    | 0, hj => cases hj; exact hP.2 a _ ho
    | j + 1, hj => simp at hj
  exact va_aldq K.1.1 K.1.2.1 K.2.1.1 hP1 0 3 (n := n) (f := f) rfl rfl h5 hdg (kk H locs ls hl hP hD hS)
theorem g_alen (K : sw_C p s m args c cc nL own A D cT) {a : Nat} {x : Int32} (h : sw_len a σ = some x) (hdg : decode cc pc = .ok (.arraylength, 1)) (kk : sw_G p l e R s m args below meth c Q nL A D cT σ ce sl (pc + 1) lv (I_ x :: st)) : sw_G p l e R s m args below meth c Q nL A D cT σ ce sl pc lv (P_ (some a) :: st) := by
  unfold sw_len at h
  split at h
  · next u n y ho =>
    split at h
    · next hu =>
      cases h
      intro H locs ls hl hP hD hS
      have hP1 : va_P D vwCl [(a, sw_V cT (.inl (u, n, y)))] H := fun j q hj => by
        match j, hj with
        | 0, hj => cases hj; exact hP.2 a _ ho
        | j + 1, hj => simp at hj
      match u, hu, hP1 with
      | 0, _, hP1 => exact va_alen K.1.1 K.1.2.1 K.2.1.1 hP1 0 0 (x := (n, y)) rfl rfl rfl hdg (kk H locs ls hl hP hD hS)
      | 1, _, hP1 => exact va_alen K.1.1 K.1.2.1 K.2.1.1 hP1 0 1 (x := (n, y)) rfl rfl rfl hdg (kk H locs ls hl hP hD hS)
      | 2, _, hP1 => exact va_alen K.1.1 K.1.2.1 K.2.1.1 hP1 0 2 (x := (n, y)) rfl rfl rfl hdg (kk H locs ls hl hP hD hS)
      | 3, _, hP1 => exact va_alen K.1.1 K.1.2.1 K.2.1.1 hP1 0 3 (x := (n, y)) rfl rfl rfl hdg (kk H locs ls hl hP hD hS)
    · cases h
  · cases h
theorem g_iast (K : sw_C p s m args c cc nL own A D cT) {σ1 : sw_S} {a : Nat} {i : Int32} {x : Int32} (h : sw_as 0 a i x σ = some σ1) (hdg : decode cc pc = .ok (.iastore, 1)) (kk : sw_G p l e R s m args below meth c Q nL A D cT σ1 ce sl (pc + 1) lv st) : sw_G p l e R s m args below meth c Q nL A D cT σ ce sl pc lv (I_ x :: I_ i :: P_ (some a) :: st) := by
  obtain ⟨⟨n, f⟩, h1, h2⟩ := Option.bind_eq_some_iff.mp h
  obtain ⟨j, h3, h4⟩ := Option.bind_eq_some_iff.mp h2
  obtain ⟨h5, rfl⟩ := sw_ix_eq h3
  cases h4
  have ho := sw_ai_eq h1
  intro H locs ls hl hP hD hS
  have hc : H[a]? = some (vp_cell (cT 0) (n, .inl f)) := hP.2 a _ ho
  refine W.iast K.1.1 K.1.2.1 hc ((K.2.1.1.2 0 _ rfl).1 n (fun j => .int (f j))) (fun q => by cases q) (by show ¬ (i < 0 ∨ (arrV _ _ _).slots.size ≤ _); rw [arrV_size]; exact h5) rfl rfl hdg fun H1 e1 z oq => ?_
  refine kk H1 _ ls hl (hP.set z oq ?_) (hD.set (hD a _ ho)) (hS.put z oq (hD a _ ho))
  show H1[a]? = some (vp_cell (cT 0) (n, .inl (upd f i.toNatClampNeg x)))
  rw [e1]
  rw [vp_cell_i, vp_cell_i, arrV_store]
  congr 2
  funext q
  by_cases hq : q = i.toNatClampNeg
  · subst hq
    simp [updV, upd]
  · simp [updV, upd, hq]
theorem g_zast (K : sw_C p s m args c cc nL own A D cT) {σ1 : sw_S} {a : Nat} {i : Int32} {x : Int32} (hz : narrow .boolean (.int x) = .int x) (h : sw_as 2 a i x σ = some σ1) (hdg : decode cc pc = .ok (.bastore, 1)) (kk : sw_G p l e R s m args below meth c Q nL A D cT σ1 ce sl (pc + 1) lv st) : sw_G p l e R s m args below meth c Q nL A D cT σ ce sl pc lv (I_ x :: I_ i :: P_ (some a) :: st) := by
  obtain ⟨⟨n, f⟩, h1, h2⟩ := Option.bind_eq_some_iff.mp h
  obtain ⟨j, h3, h4⟩ := Option.bind_eq_some_iff.mp h2
  obtain ⟨h5, rfl⟩ := sw_ix_eq h3
  cases h4
  have ho := sw_ai_eq h1
  intro H locs ls hl hP hD hS
  have hc : H[a]? = some (vp_cell (cT 2) (n, .inl f)) := hP.2 a _ ho
  refine W.zast K.1.1 K.1.2.1 hc ((K.2.1.1.2 2 _ rfl).1 n (fun j => .int (f j))) (fun q => by cases q) (by show ¬ (i < 0 ∨ (arrV _ _ _).slots.size ≤ _); rw [arrV_size]; exact h5) rfl rfl hdg fun H1 e1 z oq => ?_
  refine kk H1 _ ls hl (hP.set z oq ?_) (hD.set (hD a _ ho)) (hS.put z oq (hD a _ ho))
  show H1[a]? = some (vp_cell (cT 2) (n, .inl (upd f i.toNatClampNeg x)))
  rw [e1]
  rw [vp_cell_i, vp_cell_i, arrV_store]
  congr 2
  funext q
  by_cases hq : q = i.toNatClampNeg
  · subst hq
    simp [updV, upd, hz]
  · simp [updV, upd, hq]
theorem g_jast (K : sw_C p s m args c cc nL own A D cT) {σ1 : sw_S} {a : Nat} {i : Int32} {x : Int64} (h : sw_js a i x σ = some σ1) (hdg : decode cc pc = .ok (.lastore, 1)) (kk : sw_G p l e R s m args below meth c Q nL A D cT σ1 ce sl (pc + 1) lv st) : sw_G p l e R s m args below meth c Q nL A D cT σ ce sl pc lv (J_ x :: I_ i :: P_ (some a) :: st) := by
  obtain ⟨⟨n, f⟩, h1, h2⟩ := Option.bind_eq_some_iff.mp h
  obtain ⟨j, h3, h4⟩ := Option.bind_eq_some_iff.mp h2
  obtain ⟨h5, rfl⟩ := sw_ix_eq h3
  cases h4
  have ho := sw_aj_eq h1
  intro H locs ls hl hP hD hS
  have hc : H[a]? = some (vp_cell (cT 1) (n, .inr (.inl f))) := hP.2 a _ ho
  refine W.last K.1.1 K.1.2.1 hc ((K.2.1.1.2 1 _ rfl).1 n (fun j => .long (f j))) (fun q => by cases q) (by show ¬ (i < 0 ∨ (arrV _ _ _).slots.size ≤ _); rw [arrV_size]; exact h5) rfl rfl hdg fun H1 e1 z oq => ?_
  refine kk H1 _ ls hl (hP.set z oq ?_) (hD.set (hD a _ ho)) (hS.put z oq (hD a _ ho))
  show H1[a]? = some (vp_cell (cT 1) (n, .inr (.inl (vp_updL f i.toNatClampNeg x))))
  rw [e1]
  rw [vp_cell_l, vp_cell_l, arrV_store]
  congr 2
  funext q
  by_cases hq : q = i.toNatClampNeg
  · subst hq
    simp [updV, vp_updL]
  · simp [updV, vp_updL, hq]
theorem g_qast (K : sw_C p s m args c cc nL own A D cT) {σ1 : sw_S} {a : Nat} {i : Int32} {r : Option Nat} (h : sw_qs a i r σ = some σ1) (hdg : decode cc pc = .ok (.aastore, 1)) (kk : sw_G p l e R s m args below meth c Q nL A D cT σ1 ce sl (pc + 1) lv st) : sw_G p l e R s m args below meth c Q nL A D cT σ ce sl pc lv (P_ r :: I_ i :: P_ (some a) :: st) := by
  obtain ⟨⟨n, f⟩, h1, h2⟩ := Option.bind_eq_some_iff.mp h
  obtain ⟨j, h3, h4⟩ := Option.bind_eq_some_iff.mp h2
  obtain ⟨h5, rfl⟩ := sw_ix_eq h3
  obtain ⟨r', h6, h7⟩ := Option.bind_eq_some_iff.mp h4
  have ho := sw_aq_eq h1
  intro H locs ls hl hP hD hS
  have hc : H[a]? = some (vp_cell (cT 3) (n, .inr (.inr (.inr (.inr f))))) := hP.2 a _ ho
  cases r with
  | none =>
    cases h6
    cases h7
    refine va_WaastN (C := RX1) K.1.1 K.1.2.1 hc ((K.2.1.1.2 3 _ rfl).1 n (fun j => va_rf (f j))) (fun h => by cases h) (by show ¬ (i < 0 ∨ (arrV _ _ _).slots.size ≤ _); rw [arrV_size]; exact h5) rfl rfl hdg fun H1 e1 z oq => ?_
    refine kk H1 _ ls hl (hP.set z oq ?_) (hD.set (hD a _ ho)) (hS.put z oq (hD a _ ho))
    show H1[a]? = some (vp_cell (cT 3) (n, .inr (.inr (.inr (.inr (va_up f i.toNatClampNeg none))))))
    rw [e1]
    rw [vp_cell_q, vp_cell_q, arrV_store]
    congr 2
    funext q
    by_cases hq : q = i.toNatClampNeg
    · subst hq
      simp [updV, va_up, va_rf]
    · simp [updV, va_up, hq]
  | some b =>
    obtain ⟨fs, h8, h9⟩ := Option.bind_eq_some_iff.mp h6
    cases h9
    cases h7
    have hob := sw_ob_eq h8
    have hlt : i.toNatClampNeg < n := Nat.not_le.mp fun q => h5 (Or.inr q)
    have h0 : ¬ i < 0 := fun q => h5 (Or.inl q)
    obtain ⟨r', hr', cellV, g1, g2, g3, -⟩ := hP.2 b _ hob
    have hcls := (K.2.1.1.1 1 _ rfl).2
    obtain ⟨kA, comp, k1, k2, k3, -⟩ := (K.2.1.1.2 3 _ rfl).2
    have hcomp : comp = D.1 1 := Option.some.inj (k3.symm.trans hcls.1)
    subst hcomp
    obtain ⟨kC, hkC, -⟩ := hcls.2
    refine W.aast K.1.1 K.1.2.1 hc (fun q h => by cases h) (fun h => by cases h) k1 k2 rfl hkC ⟨h0, by show _ < (arrV _ _ _).slots.size; rw [arrV_size]; exact hlt⟩ g1 (fun q h => by rw [g3] at h; cases h) (by rw [g2]; exact hkC) (by rw [g2]; exact va_assign hcls) rfl rfl hdg fun H1 e1 z oq => ?_
    refine kk H1 _ ls hl (hP.set z oq ?_) (hD.set (hD a _ ho)) (hS.put z oq (hD a _ ho))
    show H1[a]? = some (vp_cell (cT 3) (n, .inr (.inr (.inr (.inr (va_up f i.toNatClampNeg (some b)))))))
    rw [e1]
    rw [vp_cell_q, vp_cell_q, arrV_store]
    congr 2
    funext q
    by_cases hq : q = i.toNatClampNeg
    · subst hq
      simp [updV, va_up, va_rf]
    · simp [updV, va_up, hq]
theorem g_new (K : sw_C p s m args c cc nL own A D cT) {Cn : String} {T : u_T} {N index : Nat} (ci : Nat) (fs : List Value) (hc : vwCl[ci]? = some (Cn, T, N)) (hin : ∀ w ∈ u_ws Cn T N, w ∈ sw_Tb) (ty : Nat → FieldType) (hty : ∀ k, k < N → parseFieldDescriptor (T k).2.2.1 = some (ty k)) (hcl : Cond.classLink own index Cn ∈ sw_Tb) (hinst : Cond.instantiable Cn N ∈ sw_Tb) (hini : Cond.initialized Cn ∈ sw_Tb) (hfs : ∀ j, j < N → defaultValue (ty j) = vp_V fs j) (h1 : ce + 1 ≤ R.cells) (h2 : sl + N ≤ R.slots) (hdg : decode cc pc = .ok (.new index, 3)) (kk : sw_G p l e R s m args below meth c Q nL A D cT (sw_nw σ (.inr (ci, fs))) (ce + 1) (sl + N) (pc + 3) lv (P_ (some σ.1) :: st)) : sw_G p l e R s m args below meth c Q nL A D cT σ ce sl pc lv st := by
  intro H locs ls hl hP hD hS
  have hts := K.1.2.2.2.2
  have hKn := K.2.1.1.1 ci _ hc
  refine W.newcK K.1.1 K.1.2.1 K.1.2.2.2.1 (hts _ hcl) (hts _ hinst) (hts _ hini) rfl hdg h1 h2 hKn.2.1 hP.1 fun H1 kC hkC e1 z1 o1 => ?_
  refine kk H1 locs ls hl (hP.push z1 o1 ⟨_, hc, (u_born ty hts hin hKn hkC e1 hty).to hfs⟩) (hD.push (K.2.2 _ (by rw [← hP.1]; exact hS.1))) ⟨Nat.le_trans hS.1 (by rw [z1, hP.1]; omega), fun x h1 h2 => (o1 x (by rw [← hP.1]; exact Nat.lt_of_lt_of_le h1 hS.1)).trans (hS.2.1 x h1 h2), hS.2.2⟩
theorem g_newa (K : sw_C p s m args c cc nL own A D cT) {atype : ArrayType} {ty : FieldType} (t : Nat) (a0 : Nat → vp_A) {n : Int32} {N k : Nat} (hty : newarray.typeOf atype = ty) (ht : (sw_tys cT)[t]? = some (cT t, ty)) (hr : ∀ cA : ClassId, va_RA s cA ty = (s.vm.findClass ("[" ++ ty.toString) = some cA)) (hw : Cond.arrayClass ty ∈ sw_Tb) (ha : ∀ (cA : ClassId) (N : Nat), vp_cell cA (a0 N) = arrV cA N (fun _ => defaultValue ty)) (hb : componentBytes ty ≤ 8) (h : sw_nl n k = some N) (hk : k ≤ 1000000) (h1 : ce + 1 ≤ R.cells) (h2 : sl + k ≤ R.slots) (hdg : decode cc pc = .ok (.newarray atype, 2)) (kk : sw_G p l e R s m args below meth c Q nL A D cT (sw_nw σ (.inl (t, a0 N))) (ce + 1) (sl + k) (pc + 2) lv (P_ (some σ.1) :: st)) : sw_G p l e R s m args below meth c Q nL A D cT σ ce sl pc lv (I_ n :: st) := by
  intro H locs ls hl hP hD hS
  subst hty
  unfold sw_nl at h
  split at h
  · next hn =>
    cases h
    have hb2 : n.toNatClampNeg * componentBytes (newarray.typeOf atype) ≤ 536870912 := Nat.le_trans (Nat.mul_le_mul (Nat.le_trans hn.2 hk) hb) (by decide)
    refine va_newaK K.1.1 K.1.2.1 (K.1.2.2.2.2 _ hw) rfl hdg rfl (Int32.not_lt.mpr hn.1) rfl hb2 h1 (Nat.le_trans (Nat.add_le_add_left hn.2 _) h2) hP.1 fun H1 cA e1 z1 o1 hAr hNm => ?_
    have hcA : cT t = cA := by
      have h3 := (K.2.1.1.2 t _ ht).2
      rw [hr] at h3
      exact Option.some.inj (h3.symm.trans hNm)
    subst hcA
    refine W.widen (Nat.le_refl _) (Nat.add_le_add_left hn.2 _) ?_
    refine kk H1 locs ls hl (hP.push z1 o1 ?_) (hD.push (K.2.2 _ (by rw [← hP.1]; exact hS.1))) ⟨Nat.le_trans hS.1 (by rw [z1, hP.1]; omega), fun x h1 h2 => (o1 x (by rw [← hP.1]; exact Nat.lt_of_lt_of_le h1 hS.1)).trans (hS.2.1 x h1 h2), hS.2.2⟩
    show H1[σ.1]? = some (vp_cell (cT t) (a0 n.toNatClampNeg))
    rw [e1, ha]
  · cases h
theorem g_newq (K : sw_C p s m args c cc nL own A D cT) {index : Nat} {n : Int32} {N k : Nat} (hcl : Cond.classLink own index RX1 ∈ sw_Tb) (h : sw_nl n k = some N) (hk : k ≤ 1000000) (h1 : ce + 1 ≤ R.cells) (h2 : sl + k ≤ R.slots) (hdg : decode cc pc = .ok (.anewarray index, 3)) (kk : sw_G p l e R s m args below meth c Q nL A D cT (sw_nw σ (sw_rQ N)) (ce + 1) (sl + k) (pc + 3) lv (P_ (some σ.1) :: st)) : sw_G p l e R s m args below meth c Q nL A D cT σ ce sl pc lv (I_ n :: st) := by
  intro H locs ls hl hP hD hS
  unfold sw_nl at h
  split at h
  · next hn =>
    cases h
    refine W.anew K.1.1 K.1.2.1 K.1.2.2.2.1 (K.1.2.2.2.2 _ hcl) (va_AO.use K.2.1.2.2.2) rfl hdg rfl (Int32.not_lt.mpr hn.1) (Nat.le_trans (Nat.mul_le_mul_right _ (Nat.le_trans hn.2 hk)) (by decide)) h1 (Nat.le_trans (Nat.add_le_add_left hn.2 _) h2) fun cA kA comp f1 f2 f3 f4 => ?_
    have hcA : cT 3 = cA := by
      obtain ⟨-, -, -, -, -, h4⟩ := (K.2.1.1.2 3 _ rfl).2
      exact Option.some.inj (h4.symm.trans f1)
    subst hcA
    refine W.widen (Nat.le_refl _) (Nat.add_le_add_left hn.2 _) ?_
    generalize hH1 : H.push ({ cls := cT 3, slots := Array.replicate n.toNatClampNeg .null, vm := .none } : Cell) = H1
    have z1 : H1.size = σ.1 + 1 := by rw [← hH1, Array.size_push, hP.1]
    have e1 : H1[σ.1]? = some (arrV (cT 3) n.toNatClampNeg (fun _ => .null)) := by rw [← hH1, ← hP.1, Array.getElem?_push_size, ← arrV_new]
    have o1 : ∀ q : Nat, q < σ.1 → H1[q]? = H[q]? := fun q hq => by rw [← hH1, Array.getElem?_push, if_neg (Nat.ne_of_lt (by rw [hP.1]; exact hq))]
    have hg := kk H1 locs ls hl (hP.push z1 o1 (by show H1[σ.1]? = some (vp_cell _ _); rw [e1]; rfl)) (hD.push (K.2.2 _ (by rw [← hP.1]; exact hS.1))) ⟨Nat.le_trans hS.1 (by rw [z1, hP.1]; omega), fun x h1 h2 => (o1 x (by rw [← hP.1]; exact Nat.lt_of_lt_of_le h1 hS.1)).trans (hS.2.1 x h1 h2), hS.2.2⟩
    rw [← hP.1] at hg
    exact hg
  · cases h
end SX
