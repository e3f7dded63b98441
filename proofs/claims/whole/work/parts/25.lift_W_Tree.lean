def f_X6_init (p0 : Nat) (q1 : Int32) (σ : sw_S) : Option sw_S :=
  (sw_pt 6 p0 0 (.int q1) σ).bind fun σ1 =>
  (sw_pt 6 p0 1 (.int ((((q1 + 1)) / 2))) σ1).bind fun σ3 =>
  (sw_nl 6 6).bind fun n5 =>
  (some (sw_nw σ3 (sw_rQ n5))).bind fun σ7 =>
  (sw_pt 6 p0 2 (va_rf (some σ3.1)) σ7).bind fun σ9 =>
  (sw_nl 6 6).bind fun n11 =>
  (some (sw_nw σ9 (sw_rI n11))).bind fun σ13 =>
  (sw_pt 6 p0 3 (va_rf (some σ9.1)) σ13).bind fun σ15 =>
  (some (sw_nw σ15 (.inr (1, [.int 0, .null, .null, .null, .int 0, .int 0, .int 0, .int 0])))).bind fun σ17 =>
  (f_X1_init σ15.1 1 ((q1 + 1)) σ17).bind fun σ20 =>
  (sw_pt 6 p0 4 (va_rf (some σ15.1)) σ20).bind fun σ21 =>
  (sw_gR 6 p0 4 σ21).bind fun r23 =>
  r23.bind fun a25 =>
  (sw_ob 1 a25 σ21).bind fun f26 =>
  (f_X1_renew a25 σ21).bind fun σ29 =>
  (sw_pt 6 p0 5 (.int 1) σ29).bind fun σ30 =>
  some σ30
set_option maxHeartbeats 4000000 in
set_option maxRecDepth 100000 in
theorem c_X6_init  (l : Launch) (D : va_G) (cT : Nat → ClassId) (p0 : Nat) (q1 : Int32) (σ : sw_S) {σ' : sw_S} (h : f_X6_init p0 q1 σ = some σ') : sw_M l D cT yX6_init cX6_init 2 none 2 46 6 38 σ [P_ (some p0), I_ q1] none σ' := by
  refine sw_met_v (by decide) (Nat.le_of_ble_eq_true rfl) (fun p e s m args below meth c A Q K hnm hT => ?_)
  have hce : 0 + 6 ≤ 6 := Nat.le_of_ble_eq_true rfl
  have hsl : 0 + 38 ≤ 38 := Nat.le_of_ble_eq_true rfl
  unfold f_X6_init at h
  change sw_G p l e (sw_R 2 6 38 46) s m args below meth c Q 2 A D cT σ 0 0 0 [(0, P_ (some p0)), (1, I_ q1)] []
  refine g_aload_n (pc := 0) K 0 rfl rfl dX6_init_0 ?_
  refine g_objInit (pc := 1) K tb_23 tb_16 tb_17 ⟨Nat.le_of_ble_eq_true rfl, Nat.le_of_ble_eq_true rfl⟩ (sw_rm (Nat.le_of_ble_eq_true rfl)) dX6_init_1 ?_
  refine g_aload_n (pc := 4) K 0 rfl rfl dX6_init_4 ?_
  refine g_iload_n (pc := 5) K 1 rfl rfl dX6_init_5 ?_
  replace h := Option.bind_eq_some_iff.mp h
  obtain ⟨σ1, e2, h⟩ := h
  refine g_put (pc := 6) K cl_6 hin_X6 (k := 0) (by decide) tb_82 rfl tyX6 tyX6_ok nmX6 (Or.inr ⟨rfl, hnm, rfl⟩) rfl rfl e2 dX6_init_6 ?_
  refine g_aload_n (pc := 9) K 0 rfl rfl dX6_init_9 ?_
  refine g_iload_n (pc := 10) K 1 rfl rfl dX6_init_10 ?_
  refine g_iconst (pc := 11) (v := 1) K dX6_init_11 (by decide) ?_
  refine g_iadd (pc := 12) K dX6_init_12 ?_
  refine g_iconst (pc := 13) (v := 2) K dX6_init_13 (by decide) ?_
  refine g_idiv (pc := 14) K dX6_init_14 (by decide) ?_
  replace h := Option.bind_eq_some_iff.mp h
  obtain ⟨σ3, e4, h⟩ := h
  refine g_put (pc := 15) K cl_6 hin_X6 (k := 1) (by decide) tb_83 rfl tyX6 tyX6_ok nmX6 (Or.inr ⟨rfl, hnm, rfl⟩) rfl rfl e4 dX6_init_15 ?_
  refine g_aload_n (pc := 18) K 0 rfl rfl dX6_init_18 ?_
  refine g_bipush (pc := 19) (v := 6) K dX6_init_19 (by decide) ?_
  replace h := Option.bind_eq_some_iff.mp h
  obtain ⟨n5, e6, h⟩ := h
  replace h := Option.bind_eq_some_iff.mp h
  obtain ⟨σ7, e8, h⟩ := h
  replace e8 := Option.some.inj e8
  refine g_newq (pc := 21) K tb_24 e6 (Nat.le_of_ble_eq_true rfl) (by show _ ≤ 6; omega) (by show _ ≤ 38; omega) dX6_init_21 ?_
  rw [e8]
  replace h := Option.bind_eq_some_iff.mp h
  obtain ⟨σ9, e10, h⟩ := h
  refine g_put (pc := 24) K cl_6 hin_X6 (k := 2) (by decide) tb_84 rfl tyX6 tyX6_ok nmX6 (Or.inr ⟨rfl, hnm, rfl⟩) (sw_nr (tyX6 2) rfl _) (sw_fr (tyX6 2) rfl _) e10 dX6_init_24 ?_
  refine g_aload_n (pc := 27) K 0 rfl rfl dX6_init_27 ?_
  refine g_bipush (pc := 28) (v := 6) K dX6_init_28 (by decide) ?_
  replace h := Option.bind_eq_some_iff.mp h
  obtain ⟨n11, e12, h⟩ := h
  replace h := Option.bind_eq_some_iff.mp h
  obtain ⟨σ13, e14, h⟩ := h
  replace e14 := Option.some.inj e14
  refine g_new_int (pc := 30) K tb_73 e12 (Nat.le_of_ble_eq_true rfl) (by show _ ≤ 6; omega) (by show _ ≤ 38; omega) dX6_init_30 ?_
  rw [e14]
  replace h := Option.bind_eq_some_iff.mp h
  obtain ⟨σ15, e16, h⟩ := h
  refine g_put (pc := 32) K cl_6 hin_X6 (k := 3) (by decide) tb_85 rfl tyX6 tyX6_ok nmX6 (Or.inr ⟨rfl, hnm, rfl⟩) (sw_nr (tyX6 3) rfl _) (sw_fr (tyX6 3) rfl _) e16 dX6_init_32 ?_
  refine g_aload_n (pc := 35) K 0 rfl rfl dX6_init_35 ?_
  replace h := Option.bind_eq_some_iff.mp h
  obtain ⟨σ17, e18, h⟩ := h
  replace e18 := Option.some.inj e18
  refine g_new (pc := 36) K 1 [.int 0, .null, .null, .null, .int 0, .int 0, .int 0, .int 0] cl_1 hin_X1 tyX1 tyX1_ok tb_24 tb_26 tb_3 fs_X1 (by show _ ≤ 6; omega) (by show _ ≤ 38; omega) dX6_init_36 ?_
  rw [e18]
  refine g_dup (pc := 39) K rfl dX6_init_39 ?_
  refine g_iconst (pc := 40) (v := 1) K dX6_init_40 (by decide) ?_
  refine g_iload_n (pc := 41) K 1 rfl rfl dX6_init_41 ?_
  refine g_iconst (pc := 42) (v := 1) K dX6_init_42 (by decide) ?_
  refine g_iadd (pc := 43) K dX6_init_43 ?_
  replace h := Option.bind_eq_some_iff.mp h
  obtain ⟨σ20, e19, h⟩ := h
  refine g_callI (pc := 44) (st := [P_ (some σ15.1), P_ (some p0)]) K [I_ 1, I_ ((q1 + 1))] (c_X1_init _ _ _ _ _ _ _ e19) tb_29 tb_27 tb_3 tb_28 rfl hd_X1_init ⟨Nat.le_of_ble_eq_true rfl, Nat.le_of_ble_eq_true rfl⟩ rfl (sw_rm (Nat.le_of_ble_eq_true rfl)) ⟨by show _ ≤ 6; omega, by show _ ≤ 38; omega⟩ dX6_init_44 ?_
  replace h := Option.bind_eq_some_iff.mp h
  obtain ⟨σ21, e22, h⟩ := h
  refine g_put (pc := 47) K cl_6 hin_X6 (k := 4) (by decide) tb_86 rfl tyX6 tyX6_ok nmX6 (Or.inl rfl) (sw_nr (tyX6 4) rfl _) (sw_fr (tyX6 4) rfl _) e22 dX6_init_47 ?_
  refine g_aload_n (pc := 50) K 0 rfl rfl dX6_init_50 ?_
  replace h := Option.bind_eq_some_iff.mp h
  obtain ⟨r23, e24, h⟩ := h
  refine g_getR (pc := 51) K cl_6 hin_X6 (k := 4) (by decide) tb_86 rfl e24 dX6_init_51 ?_
  replace h := Option.bind_eq_some_iff.mp h
  obtain ⟨a25, rfl, h⟩ := h
  replace h := Option.bind_eq_some_iff.mp h
  obtain ⟨f26, e27, h⟩ := h
  replace h := Option.bind_eq_some_iff.mp h
  obtain ⟨σ29, e28, h⟩ := h
  refine g_callV (pc := 54) (st := []) K [] (c_X1_renew _ _ _ _ _ e28) e27 cl_1 rfl tb_77 tb_74 tb_3 tb_75 tb_76 hd_X1_renew ⟨Nat.le_of_ble_eq_true rfl, Nat.le_of_ble_eq_true rfl⟩ rfl (sw_rm (Nat.le_of_ble_eq_true rfl)) ⟨by show _ ≤ 6; omega, by show _ ≤ 38; omega⟩ dX6_init_54 ?_
  refine g_aload_n (pc := 57) K 0 rfl rfl dX6_init_57 ?_
  refine g_iconst (pc := 58) (v := 1) K dX6_init_58 (by decide) ?_
  replace h := Option.bind_eq_some_iff.mp h
  obtain ⟨σ30, e31, h⟩ := h
  refine g_put (pc := 59) K cl_6 hin_X6 (k := 5) (by decide) tb_88 rfl tyX6 tyX6_ok nmX6 (Or.inl rfl) rfl rfl e31 dX6_init_59 ?_
  cases h
  exact hT _ _ 62 _ (by omega) (by omega) dX6_init_62

def B_X6_leafFor_14 (rec14 : Nat → Int32 → Option Nat → Int32 → sw_S → Option (Option Nat × sw_S)) (v0 : Nat) (v1 : Int32) (v2 : Option Nat) (v3 : Int32) (σ : sw_S) : Option (Option Nat × sw_S) :=
  (sw_gI 6 v0 5 σ).bind fun x1 =>
  (if x1 ≤ v3 then
  some (v2, σ)
  else
  v2.bind fun a4 =>
  (sw_ob 1 a4 σ).bind fun f5 =>
  (f_X1_childFor a4 v1 σ).bind fun x8 =>
  (sw_gR 1 a4 3 σ).bind fun r9 =>
  r9.bind fun a11 =>
  (sw_ql a11 x8 σ).bind fun r13 =>
  (sw_gR 6 v0 3 σ).bind fun r14 =>
  r14.bind fun a16 =>
  (sw_as 0 a16 ((v3 - 1)) x8 σ).bind fun σ18 =>
  (sw_gR 6 v0 2 σ18).bind fun r19 =>
  r19.bind fun a21 =>
  (sw_qs a21 v3 r13 σ18).bind fun σ23 =>
  rec14 v0 v1 r13 ((v3 + 1)) σ23)
set_option maxHeartbeats 4000000 in
set_option maxRecDepth 100000 in
theorem wB_X6_leafFor_14 {p : Program} {l : Launch} {e : Env} {s : State} {m : MethodId} {args : Array Value} {below : List Frame} {meth : Method} {c : Code} {Q : State → Prop} {A : Nat → Prop} {D : va_G} {cT : Nat → ClassId} {r : Option Nat}  {σ' : sw_S}  (K : sw_C p s m args c cX6_leafFor 5 RX6 A D cT) (hT : sw_Ta cX6_leafFor p l e (sw_R 1 0 0 22) s m args below meth c Q 5 A D cT 0 0 σ' r) {rec14 : Nat → Int32 → Option Nat → Int32 → sw_S → Option (Option Nat × sw_S)} (hrec14 : ∀ (v0 : Nat) (v1 : Int32) (v2 : Option Nat) (v3 : Int32) (σ : sw_S) (ce sl : Nat), rec14 v0 v1 v2 v3 σ = some (r, σ') → ce + (0) ≤ 0 → sl + (0) ≤ 0 → sw_G p l e (sw_R 1 0 0 22) s m args below meth c Q 5 A D cT σ ce sl 14 [(0, P_ (some v0)), (1, I_ v1), (2, P_ v2), (3, I_ v3)] []) (v0 : Nat) (v1 : Int32) (v2 : Option Nat) (v3 : Int32) (σ : sw_S)  (ce sl : Nat) (h : B_X6_leafFor_14 rec14 v0 v1 v2 v3 σ = some (r, σ')) (hce : ce + (0) ≤ 0) (hsl : sl + (0) ≤ 0) : sw_G p l e (sw_R 1 0 0 22) s m args below meth c Q 5 A D cT σ ce sl 14 [(0, P_ (some v0)), (1, I_ v1), (2, P_ v2), (3, I_ v3)] [] := by
  unfold B_X6_leafFor_14 at h
  refine g_iload_n (pc := 14) K 3 rfl rfl dX6_leafFor_14 ?_
  refine g_aload_n (pc := 15) K 0 rfl rfl dX6_leafFor_15 ?_
  replace h := Option.bind_eq_some_iff.mp h
  obtain ⟨x1, e2, h⟩ := h
  refine g_getI (pc := 16) K cl_6 hin_X6 (k := 5) (by decide) tb_88 rfl e2 dX6_leafFor_16 ?_
  refine g_icmp_ge (pc := 19) K 60 dX6_leafFor_19 (by decide) (fun c3 => ?_) (fun c3 => ?_)
  · replace h := (if_pos c3).symm.trans h
    refine g_aload_n (pc := 60) K 2 rfl rfl dX6_leafFor_60 ?_
    cases h
    exact hT _ _ 61 _ (by omega) (by omega) dX6_leafFor_61
  · replace h := (if_neg c3).symm.trans h
    refine g_aload_n (pc := 22) K 2 rfl rfl dX6_leafFor_22 ?_
    refine g_iload_n (pc := 23) K 1 rfl rfl dX6_leafFor_23 ?_
    replace h := Option.bind_eq_some_iff.mp h
    obtain ⟨a4, rfl, h⟩ := h
    replace h := Option.bind_eq_some_iff.mp h
    obtain ⟨f5, e6, h⟩ := h
    replace h := Option.bind_eq_some_iff.mp h
    obtain ⟨x8, e7, h⟩ := h
    refine g_callV (pc := 24) (st := []) K [I_ v1] (c_X1_childFor _ _ _ _ _ _ e7) e6 cl_1 rfl tb_215 tb_212 tb_3 tb_213 tb_214 hd_X1_childFor ⟨Nat.le_of_ble_eq_true rfl, Nat.le_of_ble_eq_true rfl⟩ rfl (sw_rm (Nat.le_of_ble_eq_true rfl)) ⟨by show _ ≤ 0; omega, by show _ ≤ 0; omega⟩ dX6_leafFor_24 ?_
    refine g_istore (pc := 27) K [(4, I_ x8), (0, P_ (some v0)), (1, I_ v1), (2, P_ (some a4)), (3, I_ v3)] (by decide) rfl dX6_leafFor_27 ?_
    refine g_aload_n (pc := 29) K 3 rfl rfl dX6_leafFor_29 ?_
    replace h := Option.bind_eq_some_iff.mp h
    obtain ⟨r9, e10, h⟩ := h
    refine g_getR (pc := 30) K cl_1 hin_X1 (k := 3) (by decide) tb_43 rfl e10 dX6_leafFor_30 ?_
    refine g_iload (pc := 33) K 0 rfl dX6_leafFor_33 ?_
    replace h := Option.bind_eq_some_iff.mp h
    obtain ⟨a11, rfl, h⟩ := h
    replace h := Option.bind_eq_some_iff.mp h
    obtain ⟨r13, e12, h⟩ := h
    refine g_qald (pc := 35) K e12 dX6_leafFor_35 ?_
    refine g_astore_n (pc := 36) K [(2, P_ r13), (4, I_ x8), (0, P_ (some v0)), (1, I_ v1), (3, I_ v3)] rfl (by decide) rfl dX6_leafFor_36 ?_
    refine g_aload_n (pc := 37) K 2 rfl rfl dX6_leafFor_37 ?_
    replace h := Option.bind_eq_some_iff.mp h
    obtain ⟨r14, e15, h⟩ := h
    refine g_getR (pc := 38) K cl_6 hin_X6 (k := 3) (by decide) tb_85 rfl e15 dX6_leafFor_38 ?_
    refine g_iload_n (pc := 41) K 4 rfl rfl dX6_leafFor_41 ?_
    refine g_iconst (pc := 42) (v := 1) K dX6_leafFor_42 (by decide) ?_
    refine g_isub (pc := 43) K dX6_leafFor_43 ?_
    refine g_iload (pc := 44) K 1 rfl dX6_leafFor_44 ?_
    replace h := Option.bind_eq_some_iff.mp h
    obtain ⟨a16, rfl, h⟩ := h
    replace h := Option.bind_eq_some_iff.mp h
    obtain ⟨σ18, e17, h⟩ := h
    refine g_iast (pc := 46) K e17 dX6_leafFor_46 ?_
    refine g_aload_n (pc := 47) K 2 rfl rfl dX6_leafFor_47 ?_
    replace h := Option.bind_eq_some_iff.mp h
    obtain ⟨r19, e20, h⟩ := h
    refine g_getR (pc := 48) K cl_6 hin_X6 (k := 2) (by decide) tb_84 rfl e20 dX6_leafFor_48 ?_
    refine g_iload_n (pc := 51) K 4 rfl rfl dX6_leafFor_51 ?_
    refine g_aload_n (pc := 52) K 0 rfl rfl dX6_leafFor_52 ?_
    replace h := Option.bind_eq_some_iff.mp h
    obtain ⟨a21, rfl, h⟩ := h
    replace h := Option.bind_eq_some_iff.mp h
    obtain ⟨σ23, e22, h⟩ := h
    refine g_qast (pc := 53) K e22 dX6_leafFor_53 ?_
    refine g_iinc (pc := 54) K 4 (v3 + 1) [(3, I_ ((v3 + 1))), (2, P_ r13), (4, I_ x8), (0, P_ (some v0)), (1, I_ v1)] rfl rfl (by decide) rfl dX6_leafFor_54 ?_
    refine g_goto (pc := 57) (tgt := 14) K dX6_leafFor_57 (by decide) ?_
    refine g_sub K [3, 4, 1, 0] rfl ?_
    exact hrec14 _ _ _ _ _ _ _ h (by omega) (by omega)
def b_X6_leafFor_14  : Nat → Nat → Int32 → Option Nat → Int32 → sw_S → Option (Option Nat × sw_S)
  | 0 => fun _ _ _ _ _ => none
  | n + 1 => B_X6_leafFor_14 (b_X6_leafFor_14  n)
theorem wl_X6_leafFor_14 {p : Program} {l : Launch} {e : Env} {s : State} {m : MethodId} {args : Array Value} {below : List Frame} {meth : Method} {c : Code} {Q : State → Prop} {A : Nat → Prop} {D : va_G} {cT : Nat → ClassId} {r : Option Nat}  {σ' : sw_S}  (K : sw_C p s m args c cX6_leafFor 5 RX6 A D cT) (hT : sw_Ta cX6_leafFor p l e (sw_R 1 0 0 22) s m args below meth c Q 5 A D cT 0 0 σ' r) : ∀ (n : Nat) (v0 : Nat) (v1 : Int32) (v2 : Option Nat) (v3 : Int32) (σ : sw_S) (ce sl : Nat), b_X6_leafFor_14  n v0 v1 v2 v3 σ = some (r, σ') → ce + (0) ≤ 0 → sl + (0) ≤ 0 → sw_G p l e (sw_R 1 0 0 22) s m args below meth c Q 5 A D cT σ ce sl 14 [(0, P_ (some v0)), (1, I_ v1), (2, P_ v2), (3, I_ v3)] [] := by
  intro n
  induction n with
  | zero =>
    intro v0 v1 v2 v3 σ ce sl h
    exact absurd (show none = some (r, σ') from h) (by simp)
  | succ n ih =>
    intro v0 v1 v2 v3 σ ce sl h hce hsl
    exact wB_X6_leafFor_14 K hT (fun _ _ _ _ _ _ _ h h1 h2 => ih _ _ _ _ _ _ _ h h1 h2) _ _ _ _ _ _ _ h hce hsl
def f_X6_leafFor (p0 : Nat) (q1 : Int32) (σ : sw_S) : Option (Option Nat × sw_S) :=
  (sw_gR 6 p0 4 σ).bind fun r1 =>
  (sw_gR 6 p0 2 σ).bind fun r3 =>
  r3.bind fun a5 =>
  (sw_qs a5 0 r1 σ).bind fun σ7 =>
  b_X6_leafFor_14 1000 p0 q1 r1 1 σ7
set_option maxHeartbeats 4000000 in
set_option maxRecDepth 100000 in
theorem c_X6_leafFor  (l : Launch) (D : va_G) (cT : Nat → ClassId) (p0 : Nat) (q1 : Int32) (σ : sw_S) {r : Option Nat} {σ' : sw_S} (h : f_X6_leafFor p0 q1 σ = some (r, σ')) : sw_M l D cT yX6_leafFor cX6_leafFor 5 (some (.object RX1)) 1 22 0 0 σ [P_ (some p0), I_ q1] (some (P_ r)) σ' := by
  refine sw_met_a (by decide) (Nat.le_of_ble_eq_true rfl) (fun p e s m args below meth c A Q K hnm hT => ?_)
  have hce : 0 + 0 ≤ 0 := Nat.le_of_ble_eq_true rfl
  have hsl : 0 + 0 ≤ 0 := Nat.le_of_ble_eq_true rfl
  unfold f_X6_leafFor at h
  change sw_G p l e (sw_R 1 0 0 22) s m args below meth c Q 5 A D cT σ 0 0 0 [(0, P_ (some p0)), (1, I_ q1)] []
  refine g_aload_n (pc := 0) K 0 rfl rfl dX6_leafFor_0 ?_
  replace h := Option.bind_eq_some_iff.mp h
  obtain ⟨r1, e2, h⟩ := h
  refine g_getR (pc := 1) K cl_6 hin_X6 (k := 4) (by decide) tb_86 rfl e2 dX6_leafFor_1 ?_
  refine g_astore_n (pc := 4) K [(2, P_ r1), (0, P_ (some p0)), (1, I_ q1)] rfl (by decide) rfl dX6_leafFor_4 ?_
  refine g_aload_n (pc := 5) K 1 rfl rfl dX6_leafFor_5 ?_
  replace h := Option.bind_eq_some_iff.mp h
  obtain ⟨r3, e4, h⟩ := h
  refine g_getR (pc := 6) K cl_6 hin_X6 (k := 2) (by decide) tb_84 rfl e4 dX6_leafFor_6 ?_
  refine g_iconst (pc := 9) (v := 0) K dX6_leafFor_9 (by decide) ?_
  refine g_aload_n (pc := 10) K 0 rfl rfl dX6_leafFor_10 ?_
  replace h := Option.bind_eq_some_iff.mp h
  obtain ⟨a5, rfl, h⟩ := h
  replace h := Option.bind_eq_some_iff.mp h
  obtain ⟨σ7, e6, h⟩ := h
  refine g_qast (pc := 11) K e6 dX6_leafFor_11 ?_
  refine g_iconst (pc := 12) (v := 1) K dX6_leafFor_12 (by decide) ?_
  refine g_istore_n (pc := 13) K [(3, I_ 1), (2, P_ r1), (0, P_ (some p0)), (1, I_ q1)] rfl (by decide) rfl dX6_leafFor_13 ?_
  refine g_sub K [2, 3, 1, 0] rfl ?_
  exact wl_X6_leafFor_14 K hT  1000 _ _ _ _ _ _ _ h (by omega) (by omega)

def b_X6_valueOf_31 (t0 : Int32) (σ : sw_S) : Option (Int32 × sw_S) :=
  some (t0, σ)
set_option maxHeartbeats 4000000 in
set_option maxRecDepth 100000 in
theorem w_X6_valueOf_31 {p : Program} {l : Launch} {e : Env} {s : State} {m : MethodId} {args : Array Value} {below : List Frame} {meth : Method} {c : Code} {Q : State → Prop} {A : Nat → Prop} {D : va_G} {cT : Nat → ClassId} {r : Int32}  {σ' : sw_S}  (K : sw_C p s m args c cX6_valueOf 4 RX6 A D cT) (hT : sw_Ti cX6_valueOf p l e (sw_R 2 0 0 46) s m args below meth c Q 4 A D cT 0 0 σ' r) (t0 : Int32) (σ : sw_S)  (ce sl : Nat) (h : b_X6_valueOf_31 t0 σ = some (r, σ')) (hce : ce + (0) ≤ 0) (hsl : sl + (0) ≤ 0) : sw_G p l e (sw_R 2 0 0 46) s m args below meth c Q 4 A D cT σ ce sl 31 [] [I_ t0] := by
  unfold b_X6_valueOf_31 at h
  cases h
  exact hT _ _ 31 _ (by omega) (by omega) dX6_valueOf_31
def f_X6_valueOf (p0 : Nat) (q1 : Int32) (σ : sw_S) : Option (Int32 × sw_S) :=
  (sw_ob 6 p0 σ).bind fun f1 =>
  sw_b2 (f_X6_leafFor p0 q1 σ) fun r4 σ5 =>
  r4.bind fun a6 =>
  (sw_ob 1 a6 σ5).bind fun f7 =>
  (f_X1_slotOf a6 q1 σ5).bind fun x10 =>
  (sw_ob 1 a6 σ5).bind fun f11 =>
  (f_X1_hasAt a6 x10 q1 σ5).bind fun x14 =>
  (if x14 = 0 then
  b_X6_valueOf_31 0 σ5
  else
  (sw_gR 1 a6 2 σ5).bind fun r16 =>
  r16.bind fun a18 =>
  (sw_al 0 a18 x10 σ5).bind fun x20 =>
  b_X6_valueOf_31 x20 σ5)
set_option maxHeartbeats 4000000 in
set_option maxRecDepth 100000 in
theorem c_X6_valueOf  (l : Launch) (D : va_G) (cT : Nat → ClassId) (p0 : Nat) (q1 : Int32) (σ : sw_S) {r : Int32} {σ' : sw_S} (h : f_X6_valueOf p0 q1 σ = some (r, σ')) : sw_M l D cT yX6_valueOf cX6_valueOf 4 (some .int) 2 46 0 0 σ [P_ (some p0), I_ q1] (some (I_ r)) σ' := by
  refine sw_met_i (by decide) (Nat.le_of_ble_eq_true rfl) (fun p e s m args below meth c A Q K hnm hT => ?_)
  have hce : 0 + 0 ≤ 0 := Nat.le_of_ble_eq_true rfl
  have hsl : 0 + 0 ≤ 0 := Nat.le_of_ble_eq_true rfl
  unfold f_X6_valueOf at h
  change sw_G p l e (sw_R 2 0 0 46) s m args below meth c Q 4 A D cT σ 0 0 0 [(0, P_ (some p0)), (1, I_ q1)] []
  refine g_aload_n (pc := 0) K 0 rfl rfl dX6_valueOf_0 ?_
  refine g_iload_n (pc := 1) K 1 rfl rfl dX6_valueOf_1 ?_
  replace h := Option.bind_eq_some_iff.mp h
  obtain ⟨f1, e2, h⟩ := h
  replace h := sw_b2_eq h
  obtain ⟨r4, σ5, e3, h⟩ := h
  refine g_callV (pc := 2) (st := []) K [I_ q1] (c_X6_leafFor _ _ _ _ _ _ e3) e2 cl_6 rfl tb_211 tb_208 tb_2 tb_210 sl_0 hd_X6_leafFor ⟨Nat.le_of_ble_eq_true rfl, Nat.le_of_ble_eq_true rfl⟩ rfl (sw_rm (Nat.le_of_ble_eq_true rfl)) ⟨by show _ ≤ 0; omega, by show _ ≤ 0; omega⟩ dX6_valueOf_2 ?_
  refine g_astore_n (pc := 5) K [(2, P_ r4), (0, P_ (some p0)), (1, I_ q1)] rfl (by decide) rfl dX6_valueOf_5 ?_
  refine g_aload_n (pc := 6) K 0 rfl rfl dX6_valueOf_6 ?_
  refine g_iload_n (pc := 7) K 2 rfl rfl dX6_valueOf_7 ?_
  replace h := Option.bind_eq_some_iff.mp h
  obtain ⟨a6, rfl, h⟩ := h
  replace h := Option.bind_eq_some_iff.mp h
  obtain ⟨f7, e8, h⟩ := h
  replace h := Option.bind_eq_some_iff.mp h
  obtain ⟨x10, e9, h⟩ := h
  refine g_callV (pc := 8) (st := []) K [I_ q1] (c_X1_slotOf _ _ _ _ _ _ e9) e8 cl_1 rfl tb_219 tb_216 tb_3 tb_217 tb_218 hd_X1_slotOf ⟨Nat.le_of_ble_eq_true rfl, Nat.le_of_ble_eq_true rfl⟩ rfl (sw_rm (Nat.le_of_ble_eq_true rfl)) ⟨by show _ ≤ 0; omega, by show _ ≤ 0; omega⟩ dX6_valueOf_8 ?_
  refine g_istore_n (pc := 11) K [(3, I_ x10), (2, P_ (some a6)), (0, P_ (some p0)), (1, I_ q1)] rfl (by decide) rfl dX6_valueOf_11 ?_
  refine g_aload_n (pc := 12) K 1 rfl rfl dX6_valueOf_12 ?_
  refine g_iload_n (pc := 13) K 0 rfl rfl dX6_valueOf_13 ?_
  refine g_iload_n (pc := 14) K 3 rfl rfl dX6_valueOf_14 ?_
  replace h := Option.bind_eq_some_iff.mp h
  obtain ⟨f11, e12, h⟩ := h
  replace h := Option.bind_eq_some_iff.mp h
  obtain ⟨x14, e13, h⟩ := h
  refine g_callV (pc := 15) (st := []) K [I_ x10, I_ q1] (c_X1_hasAt _ _ _ _ _ _ _ e13) e12 cl_1 rfl tb_223 tb_220 tb_3 tb_221 tb_222 hd_X1_hasAt ⟨Nat.le_of_ble_eq_true rfl, Nat.le_of_ble_eq_true rfl⟩ rfl (sw_rm (Nat.le_of_ble_eq_true rfl)) ⟨by show _ ≤ 0; omega, by show _ ≤ 0; omega⟩ dX6_valueOf_15 ?_
  refine g_if_eq (pc := 18) K 30 dX6_valueOf_18 (by decide) (fun c15 => ?_) (fun c15 => ?_)
  · replace h := (if_pos c15).symm.trans h
    refine g_iconst (pc := 30) (v := 0) K dX6_valueOf_30 (by decide) ?_
    refine g_sub K [] rfl ?_
    exact w_X6_valueOf_31 K hT  _ _ _ _ h (by omega) (by omega)
  · replace h := (if_neg c15).symm.trans h
    refine g_aload_n (pc := 21) K 1 rfl rfl dX6_valueOf_21 ?_
    replace h := Option.bind_eq_some_iff.mp h
    obtain ⟨r16, e17, h⟩ := h
    refine g_getR (pc := 22) K cl_1 hin_X1 (k := 2) (by decide) tb_39 rfl e17 dX6_valueOf_22 ?_
    refine g_iload_n (pc := 25) K 0 rfl rfl dX6_valueOf_25 ?_
    replace h := Option.bind_eq_some_iff.mp h
    obtain ⟨a18, rfl, h⟩ := h
    replace h := Option.bind_eq_some_iff.mp h
    obtain ⟨x20, e19, h⟩ := h
    refine g_iald (pc := 26) K e19 dX6_valueOf_26 ?_
    refine g_goto (pc := 27) (tgt := 31) K dX6_valueOf_27 (by decide) ?_
    refine g_sub K [] rfl ?_
    exact w_X6_valueOf_31 K hT  _ _ _ _ h (by omega) (by omega)

def f_X6_splitIfTooLarge (p0 : Nat) (q1 : Nat) (q2 : Int32) (σ : sw_S) : Option sw_S :=
  (sw_gR 1 q1 3 σ).bind fun r1 =>
  r1.bind fun a3 =>
  (sw_ql a3 q2 σ).bind fun r5 =>
  r5.bind fun a6 =>
  (sw_gI 1 a6 4 σ).bind fun x7 =>
  (sw_gI 6 p0 0 σ).bind fun x9 =>
  (if x9 < x7 then
  (some (sw_nw σ (.inr (1, [.int 0, .null, .null, .null, .int 0, .int 0, .int 0, .int 0])))).bind fun σ12 =>
  (sw_gI 1 a6 0 σ12).bind fun x14 =>
  (sw_gI 6 p0 0 σ12).bind fun x16 =>
  (f_X1_init σ.1 x14 ((x16 + 1)) σ12).bind fun σ19 =>
  (sw_gI 6 p0 0 σ19).bind fun x20 =>
  (sw_ob 1 a6 σ19).bind fun f22 =>
  (f_X1_moveTail a6 ((((x20 + 2)) / 2)) σ.1 σ19).bind fun σ25 =>
  (sw_ob 1 a6 σ25).bind fun f26 =>
  (f_X1_renew a6 σ25).bind fun σ29 =>
  (sw_ob 1 σ.1 σ29).bind fun f30 =>
  (f_X1_renew σ.1 σ29).bind fun σ33 =>
  (sw_ob 1 q1 σ33).bind fun f34 =>
  (f_X1_openSlot q1 ((q2 + 1)) σ33).bind fun σ37 =>
  (sw_gR 1 q1 3 σ37).bind fun r38 =>
  r38.bind fun a40 =>
  (sw_qs a40 ((q2 + 1)) (some σ.1) σ37).bind fun σ42 =>
  some σ42
  else
  some σ)
set_option maxHeartbeats 4000000 in
set_option maxRecDepth 100000 in
theorem c_X6_splitIfTooLarge  (l : Launch) (D : va_G) (cT : Nat → ClassId) (p0 : Nat) (q1 : Nat) (q2 : Int32) (σ : sw_S) {σ' : sw_S} (h : f_X6_splitIfTooLarge p0 q1 q2 σ = some σ') : sw_M l D cT yX6_splitIfTooLarge cX6_splitIfTooLarge 5 none 2 46 4 26 σ [P_ (some p0), P_ (some q1), I_ q2] none σ' := by
  refine sw_met_v (by decide) (Nat.le_of_ble_eq_true rfl) (fun p e s m args below meth c A Q K hnm hT => ?_)
  have hce : 0 + 4 ≤ 4 := Nat.le_of_ble_eq_true rfl
  have hsl : 0 + 26 ≤ 26 := Nat.le_of_ble_eq_true rfl
  unfold f_X6_splitIfTooLarge at h
  change sw_G p l e (sw_R 2 4 26 46) s m args below meth c Q 5 A D cT σ 0 0 0 [(0, P_ (some p0)), (1, P_ (some q1)), (2, I_ q2)] []
  refine g_aload_n (pc := 0) K 1 rfl rfl dX6_splitIfTooLarge_0 ?_
  replace h := Option.bind_eq_some_iff.mp h
  obtain ⟨r1, e2, h⟩ := h
  refine g_getR (pc := 1) K cl_1 hin_X1 (k := 3) (by decide) tb_43 rfl e2 dX6_splitIfTooLarge_1 ?_
  refine g_iload_n (pc := 4) K 2 rfl rfl dX6_splitIfTooLarge_4 ?_
  replace h := Option.bind_eq_some_iff.mp h
  obtain ⟨a3, rfl, h⟩ := h
  replace h := Option.bind_eq_some_iff.mp h
  obtain ⟨r5, e4, h⟩ := h
  refine g_qald (pc := 5) K e4 dX6_splitIfTooLarge_5 ?_
  refine g_astore_n (pc := 6) K [(3, P_ r5), (0, P_ (some p0)), (1, P_ (some q1)), (2, I_ q2)] rfl (by decide) rfl dX6_splitIfTooLarge_6 ?_
  refine g_aload_n (pc := 7) K 0 rfl rfl dX6_splitIfTooLarge_7 ?_
  replace h := Option.bind_eq_some_iff.mp h
  obtain ⟨a6, rfl, h⟩ := h
  replace h := Option.bind_eq_some_iff.mp h
  obtain ⟨x7, e8, h⟩ := h
  refine g_getI (pc := 8) K cl_1 hin_X1 (k := 4) (by decide) tb_46 rfl e8 dX6_splitIfTooLarge_8 ?_
  refine g_aload_n (pc := 11) K 1 rfl rfl dX6_splitIfTooLarge_11 ?_
  replace h := Option.bind_eq_some_iff.mp h
  obtain ⟨x9, e10, h⟩ := h
  refine g_getI (pc := 12) K cl_6 hin_X6 (k := 0) (by decide) tb_82 rfl e10 dX6_splitIfTooLarge_12 ?_
  refine g_icmp_gt (pc := 15) K 19 dX6_splitIfTooLarge_15 (by decide) (fun c11 => ?_) (fun c11 => ?_)
  · replace h := (if_pos c11).symm.trans h
    replace h := Option.bind_eq_some_iff.mp h
    obtain ⟨σ12, e13, h⟩ := h
    replace e13 := Option.some.inj e13
    refine g_new (pc := 19) K 1 [.int 0, .null, .null, .null, .int 0, .int 0, .int 0, .int 0] cl_1 hin_X1 tyX1 tyX1_ok tb_24 tb_26 tb_3 fs_X1 (by show _ ≤ 4; omega) (by show _ ≤ 26; omega) dX6_splitIfTooLarge_19 ?_
    rw [e13]
    refine g_dup (pc := 22) K rfl dX6_splitIfTooLarge_22 ?_
    refine g_aload_n (pc := 23) K 0 rfl rfl dX6_splitIfTooLarge_23 ?_
    replace h := Option.bind_eq_some_iff.mp h
    obtain ⟨x14, e15, h⟩ := h
    refine g_getI (pc := 24) K cl_1 hin_X1 (k := 0) (by decide) tb_34 rfl e15 dX6_splitIfTooLarge_24 ?_
    refine g_aload_n (pc := 27) K 1 rfl rfl dX6_splitIfTooLarge_27 ?_
    replace h := Option.bind_eq_some_iff.mp h
    obtain ⟨x16, e17, h⟩ := h
    refine g_getI (pc := 28) K cl_6 hin_X6 (k := 0) (by decide) tb_82 rfl e17 dX6_splitIfTooLarge_28 ?_
    refine g_iconst (pc := 31) (v := 1) K dX6_splitIfTooLarge_31 (by decide) ?_
    refine g_iadd (pc := 32) K dX6_splitIfTooLarge_32 ?_
    replace h := Option.bind_eq_some_iff.mp h
    obtain ⟨σ19, e18, h⟩ := h
    refine g_callI (pc := 33) (st := [P_ (some σ.1)]) K [I_ x14, I_ ((x16 + 1))] (c_X1_init _ _ _ _ _ _ _ e18) tb_29 tb_27 tb_3 tb_28 rfl hd_X1_init ⟨Nat.le_of_ble_eq_true rfl, Nat.le_of_ble_eq_true rfl⟩ rfl (sw_rm (Nat.le_of_ble_eq_true rfl)) ⟨by show _ ≤ 4; omega, by show _ ≤ 26; omega⟩ dX6_splitIfTooLarge_33 ?_
    refine g_astore (pc := 36) K [(4, P_ (some σ.1)), (3, P_ (some a6)), (0, P_ (some p0)), (1, P_ (some q1)), (2, I_ q2)] (by decide) rfl dX6_splitIfTooLarge_36 ?_
    refine g_aload_n (pc := 38) K 1 rfl rfl dX6_splitIfTooLarge_38 ?_
    refine g_aload_n (pc := 39) K 2 rfl rfl dX6_splitIfTooLarge_39 ?_
    replace h := Option.bind_eq_some_iff.mp h
    obtain ⟨x20, e21, h⟩ := h
    refine g_getI (pc := 40) K cl_6 hin_X6 (k := 0) (by decide) tb_82 rfl e21 dX6_splitIfTooLarge_40 ?_
    refine g_iconst (pc := 43) (v := 2) K dX6_splitIfTooLarge_43 (by decide) ?_
    refine g_iadd (pc := 44) K dX6_splitIfTooLarge_44 ?_
    refine g_iconst (pc := 45) (v := 2) K dX6_splitIfTooLarge_45 (by decide) ?_
    refine g_idiv (pc := 46) K dX6_splitIfTooLarge_46 (by decide) ?_
    refine g_aload (pc := 47) K 0 rfl dX6_splitIfTooLarge_47 ?_
    replace h := Option.bind_eq_some_iff.mp h
    obtain ⟨f22, e23, h⟩ := h
    replace h := Option.bind_eq_some_iff.mp h
    obtain ⟨σ25, e24, h⟩ := h
    refine g_callV (pc := 49) (st := []) K [I_ ((((x20 + 2)) / 2)), P_ (some σ.1)] (c_X1_moveTail _ _ _ _ _ _ _ e24) e23 cl_1 rfl tb_243 tb_240 tb_3 tb_241 tb_242 hd_X1_moveTail ⟨Nat.le_of_ble_eq_true rfl, Nat.le_of_ble_eq_true rfl⟩ rfl (sw_rm (Nat.le_of_ble_eq_true rfl)) ⟨by show _ ≤ 4; omega, by show _ ≤ 26; omega⟩ dX6_splitIfTooLarge_49 ?_
    refine g_aload_n (pc := 52) K 1 rfl rfl dX6_splitIfTooLarge_52 ?_
    replace h := Option.bind_eq_some_iff.mp h
    obtain ⟨f26, e27, h⟩ := h
    replace h := Option.bind_eq_some_iff.mp h
    obtain ⟨σ29, e28, h⟩ := h
    refine g_callV (pc := 53) (st := []) K [] (c_X1_renew _ _ _ _ _ e28) e27 cl_1 rfl tb_77 tb_74 tb_3 tb_75 tb_76 hd_X1_renew ⟨Nat.le_of_ble_eq_true rfl, Nat.le_of_ble_eq_true rfl⟩ rfl (sw_rm (Nat.le_of_ble_eq_true rfl)) ⟨by show _ ≤ 4; omega, by show _ ≤ 26; omega⟩ dX6_splitIfTooLarge_53 ?_
    refine g_aload (pc := 56) K 0 rfl dX6_splitIfTooLarge_56 ?_
    replace h := Option.bind_eq_some_iff.mp h
    obtain ⟨f30, e31, h⟩ := h
    replace h := Option.bind_eq_some_iff.mp h
    obtain ⟨σ33, e32, h⟩ := h
    refine g_callV (pc := 58) (st := []) K [] (c_X1_renew _ _ _ _ _ e32) e31 cl_1 rfl tb_77 tb_74 tb_3 tb_75 tb_76 hd_X1_renew ⟨Nat.le_of_ble_eq_true rfl, Nat.le_of_ble_eq_true rfl⟩ rfl (sw_rm (Nat.le_of_ble_eq_true rfl)) ⟨by show _ ≤ 4; omega, by show _ ≤ 26; omega⟩ dX6_splitIfTooLarge_58 ?_
    refine g_aload_n (pc := 61) K 3 rfl rfl dX6_splitIfTooLarge_61 ?_
    refine g_iload_n (pc := 62) K 4 rfl rfl dX6_splitIfTooLarge_62 ?_
    refine g_iconst (pc := 63) (v := 1) K dX6_splitIfTooLarge_63 (by decide) ?_
    refine g_iadd (pc := 64) K dX6_splitIfTooLarge_64 ?_
    replace h := Option.bind_eq_some_iff.mp h
    obtain ⟨f34, e35, h⟩ := h
    replace h := Option.bind_eq_some_iff.mp h
    obtain ⟨σ37, e36, h⟩ := h
    refine g_callV (pc := 65) (st := []) K [I_ ((q2 + 1))] (c_X1_openSlot _ _ _ _ _ _ e36) e35 cl_1 rfl tb_227 tb_224 tb_3 tb_225 tb_226 hd_X1_openSlot ⟨Nat.le_of_ble_eq_true rfl, Nat.le_of_ble_eq_true rfl⟩ rfl (sw_rm (Nat.le_of_ble_eq_true rfl)) ⟨by show _ ≤ 4; omega, by show _ ≤ 26; omega⟩ dX6_splitIfTooLarge_65 ?_
    refine g_aload_n (pc := 68) K 3 rfl rfl dX6_splitIfTooLarge_68 ?_
    replace h := Option.bind_eq_some_iff.mp h
    obtain ⟨r38, e39, h⟩ := h
    refine g_getR (pc := 69) K cl_1 hin_X1 (k := 3) (by decide) tb_43 rfl e39 dX6_splitIfTooLarge_69 ?_
    refine g_iload_n (pc := 72) K 4 rfl rfl dX6_splitIfTooLarge_72 ?_
    refine g_iconst (pc := 73) (v := 1) K dX6_splitIfTooLarge_73 (by decide) ?_
    refine g_iadd (pc := 74) K dX6_splitIfTooLarge_74 ?_
    refine g_aload (pc := 75) K 0 rfl dX6_splitIfTooLarge_75 ?_
    replace h := Option.bind_eq_some_iff.mp h
    obtain ⟨a40, rfl, h⟩ := h
    replace h := Option.bind_eq_some_iff.mp h
    obtain ⟨σ42, e41, h⟩ := h
    refine g_qast (pc := 77) K e41 dX6_splitIfTooLarge_77 ?_
    cases h
    exact hT _ _ 78 _ (by omega) (by omega) dX6_splitIfTooLarge_78
  · replace h := (if_neg c11).symm.trans h
    cases h
    exact hT _ _ 18 _ (by omega) (by omega) dX6_splitIfTooLarge_18

def f_X6_growRoot (p0 : Nat) (σ : sw_S) : Option sw_S :=
  (some (sw_nw σ (.inr (1, [.int 0, .null, .null, .null, .int 0, .int 0, .int 0, .int 0])))).bind fun σ1 =>
  (sw_gI 6 p0 0 σ1).bind fun x3 =>
  (f_X1_init σ.1 0 ((x3 + 1)) σ1).bind fun σ6 =>
  (sw_gR 1 σ.1 3 σ6).bind fun r7 =>
  (sw_gR 6 p0 4 σ6).bind fun r9 =>
  r7.bind fun a11 =>
  (sw_qs a11 0 r9 σ6).bind fun σ13 =>
  (sw_pt 1 σ.1 4 (.int 1) σ13).bind fun σ14 =>
  (sw_ob 6 p0 σ14).bind fun f16 =>
  (f_X6_splitIfTooLarge p0 σ.1 0 σ14).bind fun σ19 =>
  (sw_ob 1 σ.1 σ19).bind fun f20 =>
  (f_X1_renew σ.1 σ19).bind fun σ23 =>
  (sw_pt 6 p0 4 (va_rf (some σ.1)) σ23).bind fun σ24 =>
  (sw_gI 6 p0 5 σ24).bind fun x26 =>
  (sw_pt 6 p0 5 (.int ((x26 + 1))) σ24).bind fun σ28 =>
  some σ28
set_option maxHeartbeats 4000000 in
set_option maxRecDepth 100000 in
theorem c_X6_growRoot  (l : Launch) (D : va_G) (cT : Nat → ClassId) (p0 : Nat) (σ : sw_S) {σ' : sw_S} (h : f_X6_growRoot p0 σ = some σ') : sw_M l D cT yX6_growRoot cX6_growRoot 2 none 3 70 8 52 σ [P_ (some p0)] none σ' := by
  refine sw_met_v (by decide) (Nat.le_of_ble_eq_true rfl) (fun p e s m args below meth c A Q K hnm hT => ?_)
  have hce : 0 + 8 ≤ 8 := Nat.le_of_ble_eq_true rfl
  have hsl : 0 + 52 ≤ 52 := Nat.le_of_ble_eq_true rfl
  unfold f_X6_growRoot at h
  change sw_G p l e (sw_R 3 8 52 70) s m args below meth c Q 2 A D cT σ 0 0 0 [(0, P_ (some p0))] []
  replace h := Option.bind_eq_some_iff.mp h
  obtain ⟨σ1, e2, h⟩ := h
  replace e2 := Option.some.inj e2
  refine g_new (pc := 0) K 1 [.int 0, .null, .null, .null, .int 0, .int 0, .int 0, .int 0] cl_1 hin_X1 tyX1 tyX1_ok tb_24 tb_26 tb_3 fs_X1 (by show _ ≤ 8; omega) (by show _ ≤ 52; omega) dX6_growRoot_0 ?_
  rw [e2]
  refine g_dup (pc := 3) K rfl dX6_growRoot_3 ?_
  refine g_iconst (pc := 4) (v := 0) K dX6_growRoot_4 (by decide) ?_
  refine g_aload_n (pc := 5) K 0 rfl rfl dX6_growRoot_5 ?_
  replace h := Option.bind_eq_some_iff.mp h
  obtain ⟨x3, e4, h⟩ := h
  refine g_getI (pc := 6) K cl_6 hin_X6 (k := 0) (by decide) tb_82 rfl e4 dX6_growRoot_6 ?_
  refine g_iconst (pc := 9) (v := 1) K dX6_growRoot_9 (by decide) ?_
  refine g_iadd (pc := 10) K dX6_growRoot_10 ?_
  replace h := Option.bind_eq_some_iff.mp h
  obtain ⟨σ6, e5, h⟩ := h
  refine g_callI (pc := 11) (st := [P_ (some σ.1)]) K [I_ 0, I_ ((x3 + 1))] (c_X1_init _ _ _ _ _ _ _ e5) tb_29 tb_27 tb_3 tb_28 rfl hd_X1_init ⟨Nat.le_of_ble_eq_true rfl, Nat.le_of_ble_eq_true rfl⟩ rfl (sw_rm (Nat.le_of_ble_eq_true rfl)) ⟨by show _ ≤ 8; omega, by show _ ≤ 52; omega⟩ dX6_growRoot_11 ?_
  refine g_astore_n (pc := 14) K [(1, P_ (some σ.1)), (0, P_ (some p0))] rfl (by decide) rfl dX6_growRoot_14 ?_
  refine g_aload_n (pc := 15) K 0 rfl rfl dX6_growRoot_15 ?_
  replace h := Option.bind_eq_some_iff.mp h
  obtain ⟨r7, e8, h⟩ := h
  refine g_getR (pc := 16) K cl_1 hin_X1 (k := 3) (by decide) tb_43 rfl e8 dX6_growRoot_16 ?_
  refine g_iconst (pc := 19) (v := 0) K dX6_growRoot_19 (by decide) ?_
  refine g_aload_n (pc := 20) K 1 rfl rfl dX6_growRoot_20 ?_
  replace h := Option.bind_eq_some_iff.mp h
  obtain ⟨r9, e10, h⟩ := h
  refine g_getR (pc := 21) K cl_6 hin_X6 (k := 4) (by decide) tb_86 rfl e10 dX6_growRoot_21 ?_
  replace h := Option.bind_eq_some_iff.mp h
  obtain ⟨a11, rfl, h⟩ := h
  replace h := Option.bind_eq_some_iff.mp h
  obtain ⟨σ13, e12, h⟩ := h
  refine g_qast (pc := 24) K e12 dX6_growRoot_24 ?_
  refine g_aload_n (pc := 25) K 0 rfl rfl dX6_growRoot_25 ?_
  refine g_iconst (pc := 26) (v := 1) K dX6_growRoot_26 (by decide) ?_
  replace h := Option.bind_eq_some_iff.mp h
  obtain ⟨σ14, e15, h⟩ := h
  refine g_put (pc := 27) K cl_1 hin_X1 (k := 4) (by decide) tb_46 rfl tyX1 tyX1_ok nmX1 (Or.inl rfl) rfl rfl e15 dX6_growRoot_27 ?_
  refine g_aload_n (pc := 30) K 1 rfl rfl dX6_growRoot_30 ?_
  refine g_aload_n (pc := 31) K 0 rfl rfl dX6_growRoot_31 ?_
  refine g_iconst (pc := 32) (v := 0) K dX6_growRoot_32 (by decide) ?_
  replace h := Option.bind_eq_some_iff.mp h
  obtain ⟨f16, e17, h⟩ := h
  replace h := Option.bind_eq_some_iff.mp h
  obtain ⟨σ19, e18, h⟩ := h
  refine g_callV (pc := 33) (st := []) K [P_ (some σ.1), I_ 0] (c_X6_splitIfTooLarge _ _ _ _ _ _ _ e18) e17 cl_6 rfl tb_239 tb_236 tb_2 tb_238 sl_2 hd_X6_splitIfTooLarge ⟨Nat.le_of_ble_eq_true rfl, Nat.le_of_ble_eq_true rfl⟩ rfl (sw_rm (Nat.le_of_ble_eq_true rfl)) ⟨by show _ ≤ 8; omega, by show _ ≤ 52; omega⟩ dX6_growRoot_33 ?_
  refine g_aload_n (pc := 36) K 0 rfl rfl dX6_growRoot_36 ?_
  replace h := Option.bind_eq_some_iff.mp h
  obtain ⟨f20, e21, h⟩ := h
  replace h := Option.bind_eq_some_iff.mp h
  obtain ⟨σ23, e22, h⟩ := h
  refine g_callV (pc := 37) (st := []) K [] (c_X1_renew _ _ _ _ _ e22) e21 cl_1 rfl tb_77 tb_74 tb_3 tb_75 tb_76 hd_X1_renew ⟨Nat.le_of_ble_eq_true rfl, Nat.le_of_ble_eq_true rfl⟩ rfl (sw_rm (Nat.le_of_ble_eq_true rfl)) ⟨by show _ ≤ 8; omega, by show _ ≤ 52; omega⟩ dX6_growRoot_37 ?_
  refine g_aload_n (pc := 40) K 1 rfl rfl dX6_growRoot_40 ?_
  refine g_aload_n (pc := 41) K 0 rfl rfl dX6_growRoot_41 ?_
  replace h := Option.bind_eq_some_iff.mp h
  obtain ⟨σ24, e25, h⟩ := h
  refine g_put (pc := 42) K cl_6 hin_X6 (k := 4) (by decide) tb_86 rfl tyX6 tyX6_ok nmX6 (Or.inl rfl) (sw_nr (tyX6 4) rfl _) (sw_fr (tyX6 4) rfl _) e25 dX6_growRoot_42 ?_
  refine g_aload_n (pc := 45) K 1 rfl rfl dX6_growRoot_45 ?_
  refine g_dup (pc := 46) K rfl dX6_growRoot_46 ?_
  replace h := Option.bind_eq_some_iff.mp h
  obtain ⟨x26, e27, h⟩ := h
  refine g_getI (pc := 47) K cl_6 hin_X6 (k := 5) (by decide) tb_88 rfl e27 dX6_growRoot_47 ?_
  refine g_iconst (pc := 50) (v := 1) K dX6_growRoot_50 (by decide) ?_
  refine g_iadd (pc := 51) K dX6_growRoot_51 ?_
  replace h := Option.bind_eq_some_iff.mp h
  obtain ⟨σ28, e29, h⟩ := h
  refine g_put (pc := 52) K cl_6 hin_X6 (k := 5) (by decide) tb_88 rfl tyX6 tyX6_ok nmX6 (Or.inl rfl) rfl rfl e29 dX6_growRoot_52 ?_
  cases h
  exact hT _ _ 55 _ (by omega) (by omega) dX6_growRoot_55

def b_X6_splitUpwards_71 (σ : sw_S) : Option sw_S :=
  some σ
set_option maxHeartbeats 4000000 in
set_option maxRecDepth 100000 in
theorem w_X6_splitUpwards_71 {p : Program} {l : Launch} {e : Env} {s : State} {m : MethodId} {args : Array Value} {below : List Frame} {meth : Method} {c : Code} {Q : State → Prop} {A : Nat → Prop} {D : va_G} {cT : Nat → ClassId} {σ' : sw_S}  (K : sw_C p s m args c cX6_splitUpwards 2 RX6 A D cT) (hT : sw_Tv cX6_splitUpwards p l e (sw_R 4 36 234 91) s m args below meth c Q 2 A D cT 36 234 σ') (σ : sw_S)  (ce sl : Nat) (h : b_X6_splitUpwards_71  σ = some σ') (hce : ce + (0) ≤ 36) (hsl : sl + (0) ≤ 234) : sw_G p l e (sw_R 4 36 234 91) s m args below meth c Q 2 A D cT σ ce sl 71 [] [] := by
  unfold b_X6_splitUpwards_71 at h
  cases h
  exact hT _ _ 71 _ (by omega) (by omega) dX6_splitUpwards_71
def B_X6_splitUpwards_7 (rec7 : Nat → Int32 → sw_S → Option sw_S) (v0 : Nat) (v1 : Int32) (σ : sw_S) : Option sw_S :=
  (if v1 ≤ 0 then
  (sw_gR 6 v0 4 σ).bind fun r2 =>
  r2.bind fun a4 =>
  (sw_ob 1 a4 σ).bind fun f5 =>
  (f_X1_renew a4 σ).bind fun σ8 =>
  (sw_gR 6 v0 4 σ8).bind fun r9 =>
  r9.bind fun a11 =>
  (sw_gI 1 a11 4 σ8).bind fun x12 =>
  (sw_gI 6 v0 0 σ8).bind fun x14 =>
  (if x12 ≤ x14 then
  b_X6_splitUpwards_71 σ8
  else
  (sw_ob 6 v0 σ8).bind fun f17 =>
  (f_X6_growRoot v0 σ8).bind fun σ20 =>
  b_X6_splitUpwards_71 σ20)
  else
  (sw_gR 6 v0 2 σ).bind fun r21 =>
  r21.bind fun a23 =>
  (sw_ql a23 v1 σ).bind fun r25 =>
  r25.bind fun a26 =>
  (sw_ob 1 a26 σ).bind fun f27 =>
  (f_X1_renew a26 σ).bind fun σ30 =>
  (sw_gR 6 v0 2 σ30).bind fun r31 =>
  r31.bind fun a33 =>
  (sw_ql a33 ((v1 - 1)) σ30).bind fun r35 =>
  (sw_gR 6 v0 3 σ30).bind fun r36 =>
  r36.bind fun a38 =>
  (sw_al 0 a38 ((v1 - 1)) σ30).bind fun x40 =>
  r35.bind fun a41 =>
  (sw_ob 6 v0 σ30).bind fun f42 =>
  (f_X6_splitIfTooLarge v0 a41 x40 σ30).bind fun σ45 =>
  rec7 v0 ((v1 + (-1))) σ45)
set_option maxHeartbeats 4000000 in
set_option maxRecDepth 100000 in
theorem wB_X6_splitUpwards_7 {p : Program} {l : Launch} {e : Env} {s : State} {m : MethodId} {args : Array Value} {below : List Frame} {meth : Method} {c : Code} {Q : State → Prop} {A : Nat → Prop} {D : va_G} {cT : Nat → ClassId} {σ' : sw_S}  {n7 : Nat} (K : sw_C p s m args c cX6_splitUpwards 2 RX6 A D cT) (hT : sw_Tv cX6_splitUpwards p l e (sw_R 4 36 234 91) s m args below meth c Q 2 A D cT 36 234 σ') {rec7 : Nat → Int32 → sw_S → Option sw_S} (hrec7 : ∀ (v0 : Nat) (v1 : Int32) (σ : sw_S) (ce sl : Nat), rec7 v0 v1 σ = some σ' → ce + (8 + n7 * 4) ≤ 36 → sl + (52 + n7 * 26) ≤ 234 → sw_G p l e (sw_R 4 36 234 91) s m args below meth c Q 2 A D cT σ ce sl 7 [(0, P_ (some v0)), (1, I_ v1)] []) (v0 : Nat) (v1 : Int32) (σ : sw_S)  (ce sl : Nat) (h : B_X6_splitUpwards_7 rec7 v0 v1 σ = some σ') (hce : ce + (8 + (n7 + 1) * 4) ≤ 36) (hsl : sl + (52 + (n7 + 1) * 26) ≤ 234) : sw_G p l e (sw_R 4 36 234 91) s m args below meth c Q 2 A D cT σ ce sl 7 [(0, P_ (some v0)), (1, I_ v1)] [] := by
  unfold B_X6_splitUpwards_7 at h
  refine g_iload_n (pc := 7) K 1 rfl rfl dX6_splitUpwards_7 ?_
  refine g_if_le (pc := 8) K 46 dX6_splitUpwards_8 (by decide) (fun c1 => ?_) (fun c1 => ?_)
  · replace h := (if_pos c1).symm.trans h
    refine g_aload_n (pc := 46) K 0 rfl rfl dX6_splitUpwards_46 ?_
    replace h := Option.bind_eq_some_iff.mp h
    obtain ⟨r2, e3, h⟩ := h
    refine g_getR (pc := 47) K cl_6 hin_X6 (k := 4) (by decide) tb_86 rfl e3 dX6_splitUpwards_47 ?_
    replace h := Option.bind_eq_some_iff.mp h
    obtain ⟨a4, rfl, h⟩ := h
    replace h := Option.bind_eq_some_iff.mp h
    obtain ⟨f5, e6, h⟩ := h
    replace h := Option.bind_eq_some_iff.mp h
    obtain ⟨σ8, e7, h⟩ := h
    refine g_callV (pc := 50) (st := []) K [] (c_X1_renew _ _ _ _ _ e7) e6 cl_1 rfl tb_77 tb_74 tb_3 tb_75 tb_76 hd_X1_renew ⟨Nat.le_of_ble_eq_true rfl, Nat.le_of_ble_eq_true rfl⟩ rfl (sw_rm (Nat.le_of_ble_eq_true rfl)) ⟨by show _ ≤ 36; omega, by show _ ≤ 234; omega⟩ dX6_splitUpwards_50 ?_
    refine g_aload_n (pc := 53) K 0 rfl rfl dX6_splitUpwards_53 ?_
    replace h := Option.bind_eq_some_iff.mp h
    obtain ⟨r9, e10, h⟩ := h
    refine g_getR (pc := 54) K cl_6 hin_X6 (k := 4) (by decide) tb_86 rfl e10 dX6_splitUpwards_54 ?_
    replace h := Option.bind_eq_some_iff.mp h
    obtain ⟨a11, rfl, h⟩ := h
    replace h := Option.bind_eq_some_iff.mp h
    obtain ⟨x12, e13, h⟩ := h
    refine g_getI (pc := 57) K cl_1 hin_X1 (k := 4) (by decide) tb_46 rfl e13 dX6_splitUpwards_57 ?_
    refine g_aload_n (pc := 60) K 0 rfl rfl dX6_splitUpwards_60 ?_
    replace h := Option.bind_eq_some_iff.mp h
    obtain ⟨x14, e15, h⟩ := h
    refine g_getI (pc := 61) K cl_6 hin_X6 (k := 0) (by decide) tb_82 rfl e15 dX6_splitUpwards_61 ?_
    refine g_icmp_le (pc := 64) K 71 dX6_splitUpwards_64 (by decide) (fun c16 => ?_) (fun c16 => ?_)
    · replace h := (if_pos c16).symm.trans h
      refine g_sub K [] rfl ?_
      exact w_X6_splitUpwards_71 K hT   _ _ _ h (by omega) (by omega)
    · replace h := (if_neg c16).symm.trans h
      refine g_aload_n (pc := 67) K 0 rfl rfl dX6_splitUpwards_67 ?_
      replace h := Option.bind_eq_some_iff.mp h
      obtain ⟨f17, e18, h⟩ := h
      replace h := Option.bind_eq_some_iff.mp h
      obtain ⟨σ20, e19, h⟩ := h
      refine g_callV (pc := 68) (st := []) K [] (c_X6_growRoot _ _ _ _ _ e19) e18 cl_6 rfl tb_247 tb_244 tb_2 tb_246 sl_3 hd_X6_growRoot ⟨Nat.le_of_ble_eq_true rfl, Nat.le_of_ble_eq_true rfl⟩ rfl (sw_rm (Nat.le_of_ble_eq_true rfl)) ⟨by show _ ≤ 36; omega, by show _ ≤ 234; omega⟩ dX6_splitUpwards_68 ?_
      refine g_sub K [] rfl ?_
      exact w_X6_splitUpwards_71 K hT   _ _ _ h (by omega) (by omega)
  · replace h := (if_neg c1).symm.trans h
    refine g_aload_n (pc := 11) K 0 rfl rfl dX6_splitUpwards_11 ?_
    replace h := Option.bind_eq_some_iff.mp h
    obtain ⟨r21, e22, h⟩ := h
    refine g_getR (pc := 12) K cl_6 hin_X6 (k := 2) (by decide) tb_84 rfl e22 dX6_splitUpwards_12 ?_
    refine g_iload_n (pc := 15) K 1 rfl rfl dX6_splitUpwards_15 ?_
    replace h := Option.bind_eq_some_iff.mp h
    obtain ⟨a23, rfl, h⟩ := h
    replace h := Option.bind_eq_some_iff.mp h
    obtain ⟨r25, e24, h⟩ := h
    refine g_qald (pc := 16) K e24 dX6_splitUpwards_16 ?_
    replace h := Option.bind_eq_some_iff.mp h
    obtain ⟨a26, rfl, h⟩ := h
    replace h := Option.bind_eq_some_iff.mp h
    obtain ⟨f27, e28, h⟩ := h
    replace h := Option.bind_eq_some_iff.mp h
    obtain ⟨σ30, e29, h⟩ := h
    refine g_callV (pc := 17) (st := []) K [] (c_X1_renew _ _ _ _ _ e29) e28 cl_1 rfl tb_77 tb_74 tb_3 tb_75 tb_76 hd_X1_renew ⟨Nat.le_of_ble_eq_true rfl, Nat.le_of_ble_eq_true rfl⟩ rfl (sw_rm (Nat.le_of_ble_eq_true rfl)) ⟨by show _ ≤ 36; omega, by show _ ≤ 234; omega⟩ dX6_splitUpwards_17 ?_
    refine g_aload_n (pc := 20) K 0 rfl rfl dX6_splitUpwards_20 ?_
    refine g_aload_n (pc := 21) K 0 rfl rfl dX6_splitUpwards_21 ?_
    replace h := Option.bind_eq_some_iff.mp h
    obtain ⟨r31, e32, h⟩ := h
    refine g_getR (pc := 22) K cl_6 hin_X6 (k := 2) (by decide) tb_84 rfl e32 dX6_splitUpwards_22 ?_
    refine g_iload_n (pc := 25) K 1 rfl rfl dX6_splitUpwards_25 ?_
    refine g_iconst (pc := 26) (v := 1) K dX6_splitUpwards_26 (by decide) ?_
    refine g_isub (pc := 27) K dX6_splitUpwards_27 ?_
    replace h := Option.bind_eq_some_iff.mp h
    obtain ⟨a33, rfl, h⟩ := h
    replace h := Option.bind_eq_some_iff.mp h
    obtain ⟨r35, e34, h⟩ := h
    refine g_qald (pc := 28) K e34 dX6_splitUpwards_28 ?_
    refine g_aload_n (pc := 29) K 0 rfl rfl dX6_splitUpwards_29 ?_
    replace h := Option.bind_eq_some_iff.mp h
    obtain ⟨r36, e37, h⟩ := h
    refine g_getR (pc := 30) K cl_6 hin_X6 (k := 3) (by decide) tb_85 rfl e37 dX6_splitUpwards_30 ?_
    refine g_iload_n (pc := 33) K 1 rfl rfl dX6_splitUpwards_33 ?_
    refine g_iconst (pc := 34) (v := 1) K dX6_splitUpwards_34 (by decide) ?_
    refine g_isub (pc := 35) K dX6_splitUpwards_35 ?_
    replace h := Option.bind_eq_some_iff.mp h
    obtain ⟨a38, rfl, h⟩ := h
    replace h := Option.bind_eq_some_iff.mp h
    obtain ⟨x40, e39, h⟩ := h
    refine g_iald (pc := 36) K e39 dX6_splitUpwards_36 ?_
    replace h := Option.bind_eq_some_iff.mp h
    obtain ⟨a41, rfl, h⟩ := h
    replace h := Option.bind_eq_some_iff.mp h
    obtain ⟨f42, e43, h⟩ := h
    replace h := Option.bind_eq_some_iff.mp h
    obtain ⟨σ45, e44, h⟩ := h
    refine g_callV (pc := 37) (st := []) K [P_ (some a41), I_ x40] (c_X6_splitIfTooLarge _ _ _ _ _ _ _ e44) e43 cl_6 rfl tb_239 tb_236 tb_2 tb_238 sl_2 hd_X6_splitIfTooLarge ⟨Nat.le_of_ble_eq_true rfl, Nat.le_of_ble_eq_true rfl⟩ rfl (sw_rm (Nat.le_of_ble_eq_true rfl)) ⟨by show _ ≤ 36; omega, by show _ ≤ 234; omega⟩ dX6_splitUpwards_37 ?_
    refine g_iinc (pc := 40) K 1 (v1 + (-1)) [(1, I_ ((v1 + (-1)))), (0, P_ (some v0))] rfl (congrArg (fun z => v1 + z) (by decide : Int32.ofInt (-1) = (-1))) (by decide) rfl dX6_splitUpwards_40 ?_
    refine g_goto (pc := 43) (tgt := 7) K dX6_splitUpwards_43 (by decide) ?_
    refine g_sub K [1, 0] rfl ?_
    exact hrec7 _ _ _ _ _ h (by omega) (by omega)
def b_X6_splitUpwards_7  : Nat → Nat → Int32 → sw_S → Option sw_S
  | 0 => fun _ _ _ => none
  | n + 1 => B_X6_splitUpwards_7 (b_X6_splitUpwards_7  n)
theorem wl_X6_splitUpwards_7 {p : Program} {l : Launch} {e : Env} {s : State} {m : MethodId} {args : Array Value} {below : List Frame} {meth : Method} {c : Code} {Q : State → Prop} {A : Nat → Prop} {D : va_G} {cT : Nat → ClassId} {σ' : sw_S}  (K : sw_C p s m args c cX6_splitUpwards 2 RX6 A D cT) (hT : sw_Tv cX6_splitUpwards p l e (sw_R 4 36 234 91) s m args below meth c Q 2 A D cT 36 234 σ') : ∀ (n : Nat) (v0 : Nat) (v1 : Int32) (σ : sw_S) (ce sl : Nat), b_X6_splitUpwards_7  n v0 v1 σ = some σ' → ce + (8 + n * 4) ≤ 36 → sl + (52 + n * 26) ≤ 234 → sw_G p l e (sw_R 4 36 234 91) s m args below meth c Q 2 A D cT σ ce sl 7 [(0, P_ (some v0)), (1, I_ v1)] [] := by
  intro n
  induction n with
  | zero =>
    intro v0 v1 σ ce sl h
    exact absurd (show none = some σ' from h) (by simp)
  | succ n ih =>
    intro v0 v1 σ ce sl h hce hsl
    exact wB_X6_splitUpwards_7 K hT (fun _ _ _ _ _ h h1 h2 => ih _ _ _ _ _ h h1 h2) _ _ _ _ _ h hce hsl
def f_X6_splitUpwards (p0 : Nat) (σ : sw_S) : Option sw_S :=
  (sw_gI 6 p0 5 σ).bind fun x1 =>
  b_X6_splitUpwards_7 7 p0 ((x1 - 1)) σ
set_option maxHeartbeats 4000000 in
set_option maxRecDepth 100000 in
theorem c_X6_splitUpwards  (l : Launch) (D : va_G) (cT : Nat → ClassId) (p0 : Nat) (σ : sw_S) {σ' : sw_S} (h : f_X6_splitUpwards p0 σ = some σ') : sw_M l D cT yX6_splitUpwards cX6_splitUpwards 2 none 4 91 36 234 σ [P_ (some p0)] none σ' := by
  refine sw_met_v (by decide) (Nat.le_of_ble_eq_true rfl) (fun p e s m args below meth c A Q K hnm hT => ?_)
  have hce : 0 + 36 ≤ 36 := Nat.le_of_ble_eq_true rfl
  have hsl : 0 + 234 ≤ 234 := Nat.le_of_ble_eq_true rfl
  unfold f_X6_splitUpwards at h
  change sw_G p l e (sw_R 4 36 234 91) s m args below meth c Q 2 A D cT σ 0 0 0 [(0, P_ (some p0))] []
  refine g_aload_n (pc := 0) K 0 rfl rfl dX6_splitUpwards_0 ?_
  replace h := Option.bind_eq_some_iff.mp h
  obtain ⟨x1, e2, h⟩ := h
  refine g_getI (pc := 1) K cl_6 hin_X6 (k := 5) (by decide) tb_88 rfl e2 dX6_splitUpwards_1 ?_
  refine g_iconst (pc := 4) (v := 1) K dX6_splitUpwards_4 (by decide) ?_
  refine g_isub (pc := 5) K dX6_splitUpwards_5 ?_
  refine g_istore_n (pc := 6) K [(1, I_ ((x1 - 1))), (0, P_ (some p0))] rfl (by decide) rfl dX6_splitUpwards_6 ?_
  refine g_sub K [1, 0] rfl ?_
  exact wl_X6_splitUpwards_7 K hT  7 _ _ _ _ _ h (by omega) (by omega)

def b_X6_store_82 (t0 : Int32) (σ : sw_S) : Option (Int32 × sw_S) :=
  some (t0, σ)
set_option maxHeartbeats 4000000 in
set_option maxRecDepth 100000 in
theorem w_X6_store_82 {p : Program} {l : Launch} {e : Env} {s : State} {m : MethodId} {args : Array Value} {below : List Frame} {meth : Method} {c : Code} {Q : State → Prop} {A : Nat → Prop} {D : va_G} {cT : Nat → ClassId} {r : Int32}  {σ' : sw_S}  (K : sw_C p s m args c cX6_store 6 RX6 A D cT) (hT : sw_Ti cX6_store p l e (sw_R 5 36 234 112) s m args below meth c Q 6 A D cT 36 234 σ' r) (t0 : Int32) (σ : sw_S)  (ce sl : Nat) (h : b_X6_store_82 t0 σ = some (r, σ')) (hce : ce + (0) ≤ 36) (hsl : sl + (0) ≤ 234) : sw_G p l e (sw_R 5 36 234 112) s m args below meth c Q 6 A D cT σ ce sl 82 [] [I_ t0] := by
  unfold b_X6_store_82 at h
  cases h
  exact hT _ _ 82 _ (by omega) (by omega) dX6_store_82
def b_X6_store_60 (v0 : Nat) (v2 : Int32) (v3 : Nat) (v4 : Int32) (v5 : Int32) (σ : sw_S) : Option (Int32 × sw_S) :=
  (sw_gR 1 v3 2 σ).bind fun r1 =>
  r1.bind fun a3 =>
  (sw_as 0 a3 v4 v2 σ).bind fun σ5 =>
  (sw_ob 6 v0 σ5).bind fun f6 =>
  (f_X6_splitUpwards v0 σ5).bind fun σ9 =>
  (if v5 = 0 then
  b_X6_store_82 1 σ9
  else
  b_X6_store_82 2 σ9)
set_option maxHeartbeats 4000000 in
set_option maxRecDepth 100000 in
theorem w_X6_store_60 {p : Program} {l : Launch} {e : Env} {s : State} {m : MethodId} {args : Array Value} {below : List Frame} {meth : Method} {c : Code} {Q : State → Prop} {A : Nat → Prop} {D : va_G} {cT : Nat → ClassId} {r : Int32}  {σ' : sw_S}  (K : sw_C p s m args c cX6_store 6 RX6 A D cT) (hT : sw_Ti cX6_store p l e (sw_R 5 36 234 112) s m args below meth c Q 6 A D cT 36 234 σ' r) (v0 : Nat) (v2 : Int32) (v3 : Nat) (v4 : Int32) (v5 : Int32) (σ : sw_S)  (ce sl : Nat) (h : b_X6_store_60 v0 v2 v3 v4 v5 σ = some (r, σ')) (hce : ce + (36) ≤ 36) (hsl : sl + (234) ≤ 234) : sw_G p l e (sw_R 5 36 234 112) s m args below meth c Q 6 A D cT σ ce sl 60 [(0, P_ (some v0)), (2, I_ v2), (3, P_ (some v3)), (4, I_ v4), (5, I_ v5)] [] := by
  unfold b_X6_store_60 at h
  refine g_aload_n (pc := 60) K 2 rfl rfl dX6_store_60 ?_
  replace h := Option.bind_eq_some_iff.mp h
  obtain ⟨r1, e2, h⟩ := h
  refine g_getR (pc := 61) K cl_1 hin_X1 (k := 2) (by decide) tb_39 rfl e2 dX6_store_61 ?_
  refine g_iload (pc := 64) K 3 rfl dX6_store_64 ?_
  refine g_iload_n (pc := 66) K 1 rfl rfl dX6_store_66 ?_
  replace h := Option.bind_eq_some_iff.mp h
  obtain ⟨a3, rfl, h⟩ := h
  replace h := Option.bind_eq_some_iff.mp h
  obtain ⟨σ5, e4, h⟩ := h
  refine g_iast (pc := 67) K e4 dX6_store_67 ?_
  refine g_aload_n (pc := 68) K 0 rfl rfl dX6_store_68 ?_
  replace h := Option.bind_eq_some_iff.mp h
  obtain ⟨f6, e7, h⟩ := h
  replace h := Option.bind_eq_some_iff.mp h
  obtain ⟨σ9, e8, h⟩ := h
  refine g_callV (pc := 69) (st := []) K [] (c_X6_splitUpwards _ _ _ _ _ e8) e7 cl_6 rfl tb_235 tb_232 tb_2 tb_234 sl_1 hd_X6_splitUpwards ⟨Nat.le_of_ble_eq_true rfl, Nat.le_of_ble_eq_true rfl⟩ rfl (sw_rm (Nat.le_of_ble_eq_true rfl)) ⟨by show _ ≤ 36; omega, by show _ ≤ 234; omega⟩ dX6_store_69 ?_
  refine g_iload (pc := 72) K 4 rfl dX6_store_72 ?_
  refine g_if_eq (pc := 74) K 81 dX6_store_74 (by decide) (fun c10 => ?_) (fun c10 => ?_)
  · replace h := (if_pos c10).symm.trans h
    refine g_iconst (pc := 81) (v := 1) K dX6_store_81 (by decide) ?_
    refine g_sub K [] rfl ?_
    exact w_X6_store_82 K hT  _ _ _ _ h (by omega) (by omega)
  · replace h := (if_neg c10).symm.trans h
    refine g_iconst (pc := 77) (v := 2) K dX6_store_77 (by decide) ?_
    refine g_goto (pc := 78) (tgt := 82) K dX6_store_78 (by decide) ?_
    refine g_sub K [] rfl ?_
    exact w_X6_store_82 K hT  _ _ _ _ h (by omega) (by omega)
def b_X6_store_41 (v0 : Nat) (v1 : Int32) (v2 : Int32) (v3 : Nat) (v4 : Int32) (v5 : Int32) (σ : sw_S) : Option (Int32 × sw_S) :=
  (if v5 = 0 then
  (sw_ob 1 v3 σ).bind fun f2 =>
  (f_X1_openSlot v3 v4 σ).bind fun σ5 =>
  (sw_gR 1 v3 1 σ5).bind fun r6 =>
  r6.bind fun a8 =>
  (sw_as 0 a8 v4 v1 σ5).bind fun σ10 =>
  b_X6_store_60 v0 v2 v3 v4 v5 σ10
  else
  b_X6_store_60 v0 v2 v3 v4 v5 σ)
set_option maxHeartbeats 4000000 in
set_option maxRecDepth 100000 in
theorem w_X6_store_41 {p : Program} {l : Launch} {e : Env} {s : State} {m : MethodId} {args : Array Value} {below : List Frame} {meth : Method} {c : Code} {Q : State → Prop} {A : Nat → Prop} {D : va_G} {cT : Nat → ClassId} {r : Int32}  {σ' : sw_S}  (K : sw_C p s m args c cX6_store 6 RX6 A D cT) (hT : sw_Ti cX6_store p l e (sw_R 5 36 234 112) s m args below meth c Q 6 A D cT 36 234 σ' r) (v0 : Nat) (v1 : Int32) (v2 : Int32) (v3 : Nat) (v4 : Int32) (v5 : Int32) (σ : sw_S)  (ce sl : Nat) (h : b_X6_store_41 v0 v1 v2 v3 v4 v5 σ = some (r, σ')) (hce : ce + (36) ≤ 36) (hsl : sl + (234) ≤ 234) : sw_G p l e (sw_R 5 36 234 112) s m args below meth c Q 6 A D cT σ ce sl 41 [(0, P_ (some v0)), (1, I_ v1), (2, I_ v2), (3, P_ (some v3)), (4, I_ v4), (5, I_ v5)] [] := by
  unfold b_X6_store_41 at h
  refine g_iload (pc := 41) K 5 rfl dX6_store_41 ?_
  refine g_if_ne (pc := 43) K 60 dX6_store_43 (by decide) (fun c1 => ?_) (fun c1 => ?_)
  · replace h := (if_pos c1).symm.trans h
    refine g_aload_n (pc := 46) K 3 rfl rfl dX6_store_46 ?_
    refine g_iload (pc := 47) K 4 rfl dX6_store_47 ?_
    replace h := Option.bind_eq_some_iff.mp h
    obtain ⟨f2, e3, h⟩ := h
    replace h := Option.bind_eq_some_iff.mp h
    obtain ⟨σ5, e4, h⟩ := h
    refine g_callV (pc := 49) (st := []) K [I_ v4] (c_X1_openSlot _ _ _ _ _ _ e4) e3 cl_1 rfl tb_227 tb_224 tb_3 tb_225 tb_226 hd_X1_openSlot ⟨Nat.le_of_ble_eq_true rfl, Nat.le_of_ble_eq_true rfl⟩ rfl (sw_rm (Nat.le_of_ble_eq_true rfl)) ⟨by show _ ≤ 36; omega, by show _ ≤ 234; omega⟩ dX6_store_49 ?_
    refine g_aload_n (pc := 52) K 3 rfl rfl dX6_store_52 ?_
    replace h := Option.bind_eq_some_iff.mp h
    obtain ⟨r6, e7, h⟩ := h
    refine g_getR (pc := 53) K cl_1 hin_X1 (k := 1) (by decide) tb_37 rfl e7 dX6_store_53 ?_
    refine g_iload (pc := 56) K 4 rfl dX6_store_56 ?_
    refine g_iload_n (pc := 58) K 1 rfl rfl dX6_store_58 ?_
    replace h := Option.bind_eq_some_iff.mp h
    obtain ⟨a8, rfl, h⟩ := h
    replace h := Option.bind_eq_some_iff.mp h
    obtain ⟨σ10, e9, h⟩ := h
    refine g_iast (pc := 59) K e9 dX6_store_59 ?_
    refine g_sub K [0, 2, 3, 4, 5] rfl ?_
    exact w_X6_store_60 K hT  _ _ _ _ _ _ _ _ h (by omega) (by omega)
  · replace h := (if_neg c1).symm.trans h
    refine g_sub K [0, 2, 3, 4, 5] rfl ?_
    exact w_X6_store_60 K hT  _ _ _ _ _ _ _ _ h (by omega) (by omega)
def f_X6_store (p0 : Nat) (q1 : Int32) (q2 : Int32) (σ : sw_S) : Option (Int32 × sw_S) :=
  (sw_ob 6 p0 σ).bind fun f1 =>
  sw_b2 (f_X6_leafFor p0 q1 σ) fun r4 σ5 =>
  r4.bind fun a6 =>
  (sw_ob 1 a6 σ5).bind fun f7 =>
  (f_X1_slotOf a6 q1 σ5).bind fun x10 =>
  (sw_ob 1 a6 σ5).bind fun f11 =>
  (f_X1_hasAt a6 x10 q1 σ5).bind fun x14 =>
  (if x14 = 0 then
  (sw_gR 6 p0 4 σ5).bind fun r16 =>
  r16.bind fun a18 =>
  (sw_gI 1 a18 6 σ5).bind fun x19 =>
  (if x19 < 60 then
  b_X6_store_41 p0 q1 q2 a6 x10 x14 σ5
  else
  some (0, σ5))
  else
  b_X6_store_41 p0 q1 q2 a6 x10 x14 σ5)
set_option maxHeartbeats 4000000 in
set_option maxRecDepth 100000 in
theorem c_X6_store  (l : Launch) (D : va_G) (cT : Nat → ClassId) (p0 : Nat) (q1 : Int32) (q2 : Int32) (σ : sw_S) {r : Int32} {σ' : sw_S} (h : f_X6_store p0 q1 q2 σ = some (r, σ')) : sw_M l D cT yX6_store cX6_store 6 (some .int) 5 112 36 234 σ [P_ (some p0), I_ q1, I_ q2] (some (I_ r)) σ' := by
  refine sw_met_i (by decide) (Nat.le_of_ble_eq_true rfl) (fun p e s m args below meth c A Q K hnm hT => ?_)
  have hce : 0 + 36 ≤ 36 := Nat.le_of_ble_eq_true rfl
  have hsl : 0 + 234 ≤ 234 := Nat.le_of_ble_eq_true rfl
  unfold f_X6_store at h
  change sw_G p l e (sw_R 5 36 234 112) s m args below meth c Q 6 A D cT σ 0 0 0 [(0, P_ (some p0)), (1, I_ q1), (2, I_ q2)] []
  refine g_aload_n (pc := 0) K 0 rfl rfl dX6_store_0 ?_
  refine g_iload_n (pc := 1) K 1 rfl rfl dX6_store_1 ?_
  replace h := Option.bind_eq_some_iff.mp h
  obtain ⟨f1, e2, h⟩ := h
  replace h := sw_b2_eq h
  obtain ⟨r4, σ5, e3, h⟩ := h
  refine g_callV (pc := 2) (st := []) K [I_ q1] (c_X6_leafFor _ _ _ _ _ _ e3) e2 cl_6 rfl tb_211 tb_208 tb_2 tb_210 sl_0 hd_X6_leafFor ⟨Nat.le_of_ble_eq_true rfl, Nat.le_of_ble_eq_true rfl⟩ rfl (sw_rm (Nat.le_of_ble_eq_true rfl)) ⟨by show _ ≤ 36; omega, by show _ ≤ 234; omega⟩ dX6_store_2 ?_
  refine g_astore_n (pc := 5) K [(3, P_ r4), (0, P_ (some p0)), (1, I_ q1), (2, I_ q2)] rfl (by decide) rfl dX6_store_5 ?_
  refine g_aload_n (pc := 6) K 0 rfl rfl dX6_store_6 ?_
  refine g_iload_n (pc := 7) K 2 rfl rfl dX6_store_7 ?_
  replace h := Option.bind_eq_some_iff.mp h
  obtain ⟨a6, rfl, h⟩ := h
  replace h := Option.bind_eq_some_iff.mp h
  obtain ⟨f7, e8, h⟩ := h
  replace h := Option.bind_eq_some_iff.mp h
  obtain ⟨x10, e9, h⟩ := h
  refine g_callV (pc := 8) (st := []) K [I_ q1] (c_X1_slotOf _ _ _ _ _ _ e9) e8 cl_1 rfl tb_219 tb_216 tb_3 tb_217 tb_218 hd_X1_slotOf ⟨Nat.le_of_ble_eq_true rfl, Nat.le_of_ble_eq_true rfl⟩ rfl (sw_rm (Nat.le_of_ble_eq_true rfl)) ⟨by show _ ≤ 36; omega, by show _ ≤ 234; omega⟩ dX6_store_8 ?_
  refine g_istore (pc := 11) K [(4, I_ x10), (3, P_ (some a6)), (0, P_ (some p0)), (1, I_ q1), (2, I_ q2)] (by decide) rfl dX6_store_11 ?_
  refine g_aload_n (pc := 13) K 1 rfl rfl dX6_store_13 ?_
  refine g_iload (pc := 14) K 0 rfl dX6_store_14 ?_
  refine g_iload_n (pc := 16) K 3 rfl rfl dX6_store_16 ?_
  replace h := Option.bind_eq_some_iff.mp h
  obtain ⟨f11, e12, h⟩ := h
  replace h := Option.bind_eq_some_iff.mp h
  obtain ⟨x14, e13, h⟩ := h
  refine g_callV (pc := 17) (st := []) K [I_ x10, I_ q1] (c_X1_hasAt _ _ _ _ _ _ _ e13) e12 cl_1 rfl tb_223 tb_220 tb_3 tb_221 tb_222 hd_X1_hasAt ⟨Nat.le_of_ble_eq_true rfl, Nat.le_of_ble_eq_true rfl⟩ rfl (sw_rm (Nat.le_of_ble_eq_true rfl)) ⟨by show _ ≤ 36; omega, by show _ ≤ 234; omega⟩ dX6_store_17 ?_
  refine g_istore (pc := 20) K [(5, I_ x14), (4, I_ x10), (3, P_ (some a6)), (0, P_ (some p0)), (1, I_ q1), (2, I_ q2)] (by decide) rfl dX6_store_20 ?_
  refine g_iload (pc := 22) K 0 rfl dX6_store_22 ?_
  refine g_if_ne (pc := 24) K 41 dX6_store_24 (by decide) (fun c15 => ?_) (fun c15 => ?_)
  · replace h := (if_pos c15).symm.trans h
    refine g_aload_n (pc := 27) K 3 rfl rfl dX6_store_27 ?_
    replace h := Option.bind_eq_some_iff.mp h
    obtain ⟨r16, e17, h⟩ := h
    refine g_getR (pc := 28) K cl_6 hin_X6 (k := 4) (by decide) tb_86 rfl e17 dX6_store_28 ?_
    replace h := Option.bind_eq_some_iff.mp h
    obtain ⟨a18, rfl, h⟩ := h
    replace h := Option.bind_eq_some_iff.mp h
    obtain ⟨x19, e20, h⟩ := h
    refine g_getI (pc := 31) K cl_1 hin_X1 (k := 6) (by decide) tb_49 rfl e20 dX6_store_31 ?_
    refine g_bipush (pc := 34) (v := 60) K dX6_store_34 (by decide) ?_
    refine g_icmp_lt (pc := 36) K 41 dX6_store_36 (by decide) (fun c21 => ?_) (fun c21 => ?_)
    · replace h := (if_pos c21).symm.trans h
      refine g_sub K [3, 4, 5, 2, 1, 0] rfl ?_
      exact w_X6_store_41 K hT  _ _ _ _ _ _ _ _ _ h (by omega) (by omega)
    · replace h := (if_neg c21).symm.trans h
      refine g_iconst (pc := 39) (v := 0) K dX6_store_39 (by decide) ?_
      cases h
      exact hT _ _ 40 _ (by omega) (by omega) dX6_store_40
  · replace h := (if_neg c15).symm.trans h
    refine g_sub K [3, 4, 5, 2, 1, 0] rfl ?_
    exact w_X6_store_41 K hT  _ _ _ _ _ _ _ _ _ h (by omega) (by omega)

def f_X6_join (p0 : Nat) (q1 : Nat) (q2 : Int32) (σ : sw_S) : Option sw_S :=
  (sw_gR 1 q1 3 σ).bind fun r1 =>
  r1.bind fun a3 =>
  (sw_ql a3 q2 σ).bind fun r5 =>
  (sw_gR 1 q1 3 σ).bind fun r6 =>
  r6.bind fun a8 =>
  (sw_ql a8 ((q2 + 1)) σ).bind fun r10 =>
  r5.bind fun a11 =>
  r10.bind fun a12 =>
  (sw_ob 1 a12 σ).bind fun f13 =>
  (f_X1_moveTail a12 0 a11 σ).bind fun σ16 =>
  (sw_ob 1 a11 σ16).bind fun f17 =>
  (f_X1_renew a11 σ16).bind fun σ20 =>
  (sw_ob 1 q1 σ20).bind fun f21 =>
  (f_X1_closeSlot q1 ((q2 + 1)) σ20).bind fun σ24 =>
  some σ24
set_option maxHeartbeats 4000000 in
set_option maxRecDepth 100000 in
theorem c_X6_join  (l : Launch) (D : va_G) (cT : Nat → ClassId) (p0 : Nat) (q1 : Nat) (q2 : Int32) (σ : sw_S) {σ' : sw_S} (h : f_X6_join p0 q1 q2 σ = some σ') : sw_M l D cT yX6_join cX6_join 4 none 2 46 0 0 σ [P_ (some p0), P_ (some q1), I_ q2] none σ' := by
  refine sw_met_v (by decide) (Nat.le_of_ble_eq_true rfl) (fun p e s m args below meth c A Q K hnm hT => ?_)
  have hce : 0 + 0 ≤ 0 := Nat.le_of_ble_eq_true rfl
  have hsl : 0 + 0 ≤ 0 := Nat.le_of_ble_eq_true rfl
  unfold f_X6_join at h
  change sw_G p l e (sw_R 2 0 0 46) s m args below meth c Q 4 A D cT σ 0 0 0 [(0, P_ (some p0)), (1, P_ (some q1)), (2, I_ q2)] []
  refine g_aload_n (pc := 0) K 1 rfl rfl dX6_join_0 ?_
  replace h := Option.bind_eq_some_iff.mp h
  obtain ⟨r1, e2, h⟩ := h
  refine g_getR (pc := 1) K cl_1 hin_X1 (k := 3) (by decide) tb_43 rfl e2 dX6_join_1 ?_
  refine g_iload_n (pc := 4) K 2 rfl rfl dX6_join_4 ?_
  replace h := Option.bind_eq_some_iff.mp h
  obtain ⟨a3, rfl, h⟩ := h
  replace h := Option.bind_eq_some_iff.mp h
  obtain ⟨r5, e4, h⟩ := h
  refine g_qald (pc := 5) K e4 dX6_join_5 ?_
  refine g_astore_n (pc := 6) K [(3, P_ r5), (0, P_ (some p0)), (1, P_ (some q1)), (2, I_ q2)] rfl (by decide) rfl dX6_join_6 ?_
  refine g_aload_n (pc := 7) K 2 rfl rfl dX6_join_7 ?_
  replace h := Option.bind_eq_some_iff.mp h
  obtain ⟨r6, e7, h⟩ := h
  refine g_getR (pc := 8) K cl_1 hin_X1 (k := 3) (by decide) tb_43 rfl e7 dX6_join_8 ?_
  refine g_iload_n (pc := 11) K 3 rfl rfl dX6_join_11 ?_
  refine g_iconst (pc := 12) (v := 1) K dX6_join_12 (by decide) ?_
  refine g_iadd (pc := 13) K dX6_join_13 ?_
  replace h := Option.bind_eq_some_iff.mp h
  obtain ⟨a8, rfl, h⟩ := h
  replace h := Option.bind_eq_some_iff.mp h
  obtain ⟨r10, e9, h⟩ := h
  refine g_qald (pc := 14) K e9 dX6_join_14 ?_
  refine g_iconst (pc := 15) (v := 0) K dX6_join_15 (by decide) ?_
  refine g_aload_n (pc := 16) K 0 rfl rfl dX6_join_16 ?_
  replace h := Option.bind_eq_some_iff.mp h
  obtain ⟨a11, rfl, h⟩ := h
  replace h := Option.bind_eq_some_iff.mp h
  obtain ⟨a12, rfl, h⟩ := h
  replace h := Option.bind_eq_some_iff.mp h
  obtain ⟨f13, e14, h⟩ := h
  replace h := Option.bind_eq_some_iff.mp h
  obtain ⟨σ16, e15, h⟩ := h
  refine g_callV (pc := 17) (st := []) K [I_ 0, P_ (some a11)] (c_X1_moveTail _ _ _ _ _ _ _ e15) e14 cl_1 rfl tb_243 tb_240 tb_3 tb_241 tb_242 hd_X1_moveTail ⟨Nat.le_of_ble_eq_true rfl, Nat.le_of_ble_eq_true rfl⟩ rfl (sw_rm (Nat.le_of_ble_eq_true rfl)) ⟨by show _ ≤ 0; omega, by show _ ≤ 0; omega⟩ dX6_join_17 ?_
  refine g_aload_n (pc := 20) K 0 rfl rfl dX6_join_20 ?_
  replace h := Option.bind_eq_some_iff.mp h
  obtain ⟨f17, e18, h⟩ := h
  replace h := Option.bind_eq_some_iff.mp h
  obtain ⟨σ20, e19, h⟩ := h
  refine g_callV (pc := 21) (st := []) K [] (c_X1_renew _ _ _ _ _ e19) e18 cl_1 rfl tb_77 tb_74 tb_3 tb_75 tb_76 hd_X1_renew ⟨Nat.le_of_ble_eq_true rfl, Nat.le_of_ble_eq_true rfl⟩ rfl (sw_rm (Nat.le_of_ble_eq_true rfl)) ⟨by show _ ≤ 0; omega, by show _ ≤ 0; omega⟩ dX6_join_21 ?_
  refine g_aload_n (pc := 24) K 2 rfl rfl dX6_join_24 ?_
  refine g_iload_n (pc := 25) K 3 rfl rfl dX6_join_25 ?_
  refine g_iconst (pc := 26) (v := 1) K dX6_join_26 (by decide) ?_
  refine g_iadd (pc := 27) K dX6_join_27 ?_
  replace h := Option.bind_eq_some_iff.mp h
  obtain ⟨f21, e22, h⟩ := h
  replace h := Option.bind_eq_some_iff.mp h
  obtain ⟨σ24, e23, h⟩ := h
  refine g_callV (pc := 28) (st := []) K [I_ ((q2 + 1))] (c_X1_closeSlot _ _ _ _ _ _ e23) e22 cl_1 rfl tb_259 tb_256 tb_3 tb_257 tb_258 hd_X1_closeSlot ⟨Nat.le_of_ble_eq_true rfl, Nat.le_of_ble_eq_true rfl⟩ rfl (sw_rm (Nat.le_of_ble_eq_true rfl)) ⟨by show _ ≤ 0; omega, by show _ ≤ 0; omega⟩ dX6_join_28 ?_
  cases h
  exact hT _ _ 31 _ (by omega) (by omega) dX6_join_31
