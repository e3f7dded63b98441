def f_X7_mix (q1 : Int32) (q2 : Int32) (σ : sw_S) : Option Int32 :=
  some ((((((q1 ^^^ q2)) * 16777619)) ^^^ ((((((q1 ^^^ q2)) * 16777619)).toUInt32 >>> ((15 : Int32).toUInt32 &&& Int32.toUInt32 31)).toInt32)))
set_option maxHeartbeats 4000000 in
set_option maxRecDepth 100000 in
theorem c_X7_mix  (l : Launch) (D : va_G) (cT : Nat → ClassId) (q1 : Int32) (q2 : Int32) (σ : sw_S) {r : Int32} (h : f_X7_mix q1 q2 σ = some r) : sw_M l D cT yX7_mix cX7_mix 3 (some .int) 0 0 0 0 σ [I_ q1, I_ q2] (some (I_ r)) σ := by
  refine sw_met_i (by decide) (Nat.le_of_ble_eq_true rfl) (fun p e s m args below meth c A Q K hnm hT => ?_)
  have hce : 0 + 0 ≤ 0 := Nat.le_of_ble_eq_true rfl
  have hsl : 0 + 0 ≤ 0 := Nat.le_of_ble_eq_true rfl
  unfold f_X7_mix at h
  change sw_G p l e (sw_R 0 0 0 0) s m args below meth c Q 3 A D cT σ 0 0 0 [(0, I_ q1), (1, I_ q2)] []
  refine g_iload_n (pc := 0) K 0 rfl rfl dX7_mix_0 ?_
  refine g_iload_n (pc := 1) K 1 rfl rfl dX7_mix_1 ?_
  refine g_ixor (pc := 2) K dX7_mix_2 ?_
  refine g_ldc (pc := 3) (v := 16777619) K tb_81 dX7_mix_3 ?_
  refine g_imul (pc := 5) K dX7_mix_5 ?_
  refine g_istore_n (pc := 6) K [(2, I_ ((((q1 ^^^ q2)) * 16777619))), (0, I_ q1), (1, I_ q2)] rfl (by decide) rfl dX7_mix_6 ?_
  refine g_iload_n (pc := 7) K 0 rfl rfl dX7_mix_7 ?_
  refine g_iload_n (pc := 8) K 0 rfl rfl dX7_mix_8 ?_
  refine g_bipush (pc := 9) (v := 15) K dX7_mix_9 (by decide) ?_
  refine g_iushr (pc := 11) K dX7_mix_11 ?_
  refine g_ixor (pc := 12) K dX7_mix_12 ?_
  cases h
  exact hT _ _ 13 _ (by omega) (by omega) dX7_mix_13

def b_X0_readEntries_90 (v0 : Nat) (v1 : Int32) (v3 : Int32) (t0 : Int32) (t1 : Nat) (σ : sw_S) : Option (Int32 × sw_S) :=
  (sw_pt 0 t1 10 (.int t0) σ).bind fun σ1 =>
  (sw_pt 0 v0 12 (.int v1) σ1).bind fun σ3 =>
  (sw_pt 0 v0 11 (.int v3) σ3).bind fun σ5 =>
  some (1, σ5)
set_option maxHeartbeats 4000000 in
set_option maxRecDepth 100000 in
theorem w_X0_readEntries_90 {p : Program} {l : Launch} {e : Env} {s : State} {m : MethodId} {args : Array Value} {below : List Frame} {meth : Method} {c : Code} {Q : State → Prop} {A : Nat → Prop} {D : va_G} {cT : Nat → ClassId} {r : Int32}  {σ' : sw_S}  (K : sw_C p s m args c cX0_readEntries 7 RX0 A D cT) (hT : sw_Tz cX0_readEntries p l e (sw_R 2 0 0 42) s m args below meth c Q 7 A D cT 0 0 σ' r) (v0 : Nat) (v1 : Int32) (v3 : Int32) (t0 : Int32) (t1 : Nat) (σ : sw_S)  (ce sl : Nat) (h : b_X0_readEntries_90 v0 v1 v3 t0 t1 σ = some (r, σ')) (hce : ce + (0) ≤ 0) (hsl : sl + (0) ≤ 0) : sw_G p l e (sw_R 2 0 0 42) s m args below meth c Q 7 A D cT σ ce sl 90 [(0, P_ (some v0)), (1, I_ v1), (3, I_ v3)] [I_ t0, P_ (some t1)] := by
  unfold b_X0_readEntries_90 at h
  replace h := Option.bind_eq_some_iff.mp h
  obtain ⟨σ1, e2, h⟩ := h
  refine g_put (pc := 90) K cl_0 hin_X0 (k := 10) (by decide) tb_136 rfl tyX0 tyX0_ok nmX0 (Or.inl rfl) rfl rfl e2 dX0_readEntries_90 ?_
  refine g_aload_n (pc := 93) K 0 rfl rfl dX0_readEntries_93 ?_
  refine g_iload_n (pc := 94) K 1 rfl rfl dX0_readEntries_94 ?_
  replace h := Option.bind_eq_some_iff.mp h
  obtain ⟨σ3, e4, h⟩ := h
  refine g_put (pc := 95) K cl_0 hin_X0 (k := 12) (by decide) tb_138 rfl tyX0 tyX0_ok nmX0 (Or.inl rfl) rfl rfl e4 dX0_readEntries_95 ?_
  refine g_aload_n (pc := 98) K 0 rfl rfl dX0_readEntries_98 ?_
  refine g_iload_n (pc := 99) K 2 rfl rfl dX0_readEntries_99 ?_
  replace h := Option.bind_eq_some_iff.mp h
  obtain ⟨σ5, e6, h⟩ := h
  refine g_put (pc := 100) K cl_0 hin_X0 (k := 11) (by decide) tb_137 rfl tyX0 tyX0_ok nmX0 (Or.inl rfl) rfl rfl e6 dX0_readEntries_100 ?_
  refine g_iconst (pc := 103) (v := 1) K dX0_readEntries_103 (by decide) ?_
  cases h
  exact hT _ _ 104 _ (by omega) (by omega) rfl dX0_readEntries_104
def B_X0_readEntries_30 (rec30 : Nat → Int32 → Int32 → Int32 → Int32 → sw_S → Option (Int32 × sw_S)) (v0 : Nat) (v1 : Int32) (v2 : Int32) (v3 : Int32) (v4 : Int32) (σ : sw_S) : Option (Int32 × sw_S) :=
  (if v1 ≤ v4 then
  (if v1 ≤ 0 then
  b_X0_readEntries_90 v0 v1 v3 0 v0 σ
  else
  (sw_gR 0 v0 2 σ).bind fun r3 =>
  r3.bind fun a5 =>
  (sw_al 0 a5 v2 σ).bind fun x7 =>
  b_X0_readEntries_90 v0 v1 v3 x7 v0 σ)
  else
  (sw_ob 0 v0 σ).bind fun f8 =>
  sw_b2 (f_X0_next v0 σ) fun x11 σ12 =>
  (sw_ob 0 v0 σ12).bind fun f13 =>
  sw_b2 (f_X0_next v0 σ12) fun x16 σ17 =>
  (sw_ob 0 v0 σ17).bind fun f18 =>
  (f_X0_note v0 x11 x16 0 σ17).bind fun σ21 =>
  (f_X7_mix v3 x11 σ21).bind fun x23 =>
  (f_X7_mix x23 x16 σ21).bind fun x25 =>
  rec30 v0 v1 v2 x25 ((v4 + 1)) σ21)
set_option maxHeartbeats 4000000 in
set_option maxRecDepth 100000 in
theorem wB_X0_readEntries_30 {p : Program} {l : Launch} {e : Env} {s : State} {m : MethodId} {args : Array Value} {below : List Frame} {meth : Method} {c : Code} {Q : State → Prop} {A : Nat → Prop} {D : va_G} {cT : Nat → ClassId} {r : Int32}  {σ' : sw_S}  (K : sw_C p s m args c cX0_readEntries 7 RX0 A D cT) (hT : sw_Tz cX0_readEntries p l e (sw_R 2 0 0 42) s m args below meth c Q 7 A D cT 0 0 σ' r) {rec30 : Nat → Int32 → Int32 → Int32 → Int32 → sw_S → Option (Int32 × sw_S)} (hrec30 : ∀ (v0 : Nat) (v1 : Int32) (v2 : Int32) (v3 : Int32) (v4 : Int32) (σ : sw_S) (ce sl : Nat), rec30 v0 v1 v2 v3 v4 σ = some (r, σ') → ce + (0) ≤ 0 → sl + (0) ≤ 0 → sw_G p l e (sw_R 2 0 0 42) s m args below meth c Q 7 A D cT σ ce sl 30 [(0, P_ (some v0)), (1, I_ v1), (2, I_ v2), (3, I_ v3), (4, I_ v4)] []) (v0 : Nat) (v1 : Int32) (v2 : Int32) (v3 : Int32) (v4 : Int32) (σ : sw_S)  (ce sl : Nat) (h : B_X0_readEntries_30 rec30 v0 v1 v2 v3 v4 σ = some (r, σ')) (hce : ce + (0) ≤ 0) (hsl : sl + (0) ≤ 0) : sw_G p l e (sw_R 2 0 0 42) s m args below meth c Q 7 A D cT σ ce sl 30 [(0, P_ (some v0)), (1, I_ v1), (2, I_ v2), (3, I_ v3), (4, I_ v4)] [] := by
  unfold B_X0_readEntries_30 at h
  refine g_iload (pc := 30) K 4 rfl dX0_readEntries_30 ?_
  refine g_iload_n (pc := 32) K 1 rfl rfl dX0_readEntries_32 ?_
  refine g_icmp_ge (pc := 33) K 75 dX0_readEntries_33 (by decide) (fun c1 => ?_) (fun c1 => ?_)
  · replace h := (if_pos c1).symm.trans h
    refine g_aload_n (pc := 75) K 0 rfl rfl dX0_readEntries_75 ?_
    refine g_iload_n (pc := 76) K 1 rfl rfl dX0_readEntries_76 ?_
    refine g_if_le (pc := 77) K 89 dX0_readEntries_77 (by decide) (fun c2 => ?_) (fun c2 => ?_)
    · replace h := (if_pos c2).symm.trans h
      refine g_iconst (pc := 89) (v := 0) K dX0_readEntries_89 (by decide) ?_
      refine g_sub K [0, 1, 3] rfl ?_
      exact w_X0_readEntries_90 K hT  _ _ _ _ _ _ _ _ h (by omega) (by omega)
    · replace h := (if_neg c2).symm.trans h
      refine g_aload_n (pc := 80) K 0 rfl rfl dX0_readEntries_80 ?_
      replace h := Option.bind_eq_some_iff.mp h
      obtain ⟨r3, e4, h⟩ := h
      refine g_getR (pc := 81) K cl_0 hin_X0 (k := 2) (by decide) tb_128 rfl e4 dX0_readEntries_81 ?_
      refine g_iload_n (pc := 84) K 2 rfl rfl dX0_readEntries_84 ?_
      replace h := Option.bind_eq_some_iff.mp h
      obtain ⟨a5, rfl, h⟩ := h
      replace h := Option.bind_eq_some_iff.mp h
      obtain ⟨x7, e6, h⟩ := h
      refine g_iald (pc := 85) K e6 dX0_readEntries_85 ?_
      refine g_goto (pc := 86) (tgt := 90) K dX0_readEntries_86 (by decide) ?_
      refine g_sub K [0, 1, 3] rfl ?_
      exact w_X0_readEntries_90 K hT  _ _ _ _ _ _ _ _ h (by omega) (by omega)
  · replace h := (if_neg c1).symm.trans h
    refine g_aload_n (pc := 36) K 0 rfl rfl dX0_readEntries_36 ?_
    replace h := Option.bind_eq_some_iff.mp h
    obtain ⟨f8, e9, h⟩ := h
    replace h := sw_b2_eq h
    obtain ⟨x11, σ12, e10, h⟩ := h
    refine g_callV (pc := 37) (st := []) K [] (c_X0_next _ _ _ _ _ e10) e9 cl_0 rfl tb_413 tb_410 tb_5 tb_412 sl_13 hd_X0_next ⟨Nat.le_of_ble_eq_true rfl, Nat.le_of_ble_eq_true rfl⟩ rfl (sw_rm (Nat.le_of_ble_eq_true rfl)) ⟨by show _ ≤ 0; omega, by show _ ≤ 0; omega⟩ dX0_readEntries_37 ?_
    refine g_istore (pc := 40) K [(5, I_ x11), (0, P_ (some v0)), (1, I_ v1), (2, I_ v2), (3, I_ v3), (4, I_ v4)] (by decide) rfl dX0_readEntries_40 ?_
    refine g_aload_n (pc := 42) K 1 rfl rfl dX0_readEntries_42 ?_
    replace h := Option.bind_eq_some_iff.mp h
    obtain ⟨f13, e14, h⟩ := h
    replace h := sw_b2_eq h
    obtain ⟨x16, σ17, e15, h⟩ := h
    refine g_callV (pc := 43) (st := []) K [] (c_X0_next _ _ _ _ _ e15) e14 cl_0 rfl tb_413 tb_410 tb_5 tb_412 sl_13 hd_X0_next ⟨Nat.le_of_ble_eq_true rfl, Nat.le_of_ble_eq_true rfl⟩ rfl (sw_rm (Nat.le_of_ble_eq_true rfl)) ⟨by show _ ≤ 0; omega, by show _ ≤ 0; omega⟩ dX0_readEntries_43 ?_
    refine g_istore (pc := 46) K [(6, I_ x16), (5, I_ x11), (0, P_ (some v0)), (1, I_ v1), (2, I_ v2), (3, I_ v3), (4, I_ v4)] (by decide) rfl dX0_readEntries_46 ?_
    refine g_aload_n (pc := 48) K 2 rfl rfl dX0_readEntries_48 ?_
    refine g_iload (pc := 49) K 1 rfl dX0_readEntries_49 ?_
    refine g_iload (pc := 51) K 0 rfl dX0_readEntries_51 ?_
    refine g_iconst (pc := 53) (v := 0) K dX0_readEntries_53 (by decide) ?_
    replace h := Option.bind_eq_some_iff.mp h
    obtain ⟨f18, e19, h⟩ := h
    replace h := Option.bind_eq_some_iff.mp h
    obtain ⟨σ21, e20, h⟩ := h
    refine g_callV (pc := 54) (st := []) K [I_ x11, I_ x16, I_ 0] (c_X0_note _ _ _ _ _ _ _ _ e20) e19 cl_0 rfl tb_423 tb_420 tb_5 tb_422 sl_15 hd_X0_note ⟨Nat.le_of_ble_eq_true rfl, Nat.le_of_ble_eq_true rfl⟩ rfl (sw_rm (Nat.le_of_ble_eq_true rfl)) ⟨by show _ ≤ 0; omega, by show _ ≤ 0; omega⟩ dX0_readEntries_54 ?_
    refine g_iload_n (pc := 57) K 5 rfl rfl dX0_readEntries_57 ?_
    refine g_iload (pc := 58) K 1 rfl dX0_readEntries_58 ?_
    replace h := Option.bind_eq_some_iff.mp h
    obtain ⟨x23, e22, h⟩ := h
    refine g_callN (pc := 60) (st := []) (host := RX7) K [I_ v3, I_ x11] (c_X7_mix _ _ _ _ _ _ e22) tb_80 K.2.1.2.2.1 tb_1 tb_79 hd_X7_mix ⟨Nat.le_of_ble_eq_true rfl, Nat.le_of_ble_eq_true rfl⟩ rfl (sw_rm (Nat.le_of_ble_eq_true rfl)) ⟨by show _ ≤ 0; omega, by show _ ≤ 0; omega⟩ dX0_readEntries_60 ?_
    refine g_iload (pc := 63) K 0 rfl dX0_readEntries_63 ?_
    replace h := Option.bind_eq_some_iff.mp h
    obtain ⟨x25, e24, h⟩ := h
    refine g_callN (pc := 65) (st := []) (host := RX7) K [I_ x23, I_ x16] (c_X7_mix _ _ _ _ _ _ e24) tb_80 K.2.1.2.2.1 tb_1 tb_79 hd_X7_mix ⟨Nat.le_of_ble_eq_true rfl, Nat.le_of_ble_eq_true rfl⟩ rfl (sw_rm (Nat.le_of_ble_eq_true rfl)) ⟨by show _ ≤ 0; omega, by show _ ≤ 0; omega⟩ dX0_readEntries_65 ?_
    refine g_istore_n (pc := 68) K [(3, I_ x25), (6, I_ x16), (5, I_ x11), (0, P_ (some v0)), (1, I_ v1), (2, I_ v2), (4, I_ v4)] rfl (by decide) rfl dX0_readEntries_68 ?_
    refine g_iinc (pc := 69) K 6 (v4 + 1) [(4, I_ ((v4 + 1))), (3, I_ x25), (6, I_ x16), (5, I_ x11), (0, P_ (some v0)), (1, I_ v1), (2, I_ v2)] rfl rfl (by decide) rfl dX0_readEntries_69 ?_
    refine g_goto (pc := 72) (tgt := 30) K dX0_readEntries_72 (by decide) ?_
    refine g_sub K [4, 5, 6, 1, 0] rfl ?_
    exact hrec30 _ _ _ _ _ _ _ _ h (by omega) (by omega)
def b_X0_readEntries_30  : Nat → Nat → Int32 → Int32 → Int32 → Int32 → sw_S → Option (Int32 × sw_S)
  | 0 => fun _ _ _ _ _ _ => none
  | n + 1 => B_X0_readEntries_30 (b_X0_readEntries_30  n)
theorem wl_X0_readEntries_30 {p : Program} {l : Launch} {e : Env} {s : State} {m : MethodId} {args : Array Value} {below : List Frame} {meth : Method} {c : Code} {Q : State → Prop} {A : Nat → Prop} {D : va_G} {cT : Nat → ClassId} {r : Int32}  {σ' : sw_S}  (K : sw_C p s m args c cX0_readEntries 7 RX0 A D cT) (hT : sw_Tz cX0_readEntries p l e (sw_R 2 0 0 42) s m args below meth c Q 7 A D cT 0 0 σ' r) : ∀ (n : Nat) (v0 : Nat) (v1 : Int32) (v2 : Int32) (v3 : Int32) (v4 : Int32) (σ : sw_S) (ce sl : Nat), b_X0_readEntries_30  n v0 v1 v2 v3 v4 σ = some (r, σ') → ce + (0) ≤ 0 → sl + (0) ≤ 0 → sw_G p l e (sw_R 2 0 0 42) s m args below meth c Q 7 A D cT σ ce sl 30 [(0, P_ (some v0)), (1, I_ v1), (2, I_ v2), (3, I_ v3), (4, I_ v4)] [] := by
  intro n
  induction n with
  | zero =>
    intro v0 v1 v2 v3 v4 σ ce sl h
    exact absurd (show none = some (r, σ') from h) (by simp)
  | succ n ih =>
    intro v0 v1 v2 v3 v4 σ ce sl h hce hsl
    exact wB_X0_readEntries_30 K hT (fun _ _ _ _ _ _ _ _ h h1 h2 => ih _ _ _ _ _ _ _ _ h h1 h2) _ _ _ _ _ _ _ _ h hce hsl
def f_X0_readEntries (p0 : Nat) (q1 : Int32) (σ : sw_S) : Option (Int32 × sw_S) :=
  (sw_ob 0 p0 σ).bind fun f1 =>
  (f_X0_hasMore p0 ((2 * q1)) σ).bind fun x4 =>
  (if x4 = 0 then
  some (0, σ)
  else
  (sw_gI 0 p0 8 σ).bind fun x6 =>
  (f_X7_mix 1 1 σ).bind fun x9 =>
  (f_X7_mix x9 q1 σ).bind fun x11 =>
  b_X0_readEntries_30 1000 p0 q1 x6 x11 0 σ)
set_option maxHeartbeats 4000000 in
set_option maxRecDepth 100000 in
theorem c_X0_readEntries  (l : Launch) (D : va_G) (cT : Nat → ClassId) (p0 : Nat) (q1 : Int32) (σ : sw_S) {r : Int32} {σ' : sw_S} (h : f_X0_readEntries p0 q1 σ = some (r, σ')) : sw_M l D cT yX0_readEntries cX0_readEntries 7 (some .boolean) 2 42 0 0 σ [P_ (some p0), I_ q1] (some (I_ r)) σ' := by
  refine sw_met_z (by decide) (Nat.le_of_ble_eq_true rfl) (fun p e s m args below meth c A Q K hnm hT => ?_)
  have hce : 0 + 0 ≤ 0 := Nat.le_of_ble_eq_true rfl
  have hsl : 0 + 0 ≤ 0 := Nat.le_of_ble_eq_true rfl
  unfold f_X0_readEntries at h
  change sw_G p l e (sw_R 2 0 0 42) s m args below meth c Q 7 A D cT σ 0 0 0 [(0, P_ (some p0)), (1, I_ q1)] []
  refine g_aload_n (pc := 0) K 0 rfl rfl dX0_readEntries_0 ?_
  refine g_iconst (pc := 1) (v := 2) K dX0_readEntries_1 (by decide) ?_
  refine g_iload_n (pc := 2) K 1 rfl rfl dX0_readEntries_2 ?_
  refine g_imul (pc := 3) K dX0_readEntries_3 ?_
  replace h := Option.bind_eq_some_iff.mp h
  obtain ⟨f1, e2, h⟩ := h
  replace h := Option.bind_eq_some_iff.mp h
  obtain ⟨x4, e3, h⟩ := h
  refine g_callV (pc := 4) (st := []) K [I_ ((2 * q1))] (c_X0_hasMore _ _ _ _ _ _ e3) e2 cl_0 rfl tb_409 tb_406 tb_5 tb_408 sl_12 hd_X0_hasMore ⟨Nat.le_of_ble_eq_true rfl, Nat.le_of_ble_eq_true rfl⟩ rfl (sw_rm (Nat.le_of_ble_eq_true rfl)) ⟨by show _ ≤ 0; omega, by show _ ≤ 0; omega⟩ dX0_readEntries_4 ?_
  refine g_if_ne (pc := 7) K 12 dX0_readEntries_7 (by decide) (fun c5 => ?_) (fun c5 => ?_)
  · replace h := (if_pos c5).symm.trans h
    refine g_iconst (pc := 10) (v := 0) K dX0_readEntries_10 (by decide) ?_
    cases h
    exact hT _ _ 11 _ (by omega) (by omega) rfl dX0_readEntries_11
  · replace h := (if_neg c5).symm.trans h
    refine g_aload_n (pc := 12) K 0 rfl rfl dX0_readEntries_12 ?_
    replace h := Option.bind_eq_some_iff.mp h
    obtain ⟨x6, e7, h⟩ := h
    refine g_getI (pc := 13) K cl_0 hin_X0 (k := 8) (by decide) tb_134 rfl e7 dX0_readEntries_13 ?_
    refine g_istore_n (pc := 16) K [(2, I_ x6), (0, P_ (some p0)), (1, I_ q1)] rfl (by decide) rfl dX0_readEntries_16 ?_
    refine g_iconst (pc := 17) (v := 1) K dX0_readEntries_17 (by decide) ?_
    refine g_iconst (pc := 18) (v := 1) K dX0_readEntries_18 (by decide) ?_
    replace h := Option.bind_eq_some_iff.mp h
    obtain ⟨x9, e8, h⟩ := h
    refine g_callN (pc := 19) (st := []) (host := RX7) K [I_ 1, I_ 1] (c_X7_mix _ _ _ _ _ _ e8) tb_80 K.2.1.2.2.1 tb_1 tb_79 hd_X7_mix ⟨Nat.le_of_ble_eq_true rfl, Nat.le_of_ble_eq_true rfl⟩ rfl (sw_rm (Nat.le_of_ble_eq_true rfl)) ⟨by show _ ≤ 0; omega, by show _ ≤ 0; omega⟩ dX0_readEntries_19 ?_
    refine g_iload_n (pc := 22) K 2 rfl rfl dX0_readEntries_22 ?_
    replace h := Option.bind_eq_some_iff.mp h
    obtain ⟨x11, e10, h⟩ := h
    refine g_callN (pc := 23) (st := []) (host := RX7) K [I_ x9, I_ q1] (c_X7_mix _ _ _ _ _ _ e10) tb_80 K.2.1.2.2.1 tb_1 tb_79 hd_X7_mix ⟨Nat.le_of_ble_eq_true rfl, Nat.le_of_ble_eq_true rfl⟩ rfl (sw_rm (Nat.le_of_ble_eq_true rfl)) ⟨by show _ ≤ 0; omega, by show _ ≤ 0; omega⟩ dX0_readEntries_23 ?_
    refine g_istore_n (pc := 26) K [(3, I_ x11), (2, I_ x6), (0, P_ (some p0)), (1, I_ q1)] rfl (by decide) rfl dX0_readEntries_26 ?_
    refine g_iconst (pc := 27) (v := 0) K dX0_readEntries_27 (by decide) ?_
    refine g_istore (pc := 28) K [(4, I_ 0), (3, I_ x11), (2, I_ x6), (0, P_ (some p0)), (1, I_ q1)] (by decide) rfl dX0_readEntries_28 ?_
    refine g_sub K [3, 4, 2, 1, 0] rfl ?_
    exact wl_X0_readEntries_30 K hT  1000 _ _ _ _ _ _ _ _ h (by omega) (by omega)

def b_X0_readChild_29 (recm : Nat → Int32 → sw_S → Option (Int32 × sw_S)) (v0 : Nat) (v1 : Int32) (σ : sw_S) : Option (Int32 × sw_S) :=
  (sw_gI 0 v0 8 σ).bind fun x1 =>
  (sw_ob 0 v0 σ).bind fun f3 =>
  sw_b2 (recm v0 v1 σ) fun x6 σ7 =>
  (if x6 = 0 then
  some (0, σ7)
  else
  (sw_ob 0 v0 σ7).bind fun f9 =>
  (f_X0_noteChild v0 x1 σ7).bind fun σ12 =>
  some (1, σ12))
set_option maxHeartbeats 4000000 in
set_option maxRecDepth 100000 in
theorem w_X0_readChild_29 {p : Program} {l : Launch} {e : Env} {s : State} {m : MethodId} {args : Array Value} {below : List Frame} {meth : Method} {c : Code} {Q : State → Prop} {A : Nat → Prop} {D : va_G} {cT : Nat → ClassId} {r : Int32}  {σ' : sw_S}  {recm : Nat → Int32 → sw_S → Option (Int32 × sw_S)} {fr0 lo0 : Nat} (hm : ∀ (p0 : Nat) (q1 : Int32) (σ : sw_S) {r : Int32} {σ' : sw_S}, recm p0 q1 σ = some (r, σ') → sw_M l D cT yX0_readNode cX0_readNode 5 (some .boolean) fr0 lo0 0 0 σ [P_ (some p0), I_ q1] (some (I_ r)) σ')  (K : sw_C p s m args c cX0_readChild 3 RX0 A D cT) (hT : sw_Tz cX0_readChild p l e (sw_R (fr0 + 3) 0 0 (lo0 + 63)) s m args below meth c Q 3 A D cT 0 0 σ' r) (v0 : Nat) (v1 : Int32) (σ : sw_S)  (ce sl : Nat) (h : b_X0_readChild_29 recm v0 v1 σ = some (r, σ')) (hce : ce + (0) ≤ 0) (hsl : sl + (0) ≤ 0) : sw_G p l e (sw_R (fr0 + 3) 0 0 (lo0 + 63)) s m args below meth c Q 3 A D cT σ ce sl 29 [(0, P_ (some v0)), (1, I_ v1)] [] := by
  unfold b_X0_readChild_29 at h
  refine g_aload_n (pc := 29) K 0 rfl rfl dX0_readChild_29 ?_
  replace h := Option.bind_eq_some_iff.mp h
  obtain ⟨x1, e2, h⟩ := h
  refine g_getI (pc := 30) K cl_0 hin_X0 (k := 8) (by decide) tb_134 rfl e2 dX0_readChild_30 ?_
  refine g_istore_n (pc := 33) K [(2, I_ x1), (0, P_ (some v0)), (1, I_ v1)] rfl (by decide) rfl dX0_readChild_33 ?_
  refine g_aload_n (pc := 34) K 1 rfl rfl dX0_readChild_34 ?_
  refine g_iload_n (pc := 35) K 2 rfl rfl dX0_readChild_35 ?_
  replace h := Option.bind_eq_some_iff.mp h
  obtain ⟨f3, e4, h⟩ := h
  replace h := sw_b2_eq h
  obtain ⟨x6, σ7, e5, h⟩ := h
  refine g_callV (pc := 36) (st := []) K [I_ v1] (hm _ _ _ e5) e4 cl_0 rfl tb_405 tb_402 tb_5 tb_404 sl_11 hd_X0_readNode ⟨by show _ ≤ fr0 + 3; omega, by show _ ≤ lo0 + 63; omega⟩ rfl (sw_rm (Nat.le_of_ble_eq_true rfl)) ⟨by show _ ≤ 0; omega, by show _ ≤ 0; omega⟩ dX0_readChild_36 ?_
  refine g_if_ne (pc := 39) K 44 dX0_readChild_39 (by decide) (fun c8 => ?_) (fun c8 => ?_)
  · replace h := (if_pos c8).symm.trans h
    refine g_iconst (pc := 42) (v := 0) K dX0_readChild_42 (by decide) ?_
    cases h
    exact hT _ _ 43 _ (by omega) (by omega) rfl dX0_readChild_43
  · replace h := (if_neg c8).symm.trans h
    refine g_aload_n (pc := 44) K 1 rfl rfl dX0_readChild_44 ?_
    refine g_iload_n (pc := 45) K 0 rfl rfl dX0_readChild_45 ?_
    replace h := Option.bind_eq_some_iff.mp h
    obtain ⟨f9, e10, h⟩ := h
    replace h := Option.bind_eq_some_iff.mp h
    obtain ⟨σ12, e11, h⟩ := h
    refine g_callV (pc := 46) (st := []) K [I_ x1] (c_X0_noteChild _ _ _ _ _ _ e11) e10 cl_0 rfl tb_439 tb_436 tb_5 tb_438 sl_19 hd_X0_noteChild ⟨by show _ ≤ fr0 + 3; omega, by show _ ≤ lo0 + 63; omega⟩ rfl (sw_rm (Nat.le_of_ble_eq_true rfl)) ⟨by show _ ≤ 0; omega, by show _ ≤ 0; omega⟩ dX0_readChild_46 ?_
    refine g_iconst (pc := 49) (v := 1) K dX0_readChild_49 (by decide) ?_
    cases h
    exact hT _ _ 50 _ (by omega) (by omega) rfl dX0_readChild_50
def f_X0_readChild (recm : Nat → Int32 → sw_S → Option (Int32 × sw_S)) (p0 : Nat) (q1 : Int32) (σ : sw_S) : Option (Int32 × sw_S) :=
  (sw_ob 0 p0 σ).bind fun f1 =>
  (f_X0_hasMore p0 1 σ).bind fun x4 =>
  (if x4 = 0 then
  b_X0_readChild_29 recm p0 q1 σ
  else
  (sw_gR 0 p0 1 σ).bind fun r6 =>
  r6.bind fun a8 =>
  (sw_gR 2 a8 0 σ).bind fun r9 =>
  (sw_gI 0 p0 7 σ).bind fun x11 =>
  r9.bind fun a13 =>
  (sw_al 0 a13 x11 σ).bind fun x15 =>
  (if x15 = 0 then
  (sw_ob 0 p0 σ).bind fun f17 =>
  sw_b2 (f_X0_readLeftOut p0 q1 σ) fun x20 σ21 =>
  (sw_z x20).bind fun z22 =>
  some (z22, σ21)
  else
  b_X0_readChild_29 recm p0 q1 σ))
set_option maxHeartbeats 4000000 in
set_option maxRecDepth 100000 in
theorem c_X0_readChild {l : Launch} {D : va_G} {cT : Nat → ClassId} (recm : Nat → Int32 → sw_S → Option (Int32 × sw_S)) {fr0 lo0 : Nat} (hm : ∀ (p0 : Nat) (q1 : Int32) (σ : sw_S) {r : Int32} {σ' : sw_S}, recm p0 q1 σ = some (r, σ') → sw_M l D cT yX0_readNode cX0_readNode 5 (some .boolean) fr0 lo0 0 0 σ [P_ (some p0), I_ q1] (some (I_ r)) σ') (p0 : Nat) (q1 : Int32) (σ : sw_S) {r : Int32} {σ' : sw_S} (h : f_X0_readChild recm p0 q1 σ = some (r, σ')) : sw_M l D cT yX0_readChild cX0_readChild 3 (some .boolean) (fr0 + 3) (lo0 + 63) 0 0 σ [P_ (some p0), I_ q1] (some (I_ r)) σ' := by
  refine sw_met_z (by decide) (Nat.le_of_ble_eq_true rfl) (fun p e s m args below meth c A Q K hnm hT => ?_)
  have hce : 0 + 0 ≤ 0 := Nat.le_of_ble_eq_true rfl
  have hsl : 0 + 0 ≤ 0 := Nat.le_of_ble_eq_true rfl
  unfold f_X0_readChild at h
  change sw_G p l e (sw_R (fr0 + 3) 0 0 (lo0 + 63)) s m args below meth c Q 3 A D cT σ 0 0 0 [(0, P_ (some p0)), (1, I_ q1)] []
  refine g_aload_n (pc := 0) K 0 rfl rfl dX0_readChild_0 ?_
  refine g_iconst (pc := 1) (v := 1) K dX0_readChild_1 (by decide) ?_
  replace h := Option.bind_eq_some_iff.mp h
  obtain ⟨f1, e2, h⟩ := h
  replace h := Option.bind_eq_some_iff.mp h
  obtain ⟨x4, e3, h⟩ := h
  refine g_callV (pc := 2) (st := []) K [I_ 1] (c_X0_hasMore _ _ _ _ _ _ e3) e2 cl_0 rfl tb_409 tb_406 tb_5 tb_408 sl_12 hd_X0_hasMore ⟨by show _ ≤ fr0 + 3; omega, by show _ ≤ lo0 + 63; omega⟩ rfl (sw_rm (Nat.le_of_ble_eq_true rfl)) ⟨by show _ ≤ 0; omega, by show _ ≤ 0; omega⟩ dX0_readChild_2 ?_
  refine g_if_eq (pc := 5) K 29 dX0_readChild_5 (by decide) (fun c5 => ?_) (fun c5 => ?_)
  · replace h := (if_pos c5).symm.trans h
    refine g_sub K [0, 1] rfl ?_
    exact w_X0_readChild_29 hm K hT  _ _ _ _ _ h (by omega) (by omega)
  · replace h := (if_neg c5).symm.trans h
    refine g_aload_n (pc := 8) K 0 rfl rfl dX0_readChild_8 ?_
    replace h := Option.bind_eq_some_iff.mp h
    obtain ⟨r6, e7, h⟩ := h
    refine g_getR (pc := 9) K cl_0 hin_X0 (k := 1) (by decide) tb_127 rfl e7 dX0_readChild_9 ?_
    replace h := Option.bind_eq_some_iff.mp h
    obtain ⟨a8, rfl, h⟩ := h
    replace h := Option.bind_eq_some_iff.mp h
    obtain ⟨r9, e10, h⟩ := h
    refine g_getR (pc := 12) K cl_2 hin_X2 (k := 0) (by decide) tb_110 rfl e10 dX0_readChild_12 ?_
    refine g_aload_n (pc := 15) K 0 rfl rfl dX0_readChild_15 ?_
    replace h := Option.bind_eq_some_iff.mp h
    obtain ⟨x11, e12, h⟩ := h
    refine g_getI (pc := 16) K cl_0 hin_X0 (k := 7) (by decide) tb_133 rfl e12 dX0_readChild_16 ?_
    replace h := Option.bind_eq_some_iff.mp h
    obtain ⟨a13, rfl, h⟩ := h
    replace h := Option.bind_eq_some_iff.mp h
    obtain ⟨x15, e14, h⟩ := h
    refine g_iald (pc := 19) K e14 dX0_readChild_19 ?_
    refine g_if_ne (pc := 20) K 29 dX0_readChild_20 (by decide) (fun c16 => ?_) (fun c16 => ?_)
    · replace h := (if_pos c16).symm.trans h
      refine g_aload_n (pc := 23) K 0 rfl rfl dX0_readChild_23 ?_
      refine g_iload_n (pc := 24) K 1 rfl rfl dX0_readChild_24 ?_
      replace h := Option.bind_eq_some_iff.mp h
      obtain ⟨f17, e18, h⟩ := h
      replace h := sw_b2_eq h
      obtain ⟨x20, σ21, e19, h⟩ := h
      refine g_callV (pc := 25) (st := []) K [I_ q1] (c_X0_readLeftOut _ _ _ _ _ _ e19) e18 cl_0 rfl tb_435 tb_432 tb_5 tb_434 sl_18 hd_X0_readLeftOut ⟨by show _ ≤ fr0 + 3; omega, by show _ ≤ lo0 + 63; omega⟩ rfl (sw_rm (Nat.le_of_ble_eq_true rfl)) ⟨by show _ ≤ 0; omega, by show _ ≤ 0; omega⟩ dX0_readChild_25 ?_
      replace h := Option.bind_eq_some_iff.mp h
      obtain ⟨z22, e23, h⟩ := h
      obtain ⟨rfl, e24⟩ := sw_z_eq e23
      cases h
      exact hT _ _ 28 _ (by omega) (by omega) e24.1 dX0_readChild_28
    · replace h := (if_neg c16).symm.trans h
      refine g_sub K [0, 1] rfl ?_
      exact w_X0_readChild_29 hm K hT  _ _ _ _ _ h (by omega) (by omega)

def b_X0_readChildren_47 (recm : Nat → Int32 → sw_S → Option (Int32 × sw_S)) (rec19 : Nat → Int32 → Int32 → Int32 → Int32 → Int32 → Int32 → sw_S → Option (Int32 × sw_S)) (v0 : Nat) (v1 : Int32) (v2 : Int32) (v3 : Int32) (v4 : Int32) (v5 : Int32) (v6 : Int32) (σ : sw_S) : Option (Int32 × sw_S) :=
  (sw_gI 0 v0 12 σ).bind fun x1 =>
  (sw_gI 0 v0 10 σ).bind fun x3 =>
  (f_X7_mix v5 x3 σ).bind fun x6 =>
  (sw_gI 0 v0 11 σ).bind fun x7 =>
  (f_X7_mix x6 x7 σ).bind fun x10 =>
  (sw_gI 0 v0 12 σ).bind fun x11 =>
  (f_X7_mix x10 x11 σ).bind fun x14 =>
  rec19 v0 v1 v2 v3 ((v4 + x1)) x14 ((v6 + 1)) σ
set_option maxHeartbeats 4000000 in
set_option maxRecDepth 100000 in
theorem w_X0_readChildren_47 {p : Program} {l : Launch} {e : Env} {s : State} {m : MethodId} {args : Array Value} {below : List Frame} {meth : Method} {c : Code} {Q : State → Prop} {A : Nat → Prop} {D : va_G} {cT : Nat → ClassId} {r : Int32}  {σ' : sw_S}  {recm : Nat → Int32 → sw_S → Option (Int32 × sw_S)} {fr0 lo0 : Nat} (hm : ∀ (p0 : Nat) (q1 : Int32) (σ : sw_S) {r : Int32} {σ' : sw_S}, recm p0 q1 σ = some (r, σ') → sw_M l D cT yX0_readNode cX0_readNode 5 (some .boolean) fr0 lo0 0 0 σ [P_ (some p0), I_ q1] (some (I_ r)) σ')  (K : sw_C p s m args c cX0_readChildren 7 RX0 A D cT) (hT : sw_Tz cX0_readChildren p l e (sw_R (fr0 + 4) 0 0 (lo0 + 85)) s m args below meth c Q 7 A D cT 0 0 σ' r) {rec19 : Nat → Int32 → Int32 → Int32 → Int32 → Int32 → Int32 → sw_S → Option (Int32 × sw_S)} (hrec19 : ∀ (v0 : Nat) (v1 : Int32) (v2 : Int32) (v3 : Int32) (v4 : Int32) (v5 : Int32) (v6 : Int32) (σ : sw_S) (ce sl : Nat), rec19 v0 v1 v2 v3 v4 v5 v6 σ = some (r, σ') → ce + (0) ≤ 0 → sl + (0) ≤ 0 → sw_G p l e (sw_R (fr0 + 4) 0 0 (lo0 + 85)) s m args below meth c Q 7 A D cT σ ce sl 19 [(0, P_ (some v0)), (1, I_ v1), (2, I_ v2), (3, I_ v3), (4, I_ v4), (5, I_ v5), (6, I_ v6)] []) (v0 : Nat) (v1 : Int32) (v2 : Int32) (v3 : Int32) (v4 : Int32) (v5 : Int32) (v6 : Int32) (σ : sw_S)  (ce sl : Nat) (h : b_X0_readChildren_47 recm rec19 v0 v1 v2 v3 v4 v5 v6 σ = some (r, σ')) (hce : ce + (0) ≤ 0) (hsl : sl + (0) ≤ 0) : sw_G p l e (sw_R (fr0 + 4) 0 0 (lo0 + 85)) s m args below meth c Q 7 A D cT σ ce sl 47 [(0, P_ (some v0)), (1, I_ v1), (2, I_ v2), (3, I_ v3), (4, I_ v4), (5, I_ v5), (6, I_ v6)] [] := by
  unfold b_X0_readChildren_47 at h
  refine g_iload (pc := 47) K 4 rfl dX0_readChildren_47 ?_
  refine g_aload_n (pc := 49) K 0 rfl rfl dX0_readChildren_49 ?_
  replace h := Option.bind_eq_some_iff.mp h
  obtain ⟨x1, e2, h⟩ := h
  refine g_getI (pc := 50) K cl_0 hin_X0 (k := 12) (by decide) tb_138 rfl e2 dX0_readChildren_50 ?_
  refine g_iadd (pc := 53) K dX0_readChildren_53 ?_
  refine g_istore (pc := 54) K [(4, I_ ((v4 + x1))), (0, P_ (some v0)), (1, I_ v1), (2, I_ v2), (3, I_ v3), (5, I_ v5), (6, I_ v6)] (by decide) rfl dX0_readChildren_54 ?_
  refine g_iload (pc := 56) K 5 rfl dX0_readChildren_56 ?_
  refine g_aload_n (pc := 58) K 1 rfl rfl dX0_readChildren_58 ?_
  replace h := Option.bind_eq_some_iff.mp h
  obtain ⟨x3, e4, h⟩ := h
  refine g_getI (pc := 59) K cl_0 hin_X0 (k := 10) (by decide) tb_136 rfl e4 dX0_readChildren_59 ?_
  replace h := Option.bind_eq_some_iff.mp h
  obtain ⟨x6, e5, h⟩ := h
  refine g_callN (pc := 62) (st := []) (host := RX7) K [I_ v5, I_ x3] (c_X7_mix _ _ _ _ _ _ e5) tb_80 K.2.1.2.2.1 tb_1 tb_79 hd_X7_mix ⟨by show _ ≤ fr0 + 4; omega, by show _ ≤ lo0 + 85; omega⟩ rfl (sw_rm (Nat.le_of_ble_eq_true rfl)) ⟨by show _ ≤ 0; omega, by show _ ≤ 0; omega⟩ dX0_readChildren_62 ?_
  refine g_aload_n (pc := 65) K 1 rfl rfl dX0_readChildren_65 ?_
  replace h := Option.bind_eq_some_iff.mp h
  obtain ⟨x7, e8, h⟩ := h
  refine g_getI (pc := 66) K cl_0 hin_X0 (k := 11) (by decide) tb_137 rfl e8 dX0_readChildren_66 ?_
  replace h := Option.bind_eq_some_iff.mp h
  obtain ⟨x10, e9, h⟩ := h
  refine g_callN (pc := 69) (st := []) (host := RX7) K [I_ x6, I_ x7] (c_X7_mix _ _ _ _ _ _ e9) tb_80 K.2.1.2.2.1 tb_1 tb_79 hd_X7_mix ⟨by show _ ≤ fr0 + 4; omega, by show _ ≤ lo0 + 85; omega⟩ rfl (sw_rm (Nat.le_of_ble_eq_true rfl)) ⟨by show _ ≤ 0; omega, by show _ ≤ 0; omega⟩ dX0_readChildren_69 ?_
  refine g_aload_n (pc := 72) K 1 rfl rfl dX0_readChildren_72 ?_
  replace h := Option.bind_eq_some_iff.mp h
  obtain ⟨x11, e12, h⟩ := h
  refine g_getI (pc := 73) K cl_0 hin_X0 (k := 12) (by decide) tb_138 rfl e12 dX0_readChildren_73 ?_
  replace h := Option.bind_eq_some_iff.mp h
  obtain ⟨x14, e13, h⟩ := h
  refine g_callN (pc := 76) (st := []) (host := RX7) K [I_ x10, I_ x11] (c_X7_mix _ _ _ _ _ _ e13) tb_80 K.2.1.2.2.1 tb_1 tb_79 hd_X7_mix ⟨by show _ ≤ fr0 + 4; omega, by show _ ≤ lo0 + 85; omega⟩ rfl (sw_rm (Nat.le_of_ble_eq_true rfl)) ⟨by show _ ≤ 0; omega, by show _ ≤ 0; omega⟩ dX0_readChildren_76 ?_
  refine g_istore (pc := 79) K [(5, I_ x14), (4, I_ ((v4 + x1))), (0, P_ (some v0)), (1, I_ v1), (2, I_ v2), (3, I_ v3), (6, I_ v6)] (by decide) rfl dX0_readChildren_79 ?_
  refine g_iinc (pc := 81) K 6 (v6 + 1) [(6, I_ ((v6 + 1))), (5, I_ x14), (4, I_ ((v4 + x1))), (0, P_ (some v0)), (1, I_ v1), (2, I_ v2), (3, I_ v3)] rfl rfl (by decide) rfl dX0_readChildren_81 ?_
  refine g_goto (pc := 84) (tgt := 19) K dX0_readChildren_84 (by decide) ?_
  refine g_sub K [3, 4, 5, 6, 2, 1, 0] rfl ?_
  exact hrec19 _ _ _ _ _ _ _ _ _ _ h (by omega) (by omega)
def B_X0_readChildren_19 (recm : Nat → Int32 → sw_S → Option (Int32 × sw_S)) (rec19 : Nat → Int32 → Int32 → Int32 → Int32 → Int32 → Int32 → sw_S → Option (Int32 × sw_S)) (v0 : Nat) (v1 : Int32) (v2 : Int32) (v3 : Int32) (v4 : Int32) (v5 : Int32) (v6 : Int32) (σ : sw_S) : Option (Int32 × sw_S) :=
  (if v1 ≤ v6 then
  (sw_pt 0 v0 10 (.int v3) σ).bind fun σ2 =>
  (sw_pt 0 v0 12 (.int v4) σ2).bind fun σ4 =>
  (sw_pt 0 v0 11 (.int v5) σ4).bind fun σ6 =>
  some (1, σ6)
  else
  (sw_ob 0 v0 σ).bind fun f8 =>
  sw_b2 (f_X0_readChild recm v0 ((v2 + 1)) σ) fun x11 σ12 =>
  (if x11 = 0 then
  some (0, σ12)
  else
  (if v6 = 0 then
  (sw_gI 0 v0 10 σ12).bind fun x15 =>
  b_X0_readChildren_47 recm rec19 v0 v1 v2 x15 v4 v5 v6 σ12
  else
  b_X0_readChildren_47 recm rec19 v0 v1 v2 v3 v4 v5 v6 σ12)))
set_option maxHeartbeats 4000000 in
set_option maxRecDepth 100000 in
theorem wB_X0_readChildren_19 {p : Program} {l : Launch} {e : Env} {s : State} {m : MethodId} {args : Array Value} {below : List Frame} {meth : Method} {c : Code} {Q : State → Prop} {A : Nat → Prop} {D : va_G} {cT : Nat → ClassId} {r : Int32}  {σ' : sw_S}  {recm : Nat → Int32 → sw_S → Option (Int32 × sw_S)} {fr0 lo0 : Nat} (hm : ∀ (p0 : Nat) (q1 : Int32) (σ : sw_S) {r : Int32} {σ' : sw_S}, recm p0 q1 σ = some (r, σ') → sw_M l D cT yX0_readNode cX0_readNode 5 (some .boolean) fr0 lo0 0 0 σ [P_ (some p0), I_ q1] (some (I_ r)) σ')  (K : sw_C p s m args c cX0_readChildren 7 RX0 A D cT) (hT : sw_Tz cX0_readChildren p l e (sw_R (fr0 + 4) 0 0 (lo0 + 85)) s m args below meth c Q 7 A D cT 0 0 σ' r) {rec19 : Nat → Int32 → Int32 → Int32 → Int32 → Int32 → Int32 → sw_S → Option (Int32 × sw_S)} (hrec19 : ∀ (v0 : Nat) (v1 : Int32) (v2 : Int32) (v3 : Int32) (v4 : Int32) (v5 : Int32) (v6 : Int32) (σ : sw_S) (ce sl : Nat), rec19 v0 v1 v2 v3 v4 v5 v6 σ = some (r, σ') → ce + (0) ≤ 0 → sl + (0) ≤ 0 → sw_G p l e (sw_R (fr0 + 4) 0 0 (lo0 + 85)) s m args below meth c Q 7 A D cT σ ce sl 19 [(0, P_ (some v0)), (1, I_ v1), (2, I_ v2), (3, I_ v3), (4, I_ v4), (5, I_ v5), (6, I_ v6)] []) (v0 : Nat) (v1 : Int32) (v2 : Int32) (v3 : Int32) (v4 : Int32) (v5 : Int32) (v6 : Int32) (σ : sw_S)  (ce sl : Nat) (h : B_X0_readChildren_19 recm rec19 v0 v1 v2 v3 v4 v5 v6 σ = some (r, σ')) (hce : ce + (0) ≤ 0) (hsl : sl + (0) ≤ 0) : sw_G p l e (sw_R (fr0 + 4) 0 0 (lo0 + 85)) s m args below meth c Q 7 A D cT σ ce sl 19 [(0, P_ (some v0)), (1, I_ v1), (2, I_ v2), (3, I_ v3), (4, I_ v4), (5, I_ v5), (6, I_ v6)] [] := by
  unfold B_X0_readChildren_19 at h
  refine g_iload (pc := 19) K 6 rfl dX0_readChildren_19 ?_
  refine g_iload_n (pc := 21) K 1 rfl rfl dX0_readChildren_21 ?_
  refine g_icmp_ge (pc := 22) K 87 dX0_readChildren_22 (by decide) (fun c1 => ?_) (fun c1 => ?_)
  · replace h := (if_pos c1).symm.trans h
    refine g_aload_n (pc := 87) K 0 rfl rfl dX0_readChildren_87 ?_
    refine g_iload_n (pc := 88) K 3 rfl rfl dX0_readChildren_88 ?_
    replace h := Option.bind_eq_some_iff.mp h
    obtain ⟨σ2, e3, h⟩ := h
    refine g_put (pc := 89) K cl_0 hin_X0 (k := 10) (by decide) tb_136 rfl tyX0 tyX0_ok nmX0 (Or.inl rfl) rfl rfl e3 dX0_readChildren_89 ?_
    refine g_aload_n (pc := 92) K 0 rfl rfl dX0_readChildren_92 ?_
    refine g_iload (pc := 93) K 4 rfl dX0_readChildren_93 ?_
    replace h := Option.bind_eq_some_iff.mp h
    obtain ⟨σ4, e5, h⟩ := h
    refine g_put (pc := 95) K cl_0 hin_X0 (k := 12) (by decide) tb_138 rfl tyX0 tyX0_ok nmX0 (Or.inl rfl) rfl rfl e5 dX0_readChildren_95 ?_
    refine g_aload_n (pc := 98) K 0 rfl rfl dX0_readChildren_98 ?_
    refine g_iload (pc := 99) K 5 rfl dX0_readChildren_99 ?_
    replace h := Option.bind_eq_some_iff.mp h
    obtain ⟨σ6, e7, h⟩ := h
    refine g_put (pc := 101) K cl_0 hin_X0 (k := 11) (by decide) tb_137 rfl tyX0 tyX0_ok nmX0 (Or.inl rfl) rfl rfl e7 dX0_readChildren_101 ?_
    refine g_iconst (pc := 104) (v := 1) K dX0_readChildren_104 (by decide) ?_
    cases h
    exact hT _ _ 105 _ (by omega) (by omega) rfl dX0_readChildren_105
  · replace h := (if_neg c1).symm.trans h
    refine g_aload_n (pc := 25) K 0 rfl rfl dX0_readChildren_25 ?_
    refine g_iload_n (pc := 26) K 2 rfl rfl dX0_readChildren_26 ?_
    refine g_iconst (pc := 27) (v := 1) K dX0_readChildren_27 (by decide) ?_
    refine g_iadd (pc := 28) K dX0_readChildren_28 ?_
    replace h := Option.bind_eq_some_iff.mp h
    obtain ⟨f8, e9, h⟩ := h
    replace h := sw_b2_eq h
    obtain ⟨x11, σ12, e10, h⟩ := h
    refine g_callV (pc := 29) (st := []) K [I_ ((v2 + 1))] (c_X0_readChild recm hm _ _ _ e10) e9 cl_0 rfl tb_431 tb_428 tb_5 tb_430 sl_17 hd_X0_readChild ⟨by show _ ≤ fr0 + 4; omega, by show _ ≤ lo0 + 85; omega⟩ rfl (sw_rm (Nat.le_of_ble_eq_true rfl)) ⟨by show _ ≤ 0; omega, by show _ ≤ 0; omega⟩ dX0_readChildren_29 ?_
    refine g_if_ne (pc := 32) K 37 dX0_readChildren_32 (by decide) (fun c13 => ?_) (fun c13 => ?_)
    · replace h := (if_pos c13).symm.trans h
      refine g_iconst (pc := 35) (v := 0) K dX0_readChildren_35 (by decide) ?_
      cases h
      exact hT _ _ 36 _ (by omega) (by omega) rfl dX0_readChildren_36
    · replace h := (if_neg c13).symm.trans h
      refine g_iload (pc := 37) K 6 rfl dX0_readChildren_37 ?_
      refine g_if_ne (pc := 39) K 47 dX0_readChildren_39 (by decide) (fun c14 => ?_) (fun c14 => ?_)
      · replace h := (if_pos c14).symm.trans h
        refine g_aload_n (pc := 42) K 0 rfl rfl dX0_readChildren_42 ?_
        replace h := Option.bind_eq_some_iff.mp h
        obtain ⟨x15, e16, h⟩ := h
        refine g_getI (pc := 43) K cl_0 hin_X0 (k := 10) (by decide) tb_136 rfl e16 dX0_readChildren_43 ?_
        refine g_istore_n (pc := 46) K [(3, I_ x15), (0, P_ (some v0)), (1, I_ v1), (2, I_ v2), (4, I_ v4), (5, I_ v5), (6, I_ v6)] rfl (by decide) rfl dX0_readChildren_46 ?_
        refine g_sub K [1, 2, 3, 0, 4, 5, 6] rfl ?_
        exact w_X0_readChildren_47 hm K hT hrec19  _ _ _ _ _ _ _ _ _ _ h (by omega) (by omega)
      · replace h := (if_neg c14).symm.trans h
        refine g_sub K [0, 1, 2, 3, 4, 5, 6] rfl ?_
        exact w_X0_readChildren_47 hm K hT hrec19  _ _ _ _ _ _ _ _ _ _ h (by omega) (by omega)
def b_X0_readChildren_19 (recm : Nat → Int32 → sw_S → Option (Int32 × sw_S)) : Nat → Nat → Int32 → Int32 → Int32 → Int32 → Int32 → Int32 → sw_S → Option (Int32 × sw_S)
  | 0 => fun _ _ _ _ _ _ _ _ => none
  | n + 1 => B_X0_readChildren_19 recm (b_X0_readChildren_19 recm n)
theorem wl_X0_readChildren_19 {p : Program} {l : Launch} {e : Env} {s : State} {m : MethodId} {args : Array Value} {below : List Frame} {meth : Method} {c : Code} {Q : State → Prop} {A : Nat → Prop} {D : va_G} {cT : Nat → ClassId} {r : Int32}  {σ' : sw_S}  {recm : Nat → Int32 → sw_S → Option (Int32 × sw_S)} {fr0 lo0 : Nat} (hm : ∀ (p0 : Nat) (q1 : Int32) (σ : sw_S) {r : Int32} {σ' : sw_S}, recm p0 q1 σ = some (r, σ') → sw_M l D cT yX0_readNode cX0_readNode 5 (some .boolean) fr0 lo0 0 0 σ [P_ (some p0), I_ q1] (some (I_ r)) σ')  (K : sw_C p s m args c cX0_readChildren 7 RX0 A D cT) (hT : sw_Tz cX0_readChildren p l e (sw_R (fr0 + 4) 0 0 (lo0 + 85)) s m args below meth c Q 7 A D cT 0 0 σ' r) : ∀ (n : Nat) (v0 : Nat) (v1 : Int32) (v2 : Int32) (v3 : Int32) (v4 : Int32) (v5 : Int32) (v6 : Int32) (σ : sw_S) (ce sl : Nat), b_X0_readChildren_19 recm n v0 v1 v2 v3 v4 v5 v6 σ = some (r, σ') → ce + (0) ≤ 0 → sl + (0) ≤ 0 → sw_G p l e (sw_R (fr0 + 4) 0 0 (lo0 + 85)) s m args below meth c Q 7 A D cT σ ce sl 19 [(0, P_ (some v0)), (1, I_ v1), (2, I_ v2), (3, I_ v3), (4, I_ v4), (5, I_ v5), (6, I_ v6)] [] := by
  intro n
  induction n with
  | zero =>
    intro v0 v1 v2 v3 v4 v5 v6 σ ce sl h
    exact absurd (show none = some (r, σ') from h) (by simp)
  | succ n ih =>
    intro v0 v1 v2 v3 v4 v5 v6 σ ce sl h hce hsl
    exact wB_X0_readChildren_19 hm K hT (fun _ _ _ _ _ _ _ _ _ _ h h1 h2 => ih _ _ _ _ _ _ _ _ _ _ h h1 h2) _ _ _ _ _ _ _ _ _ _ h hce hsl
def f_X0_readChildren (recm : Nat → Int32 → sw_S → Option (Int32 × sw_S)) (p0 : Nat) (q1 : Int32) (q2 : Int32) (σ : sw_S) : Option (Int32 × sw_S) :=
  (f_X7_mix 1 2 σ).bind fun x2 =>
  (f_X7_mix x2 q1 σ).bind fun x4 =>
  b_X0_readChildren_19 recm 1000 p0 q1 q2 0 0 x4 0 σ
set_option maxHeartbeats 4000000 in
set_option maxRecDepth 100000 in
theorem c_X0_readChildren {l : Launch} {D : va_G} {cT : Nat → ClassId} (recm : Nat → Int32 → sw_S → Option (Int32 × sw_S)) {fr0 lo0 : Nat} (hm : ∀ (p0 : Nat) (q1 : Int32) (σ : sw_S) {r : Int32} {σ' : sw_S}, recm p0 q1 σ = some (r, σ') → sw_M l D cT yX0_readNode cX0_readNode 5 (some .boolean) fr0 lo0 0 0 σ [P_ (some p0), I_ q1] (some (I_ r)) σ') (p0 : Nat) (q1 : Int32) (q2 : Int32) (σ : sw_S) {r : Int32} {σ' : sw_S} (h : f_X0_readChildren recm p0 q1 q2 σ = some (r, σ')) : sw_M l D cT yX0_readChildren cX0_readChildren 7 (some .boolean) (fr0 + 4) (lo0 + 85) 0 0 σ [P_ (some p0), I_ q1, I_ q2] (some (I_ r)) σ' := by
  refine sw_met_z (by decide) (Nat.le_of_ble_eq_true rfl) (fun p e s m args below meth c A Q K hnm hT => ?_)
  have hce : 0 + 0 ≤ 0 := Nat.le_of_ble_eq_true rfl
  have hsl : 0 + 0 ≤ 0 := Nat.le_of_ble_eq_true rfl
  unfold f_X0_readChildren at h
  change sw_G p l e (sw_R (fr0 + 4) 0 0 (lo0 + 85)) s m args below meth c Q 7 A D cT σ 0 0 0 [(0, P_ (some p0)), (1, I_ q1), (2, I_ q2)] []
  refine g_iconst (pc := 0) (v := 0) K dX0_readChildren_0 (by decide) ?_
  refine g_istore_n (pc := 1) K [(3, I_ 0), (0, P_ (some p0)), (1, I_ q1), (2, I_ q2)] rfl (by decide) rfl dX0_readChildren_1 ?_
  refine g_iconst (pc := 2) (v := 0) K dX0_readChildren_2 (by decide) ?_
  refine g_istore (pc := 3) K [(4, I_ 0), (3, I_ 0), (0, P_ (some p0)), (1, I_ q1), (2, I_ q2)] (by decide) rfl dX0_readChildren_3 ?_
  refine g_iconst (pc := 5) (v := 1) K dX0_readChildren_5 (by decide) ?_
  refine g_iconst (pc := 6) (v := 2) K dX0_readChildren_6 (by decide) ?_
  replace h := Option.bind_eq_some_iff.mp h
  obtain ⟨x2, e1, h⟩ := h
  refine g_callN (pc := 7) (st := []) (host := RX7) K [I_ 1, I_ 2] (c_X7_mix _ _ _ _ _ _ e1) tb_80 K.2.1.2.2.1 tb_1 tb_79 hd_X7_mix ⟨by show _ ≤ fr0 + 4; omega, by show _ ≤ lo0 + 85; omega⟩ rfl (sw_rm (Nat.le_of_ble_eq_true rfl)) ⟨by show _ ≤ 0; omega, by show _ ≤ 0; omega⟩ dX0_readChildren_7 ?_
  refine g_iload_n (pc := 10) K 3 rfl rfl dX0_readChildren_10 ?_
  replace h := Option.bind_eq_some_iff.mp h
  obtain ⟨x4, e3, h⟩ := h
  refine g_callN (pc := 11) (st := []) (host := RX7) K [I_ x2, I_ q1] (c_X7_mix _ _ _ _ _ _ e3) tb_80 K.2.1.2.2.1 tb_1 tb_79 hd_X7_mix ⟨by show _ ≤ fr0 + 4; omega, by show _ ≤ lo0 + 85; omega⟩ rfl (sw_rm (Nat.le_of_ble_eq_true rfl)) ⟨by show _ ≤ 0; omega, by show _ ≤ 0; omega⟩ dX0_readChildren_11 ?_
  refine g_istore (pc := 14) K [(5, I_ x4), (4, I_ 0), (3, I_ 0), (0, P_ (some p0)), (1, I_ q1), (2, I_ q2)] (by decide) rfl dX0_readChildren_14 ?_
  refine g_iconst (pc := 16) (v := 0) K dX0_readChildren_16 (by decide) ?_
  refine g_istore (pc := 17) K [(6, I_ 0), (5, I_ x4), (4, I_ 0), (3, I_ 0), (0, P_ (some p0)), (1, I_ q1), (2, I_ q2)] (by decide) rfl dX0_readChildren_17 ?_
  refine g_sub K [4, 5, 6, 3, 2, 1, 0] rfl ?_
  exact wl_X0_readChildren_19 hm K hT  1000 _ _ _ _ _ _ _ _ _ _ h (by omega) (by omega)

def b_X0_readNode_120 (recm : Nat → Int32 → sw_S → Option (Int32 × sw_S)) (t0 : Int32) (σ : sw_S) : Option (Int32 × sw_S) :=
  (sw_z t0).bind fun z1 =>
  some (z1, σ)
set_option maxHeartbeats 4000000 in
set_option maxRecDepth 100000 in
theorem w_X0_readNode_120 {p : Program} {l : Launch} {e : Env} {s : State} {m : MethodId} {args : Array Value} {below : List Frame} {meth : Method} {c : Code} {Q : State → Prop} {A : Nat → Prop} {D : va_G} {cT : Nat → ClassId} {r : Int32}  {σ' : sw_S}  {recm : Nat → Int32 → sw_S → Option (Int32 × sw_S)} {fr0 lo0 : Nat} (hm : ∀ (p0 : Nat) (q1 : Int32) (σ : sw_S) {r : Int32} {σ' : sw_S}, recm p0 q1 σ = some (r, σ') → sw_M l D cT yX0_readNode cX0_readNode 5 (some .boolean) fr0 lo0 0 0 σ [P_ (some p0), I_ q1] (some (I_ r)) σ')  (K : sw_C p s m args c cX0_readNode 5 RX0 A D cT) (hT : sw_Tz cX0_readNode p l e (sw_R (fr0 + 5) 0 0 (lo0 + 111)) s m args below meth c Q 5 A D cT 0 0 σ' r) (t0 : Int32) (σ : sw_S)  (ce sl : Nat) (h : b_X0_readNode_120 recm t0 σ = some (r, σ')) (hce : ce + (0) ≤ 0) (hsl : sl + (0) ≤ 0) : sw_G p l e (sw_R (fr0 + 5) 0 0 (lo0 + 111)) s m args below meth c Q 5 A D cT σ ce sl 120 [] [I_ t0] := by
  unfold b_X0_readNode_120 at h
  replace h := Option.bind_eq_some_iff.mp h
  obtain ⟨z1, e2, h⟩ := h
  obtain ⟨rfl, e3⟩ := sw_z_eq e2
  cases h
  exact hT _ _ 120 _ (by omega) (by omega) e3.1 dX0_readNode_120
def b_X0_readNode_119 (recm : Nat → Int32 → sw_S → Option (Int32 × sw_S)) (σ : sw_S) : Option (Int32 × sw_S) :=
  b_X0_readNode_120 recm 0 σ
set_option maxHeartbeats 4000000 in
set_option maxRecDepth 100000 in
theorem w_X0_readNode_119 {p : Program} {l : Launch} {e : Env} {s : State} {m : MethodId} {args : Array Value} {below : List Frame} {meth : Method} {c : Code} {Q : State → Prop} {A : Nat → Prop} {D : va_G} {cT : Nat → ClassId} {r : Int32}  {σ' : sw_S}  {recm : Nat → Int32 → sw_S → Option (Int32 × sw_S)} {fr0 lo0 : Nat} (hm : ∀ (p0 : Nat) (q1 : Int32) (σ : sw_S) {r : Int32} {σ' : sw_S}, recm p0 q1 σ = some (r, σ') → sw_M l D cT yX0_readNode cX0_readNode 5 (some .boolean) fr0 lo0 0 0 σ [P_ (some p0), I_ q1] (some (I_ r)) σ')  (K : sw_C p s m args c cX0_readNode 5 RX0 A D cT) (hT : sw_Tz cX0_readNode p l e (sw_R (fr0 + 5) 0 0 (lo0 + 111)) s m args below meth c Q 5 A D cT 0 0 σ' r) (σ : sw_S)  (ce sl : Nat) (h : b_X0_readNode_119 recm σ = some (r, σ')) (hce : ce + (0) ≤ 0) (hsl : sl + (0) ≤ 0) : sw_G p l e (sw_R (fr0 + 5) 0 0 (lo0 + 111)) s m args below meth c Q 5 A D cT σ ce sl 119 [] [] := by
  unfold b_X0_readNode_119 at h
  refine g_iconst (pc := 119) (v := 0) K dX0_readNode_119 (by decide) ?_
  refine g_sub K [] rfl ?_
  exact w_X0_readNode_120 hm K hT  _ _ _ _ h (by omega) (by omega)
def b_X0_readNode_95 (recm : Nat → Int32 → sw_S → Option (Int32 × sw_S)) (v0 : Nat) (v1 : Int32) (v3 : Int32) (t0 : Int32) (t1 : Int32) (σ : sw_S) : Option (Int32 × sw_S) :=
  (if t1 < t0 then
  b_X0_readNode_119 recm σ
  else
  (sw_gI 0 v0 0 σ).bind fun x2 =>
  (if x2 < v3 then
  b_X0_readNode_119 recm σ
  else
  (sw_ob 0 v0 σ).bind fun f5 =>
  sw_b2 (f_X0_readChildren recm v0 v3 v1 σ) fun x8 σ9 =>
  (if x8 = 0 then
  b_X0_readNode_119 recm σ9
  else
  b_X0_readNode_120 recm 1 σ9)))
set_option maxHeartbeats 4000000 in
set_option maxRecDepth 100000 in
theorem w_X0_readNode_95 {p : Program} {l : Launch} {e : Env} {s : State} {m : MethodId} {args : Array Value} {below : List Frame} {meth : Method} {c : Code} {Q : State → Prop} {A : Nat → Prop} {D : va_G} {cT : Nat → ClassId} {r : Int32}  {σ' : sw_S}  {recm : Nat → Int32 → sw_S → Option (Int32 × sw_S)} {fr0 lo0 : Nat} (hm : ∀ (p0 : Nat) (q1 : Int32) (σ : sw_S) {r : Int32} {σ' : sw_S}, recm p0 q1 σ = some (r, σ') → sw_M l D cT yX0_readNode cX0_readNode 5 (some .boolean) fr0 lo0 0 0 σ [P_ (some p0), I_ q1] (some (I_ r)) σ')  (K : sw_C p s m args c cX0_readNode 5 RX0 A D cT) (hT : sw_Tz cX0_readNode p l e (sw_R (fr0 + 5) 0 0 (lo0 + 111)) s m args below meth c Q 5 A D cT 0 0 σ' r) (v0 : Nat) (v1 : Int32) (v3 : Int32) (t0 : Int32) (t1 : Int32) (σ : sw_S)  (ce sl : Nat) (h : b_X0_readNode_95 recm v0 v1 v3 t0 t1 σ = some (r, σ')) (hce : ce + (0) ≤ 0) (hsl : sl + (0) ≤ 0) : sw_G p l e (sw_R (fr0 + 5) 0 0 (lo0 + 111)) s m args below meth c Q 5 A D cT σ ce sl 95 [(0, P_ (some v0)), (1, I_ v1), (3, I_ v3)] [I_ t0, I_ t1] := by
  unfold b_X0_readNode_95 at h
  refine g_icmp_lt (pc := 95) K 119 dX0_readNode_95 (by decide) (fun c1 => ?_) (fun c1 => ?_)
  · replace h := (if_pos c1).symm.trans h
    refine g_sub K [] rfl ?_
    exact w_X0_readNode_119 hm K hT   _ _ _ h (by omega) (by omega)
  · replace h := (if_neg c1).symm.trans h
    refine g_iload_n (pc := 98) K 2 rfl rfl dX0_readNode_98 ?_
    refine g_aload_n (pc := 99) K 0 rfl rfl dX0_readNode_99 ?_
    replace h := Option.bind_eq_some_iff.mp h
    obtain ⟨x2, e3, h⟩ := h
    refine g_getI (pc := 100) K cl_0 hin_X0 (k := 0) (by decide) tb_126 rfl e3 dX0_readNode_100 ?_
    refine g_icmp_gt (pc := 103) K 119 dX0_readNode_103 (by decide) (fun c4 => ?_) (fun c4 => ?_)
    · replace h := (if_pos c4).symm.trans h
      refine g_sub K [] rfl ?_
      exact w_X0_readNode_119 hm K hT   _ _ _ h (by omega) (by omega)
    · replace h := (if_neg c4).symm.trans h
      refine g_aload_n (pc := 106) K 0 rfl rfl dX0_readNode_106 ?_
      refine g_iload_n (pc := 107) K 2 rfl rfl dX0_readNode_107 ?_
      refine g_iload_n (pc := 108) K 1 rfl rfl dX0_readNode_108 ?_
      replace h := Option.bind_eq_some_iff.mp h
      obtain ⟨f5, e6, h⟩ := h
      replace h := sw_b2_eq h
      obtain ⟨x8, σ9, e7, h⟩ := h
      refine g_callV (pc := 109) (st := []) K [I_ v3, I_ v1] (c_X0_readChildren recm hm _ _ _ _ e7) e6 cl_0 rfl tb_427 tb_424 tb_5 tb_426 sl_16 hd_X0_readChildren ⟨by show _ ≤ fr0 + 5; omega, by show _ ≤ lo0 + 111; omega⟩ rfl (sw_rm (Nat.le_of_ble_eq_true rfl)) ⟨by show _ ≤ 0; omega, by show _ ≤ 0; omega⟩ dX0_readNode_109 ?_
      refine g_if_eq (pc := 112) K 119 dX0_readNode_112 (by decide) (fun c10 => ?_) (fun c10 => ?_)
      · replace h := (if_pos c10).symm.trans h
        refine g_sub K [] rfl ?_
        exact w_X0_readNode_119 hm K hT   _ _ _ h (by omega) (by omega)
      · replace h := (if_neg c10).symm.trans h
        refine g_iconst (pc := 115) (v := 1) K dX0_readNode_115 (by decide) ?_
        refine g_goto (pc := 116) (tgt := 120) K dX0_readNode_116 (by decide) ?_
        refine g_sub K [] rfl ?_
        exact w_X0_readNode_120 hm K hT  _ _ _ _ h (by omega) (by omega)
def b_X0_readNode_78 (recm : Nat → Int32 → sw_S → Option (Int32 × sw_S)) (t0 : Int32) (σ : sw_S) : Option (Int32 × sw_S) :=
  (sw_z t0).bind fun z1 =>
  some (z1, σ)
set_option maxHeartbeats 4000000 in
set_option maxRecDepth 100000 in
theorem w_X0_readNode_78 {p : Program} {l : Launch} {e : Env} {s : State} {m : MethodId} {args : Array Value} {below : List Frame} {meth : Method} {c : Code} {Q : State → Prop} {A : Nat → Prop} {D : va_G} {cT : Nat → ClassId} {r : Int32}  {σ' : sw_S}  {recm : Nat → Int32 → sw_S → Option (Int32 × sw_S)} {fr0 lo0 : Nat} (hm : ∀ (p0 : Nat) (q1 : Int32) (σ : sw_S) {r : Int32} {σ' : sw_S}, recm p0 q1 σ = some (r, σ') → sw_M l D cT yX0_readNode cX0_readNode 5 (some .boolean) fr0 lo0 0 0 σ [P_ (some p0), I_ q1] (some (I_ r)) σ')  (K : sw_C p s m args c cX0_readNode 5 RX0 A D cT) (hT : sw_Tz cX0_readNode p l e (sw_R (fr0 + 5) 0 0 (lo0 + 111)) s m args below meth c Q 5 A D cT 0 0 σ' r) (t0 : Int32) (σ : sw_S)  (ce sl : Nat) (h : b_X0_readNode_78 recm t0 σ = some (r, σ')) (hce : ce + (0) ≤ 0) (hsl : sl + (0) ≤ 0) : sw_G p l e (sw_R (fr0 + 5) 0 0 (lo0 + 111)) s m args below meth c Q 5 A D cT σ ce sl 78 [] [I_ t0] := by
  unfold b_X0_readNode_78 at h
  replace h := Option.bind_eq_some_iff.mp h
  obtain ⟨z1, e2, h⟩ := h
  obtain ⟨rfl, e3⟩ := sw_z_eq e2
  cases h
  exact hT _ _ 78 _ (by omega) (by omega) e3.1 dX0_readNode_78
def b_X0_readNode_77 (recm : Nat → Int32 → sw_S → Option (Int32 × sw_S)) (σ : sw_S) : Option (Int32 × sw_S) :=
  b_X0_readNode_78 recm 0 σ
set_option maxHeartbeats 4000000 in
set_option maxRecDepth 100000 in
theorem w_X0_readNode_77 {p : Program} {l : Launch} {e : Env} {s : State} {m : MethodId} {args : Array Value} {below : List Frame} {meth : Method} {c : Code} {Q : State → Prop} {A : Nat → Prop} {D : va_G} {cT : Nat → ClassId} {r : Int32}  {σ' : sw_S}  {recm : Nat → Int32 → sw_S → Option (Int32 × sw_S)} {fr0 lo0 : Nat} (hm : ∀ (p0 : Nat) (q1 : Int32) (σ : sw_S) {r : Int32} {σ' : sw_S}, recm p0 q1 σ = some (r, σ') → sw_M l D cT yX0_readNode cX0_readNode 5 (some .boolean) fr0 lo0 0 0 σ [P_ (some p0), I_ q1] (some (I_ r)) σ')  (K : sw_C p s m args c cX0_readNode 5 RX0 A D cT) (hT : sw_Tz cX0_readNode p l e (sw_R (fr0 + 5) 0 0 (lo0 + 111)) s m args below meth c Q 5 A D cT 0 0 σ' r) (σ : sw_S)  (ce sl : Nat) (h : b_X0_readNode_77 recm σ = some (r, σ')) (hce : ce + (0) ≤ 0) (hsl : sl + (0) ≤ 0) : sw_G p l e (sw_R (fr0 + 5) 0 0 (lo0 + 111)) s m args below meth c Q 5 A D cT σ ce sl 77 [] [] := by
  unfold b_X0_readNode_77 at h
  refine g_iconst (pc := 77) (v := 0) K dX0_readNode_77 (by decide) ?_
  refine g_sub K [] rfl ?_
  exact w_X0_readNode_78 hm K hT  _ _ _ _ h (by omega) (by omega)
def b_X0_readNode_54 (recm : Nat → Int32 → sw_S → Option (Int32 × sw_S)) (v0 : Nat) (v3 : Int32) (t0 : Int32) (t1 : Int32) (σ : sw_S) : Option (Int32 × sw_S) :=
  (if t1 < t0 then
  b_X0_readNode_77 recm σ
  else
  (sw_gI 0 v0 0 σ).bind fun x2 =>
  (if x2 < v3 then
  b_X0_readNode_77 recm σ
  else
  (sw_ob 0 v0 σ).bind fun f5 =>
  sw_b2 (f_X0_readEntries v0 v3 σ) fun x8 σ9 =>
  (if x8 = 0 then
  b_X0_readNode_77 recm σ9
  else
  b_X0_readNode_78 recm 1 σ9)))
set_option maxHeartbeats 4000000 in
set_option maxRecDepth 100000 in
theorem w_X0_readNode_54 {p : Program} {l : Launch} {e : Env} {s : State} {m : MethodId} {args : Array Value} {below : List Frame} {meth : Method} {c : Code} {Q : State → Prop} {A : Nat → Prop} {D : va_G} {cT : Nat → ClassId} {r : Int32}  {σ' : sw_S}  {recm : Nat → Int32 → sw_S → Option (Int32 × sw_S)} {fr0 lo0 : Nat} (hm : ∀ (p0 : Nat) (q1 : Int32) (σ : sw_S) {r : Int32} {σ' : sw_S}, recm p0 q1 σ = some (r, σ') → sw_M l D cT yX0_readNode cX0_readNode 5 (some .boolean) fr0 lo0 0 0 σ [P_ (some p0), I_ q1] (some (I_ r)) σ')  (K : sw_C p s m args c cX0_readNode 5 RX0 A D cT) (hT : sw_Tz cX0_readNode p l e (sw_R (fr0 + 5) 0 0 (lo0 + 111)) s m args below meth c Q 5 A D cT 0 0 σ' r) (v0 : Nat) (v3 : Int32) (t0 : Int32) (t1 : Int32) (σ : sw_S)  (ce sl : Nat) (h : b_X0_readNode_54 recm v0 v3 t0 t1 σ = some (r, σ')) (hce : ce + (0) ≤ 0) (hsl : sl + (0) ≤ 0) : sw_G p l e (sw_R (fr0 + 5) 0 0 (lo0 + 111)) s m args below meth c Q 5 A D cT σ ce sl 54 [(0, P_ (some v0)), (3, I_ v3)] [I_ t0, I_ t1] := by
  unfold b_X0_readNode_54 at h
  refine g_icmp_lt (pc := 54) K 77 dX0_readNode_54 (by decide) (fun c1 => ?_) (fun c1 => ?_)
  · replace h := (if_pos c1).symm.trans h
    refine g_sub K [] rfl ?_
    exact w_X0_readNode_77 hm K hT   _ _ _ h (by omega) (by omega)
  · replace h := (if_neg c1).symm.trans h
    refine g_iload_n (pc := 57) K 1 rfl rfl dX0_readNode_57 ?_
    refine g_aload_n (pc := 58) K 0 rfl rfl dX0_readNode_58 ?_
    replace h := Option.bind_eq_some_iff.mp h
    obtain ⟨x2, e3, h⟩ := h
    refine g_getI (pc := 59) K cl_0 hin_X0 (k := 0) (by decide) tb_126 rfl e3 dX0_readNode_59 ?_
    refine g_icmp_gt (pc := 62) K 77 dX0_readNode_62 (by decide) (fun c4 => ?_) (fun c4 => ?_)
    · replace h := (if_pos c4).symm.trans h
      refine g_sub K [] rfl ?_
      exact w_X0_readNode_77 hm K hT   _ _ _ h (by omega) (by omega)
    · replace h := (if_neg c4).symm.trans h
      refine g_aload_n (pc := 65) K 0 rfl rfl dX0_readNode_65 ?_
      refine g_iload_n (pc := 66) K 1 rfl rfl dX0_readNode_66 ?_
      replace h := Option.bind_eq_some_iff.mp h
      obtain ⟨f5, e6, h⟩ := h
      replace h := sw_b2_eq h
      obtain ⟨x8, σ9, e7, h⟩ := h
      refine g_callV (pc := 67) (st := []) K [I_ v3] (c_X0_readEntries _ _ _ _ _ _ e7) e6 cl_0 rfl tb_418 tb_415 tb_5 tb_417 sl_14 hd_X0_readEntries ⟨by show _ ≤ fr0 + 5; omega, by show _ ≤ lo0 + 111; omega⟩ rfl (sw_rm (Nat.le_of_ble_eq_true rfl)) ⟨by show _ ≤ 0; omega, by show _ ≤ 0; omega⟩ dX0_readNode_67 ?_
      refine g_if_eq (pc := 70) K 77 dX0_readNode_70 (by decide) (fun c10 => ?_) (fun c10 => ?_)
      · replace h := (if_pos c10).symm.trans h
        refine g_sub K [] rfl ?_
        exact w_X0_readNode_77 hm K hT   _ _ _ h (by omega) (by omega)
      · replace h := (if_neg c10).symm.trans h
        refine g_iconst (pc := 73) (v := 1) K dX0_readNode_73 (by decide) ?_
        refine g_goto (pc := 74) (tgt := 78) K dX0_readNode_74 (by decide) ?_
        refine g_sub K [] rfl ?_
        exact w_X0_readNode_78 hm K hT  _ _ _ _ h (by omega) (by omega)
def b_X0_readNode_36 (recm : Nat → Int32 → sw_S → Option (Int32 × sw_S)) (v0 : Nat) (v1 : Int32) (v2 : Int32) (v3 : Int32) (t0 : Int32) (σ : sw_S) : Option (Int32 × sw_S) :=
  (if v2 = 1 then
  (if t0 = 0 then
  b_X0_readNode_54 recm v0 v3 1 v3 σ
  else
  b_X0_readNode_54 recm v0 v3 0 v3 σ)
  else
  (if v2 = 2 then
  (if t0 = 0 then
  b_X0_readNode_95 recm v0 v1 v3 1 v3 σ
  else
  b_X0_readNode_95 recm v0 v1 v3 2 v3 σ)
  else
  b_X0_readNode_119 recm σ))
set_option maxHeartbeats 4000000 in
set_option maxRecDepth 100000 in
theorem w_X0_readNode_36 {p : Program} {l : Launch} {e : Env} {s : State} {m : MethodId} {args : Array Value} {below : List Frame} {meth : Method} {c : Code} {Q : State → Prop} {A : Nat → Prop} {D : va_G} {cT : Nat → ClassId} {r : Int32}  {σ' : sw_S}  {recm : Nat → Int32 → sw_S → Option (Int32 × sw_S)} {fr0 lo0 : Nat} (hm : ∀ (p0 : Nat) (q1 : Int32) (σ : sw_S) {r : Int32} {σ' : sw_S}, recm p0 q1 σ = some (r, σ') → sw_M l D cT yX0_readNode cX0_readNode 5 (some .boolean) fr0 lo0 0 0 σ [P_ (some p0), I_ q1] (some (I_ r)) σ')  (K : sw_C p s m args c cX0_readNode 5 RX0 A D cT) (hT : sw_Tz cX0_readNode p l e (sw_R (fr0 + 5) 0 0 (lo0 + 111)) s m args below meth c Q 5 A D cT 0 0 σ' r) (v0 : Nat) (v1 : Int32) (v2 : Int32) (v3 : Int32) (t0 : Int32) (σ : sw_S)  (ce sl : Nat) (h : b_X0_readNode_36 recm v0 v1 v2 v3 t0 σ = some (r, σ')) (hce : ce + (0) ≤ 0) (hsl : sl + (0) ≤ 0) : sw_G p l e (sw_R (fr0 + 5) 0 0 (lo0 + 111)) s m args below meth c Q 5 A D cT σ ce sl 36 [(0, P_ (some v0)), (1, I_ v1), (2, I_ v2), (3, I_ v3)] [I_ t0] := by
  unfold b_X0_readNode_36 at h
  refine g_istore (pc := 36) K [(4, I_ t0), (0, P_ (some v0)), (1, I_ v1), (2, I_ v2), (3, I_ v3)] (by decide) rfl dX0_readNode_36 ?_
  refine g_iload_n (pc := 38) K 3 rfl rfl dX0_readNode_38 ?_
  refine g_iconst (pc := 39) (v := 1) K dX0_readNode_39 (by decide) ?_
  refine g_icmp_ne (pc := 40) K 79 dX0_readNode_40 (by decide) (fun c1 => ?_) (fun c1 => ?_)
  · replace h := (if_pos c1).symm.trans h
    refine g_iload_n (pc := 43) K 4 rfl rfl dX0_readNode_43 ?_
    refine g_iload (pc := 44) K 0 rfl dX0_readNode_44 ?_
    refine g_if_eq (pc := 46) K 53 dX0_readNode_46 (by decide) (fun c2 => ?_) (fun c2 => ?_)
    · replace h := (if_pos c2).symm.trans h
      refine g_iconst (pc := 53) (v := 1) K dX0_readNode_53 (by decide) ?_
      refine g_sub K [1, 4] rfl ?_
      exact w_X0_readNode_54 hm K hT  _ _ _ _ _ _ _ h (by omega) (by omega)
    · replace h := (if_neg c2).symm.trans h
      refine g_iconst (pc := 49) (v := 0) K dX0_readNode_49 (by decide) ?_
      refine g_goto (pc := 50) (tgt := 54) K dX0_readNode_50 (by decide) ?_
      refine g_sub K [1, 4] rfl ?_
      exact w_X0_readNode_54 hm K hT  _ _ _ _ _ _ _ h (by omega) (by omega)
  · replace h := (if_neg c1).symm.trans h
    refine g_iload_n (pc := 79) K 3 rfl rfl dX0_readNode_79 ?_
    refine g_iconst (pc := 80) (v := 2) K dX0_readNode_80 (by decide) ?_
    refine g_icmp_ne (pc := 81) K 119 dX0_readNode_81 (by decide) (fun c3 => ?_) (fun c3 => ?_)
    · replace h := (if_pos c3).symm.trans h
      refine g_iload_n (pc := 84) K 4 rfl rfl dX0_readNode_84 ?_
      refine g_iload (pc := 85) K 0 rfl dX0_readNode_85 ?_
      refine g_if_eq (pc := 87) K 94 dX0_readNode_87 (by decide) (fun c4 => ?_) (fun c4 => ?_)
      · replace h := (if_pos c4).symm.trans h
        refine g_iconst (pc := 94) (v := 1) K dX0_readNode_94 (by decide) ?_
        refine g_sub K [1, 2, 4] rfl ?_
        exact w_X0_readNode_95 hm K hT  _ _ _ _ _ _ _ _ h (by omega) (by omega)
      · replace h := (if_neg c4).symm.trans h
        refine g_iconst (pc := 90) (v := 2) K dX0_readNode_90 (by decide) ?_
        refine g_goto (pc := 91) (tgt := 95) K dX0_readNode_91 (by decide) ?_
        refine g_sub K [1, 2, 4] rfl ?_
        exact w_X0_readNode_95 hm K hT  _ _ _ _ _ _ _ _ h (by omega) (by omega)
    · replace h := (if_neg c3).symm.trans h
      refine g_sub K [] rfl ?_
      exact w_X0_readNode_119 hm K hT   _ _ _ h (by omega) (by omega)
def b_X0_readNode_14 (recm : Nat → Int32 → sw_S → Option (Int32 × sw_S)) (σ : sw_S) : Option (Int32 × sw_S) :=
  some (0, σ)
set_option maxHeartbeats 4000000 in
set_option maxRecDepth 100000 in
theorem w_X0_readNode_14 {p : Program} {l : Launch} {e : Env} {s : State} {m : MethodId} {args : Array Value} {below : List Frame} {meth : Method} {c : Code} {Q : State → Prop} {A : Nat → Prop} {D : va_G} {cT : Nat → ClassId} {r : Int32}  {σ' : sw_S}  {recm : Nat → Int32 → sw_S → Option (Int32 × sw_S)} {fr0 lo0 : Nat} (hm : ∀ (p0 : Nat) (q1 : Int32) (σ : sw_S) {r : Int32} {σ' : sw_S}, recm p0 q1 σ = some (r, σ') → sw_M l D cT yX0_readNode cX0_readNode 5 (some .boolean) fr0 lo0 0 0 σ [P_ (some p0), I_ q1] (some (I_ r)) σ')  (K : sw_C p s m args c cX0_readNode 5 RX0 A D cT) (hT : sw_Tz cX0_readNode p l e (sw_R (fr0 + 5) 0 0 (lo0 + 111)) s m args below meth c Q 5 A D cT 0 0 σ' r) (σ : sw_S)  (ce sl : Nat) (h : b_X0_readNode_14 recm σ = some (r, σ')) (hce : ce + (0) ≤ 0) (hsl : sl + (0) ≤ 0) : sw_G p l e (sw_R (fr0 + 5) 0 0 (lo0 + 111)) s m args below meth c Q 5 A D cT σ ce sl 14 [] [] := by
  unfold b_X0_readNode_14 at h
  refine g_iconst (pc := 14) (v := 0) K dX0_readNode_14 (by decide) ?_
  cases h
  exact hT _ _ 15 _ (by omega) (by omega) rfl dX0_readNode_15
def fr_X0_readNode (recm : Nat → Int32 → sw_S → Option (Int32 × sw_S)) (p0 : Nat) (q1 : Int32) (σ : sw_S) : Option (Int32 × sw_S) :=
  (if 6 < q1 then
  b_X0_readNode_14 recm σ
  else
  (sw_ob 0 p0 σ).bind fun f2 =>
  (f_X0_hasMore p0 2 σ).bind fun x5 =>
  (if x5 = 0 then
  b_X0_readNode_14 recm σ
  else
  (sw_ob 0 p0 σ).bind fun f7 =>
  sw_b2 (f_X0_next p0 σ) fun x10 σ11 =>
  (sw_ob 0 p0 σ11).bind fun f12 =>
  sw_b2 (f_X0_next p0 σ11) fun x15 σ16 =>
  (if q1 = 1 then
  b_X0_readNode_36 recm p0 q1 x10 x15 1 σ16
  else
  b_X0_readNode_36 recm p0 q1 x10 x15 0 σ16)))
set_option maxHeartbeats 4000000 in
set_option maxRecDepth 100000 in
theorem cr_X0_readNode {l : Launch} {D : va_G} {cT : Nat → ClassId} (recm : Nat → Int32 → sw_S → Option (Int32 × sw_S)) {fr0 lo0 : Nat} (hm : ∀ (p0 : Nat) (q1 : Int32) (σ : sw_S) {r : Int32} {σ' : sw_S}, recm p0 q1 σ = some (r, σ') → sw_M l D cT yX0_readNode cX0_readNode 5 (some .boolean) fr0 lo0 0 0 σ [P_ (some p0), I_ q1] (some (I_ r)) σ') (p0 : Nat) (q1 : Int32) (σ : sw_S) {r : Int32} {σ' : sw_S} (h : fr_X0_readNode recm p0 q1 σ = some (r, σ')) : sw_M l D cT yX0_readNode cX0_readNode 5 (some .boolean) (fr0 + 5) (lo0 + 111) 0 0 σ [P_ (some p0), I_ q1] (some (I_ r)) σ' := by
  refine sw_met_z (by decide) (Nat.le_of_ble_eq_true rfl) (fun p e s m args below meth c A Q K hnm hT => ?_)
  have hce : 0 + 0 ≤ 0 := Nat.le_of_ble_eq_true rfl
  have hsl : 0 + 0 ≤ 0 := Nat.le_of_ble_eq_true rfl
  unfold fr_X0_readNode at h
  change sw_G p l e (sw_R (fr0 + 5) 0 0 (lo0 + 111)) s m args below meth c Q 5 A D cT σ 0 0 0 [(0, P_ (some p0)), (1, I_ q1)] []
  refine g_iload_n (pc := 0) K 1 rfl rfl dX0_readNode_0 ?_
  refine g_bipush (pc := 1) (v := 6) K dX0_readNode_1 (by decide) ?_
  refine g_icmp_gt (pc := 3) K 14 dX0_readNode_3 (by decide) (fun c1 => ?_) (fun c1 => ?_)
  · replace h := (if_pos c1).symm.trans h
    refine g_sub K [] rfl ?_
    exact w_X0_readNode_14 hm K hT   _ _ _ h (by omega) (by omega)
  · replace h := (if_neg c1).symm.trans h
    refine g_aload_n (pc := 6) K 0 rfl rfl dX0_readNode_6 ?_
    refine g_iconst (pc := 7) (v := 2) K dX0_readNode_7 (by decide) ?_
    replace h := Option.bind_eq_some_iff.mp h
    obtain ⟨f2, e3, h⟩ := h
    replace h := Option.bind_eq_some_iff.mp h
    obtain ⟨x5, e4, h⟩ := h
    refine g_callV (pc := 8) (st := []) K [I_ 2] (c_X0_hasMore _ _ _ _ _ _ e4) e3 cl_0 rfl tb_409 tb_406 tb_5 tb_408 sl_12 hd_X0_hasMore ⟨by show _ ≤ fr0 + 5; omega, by show _ ≤ lo0 + 111; omega⟩ rfl (sw_rm (Nat.le_of_ble_eq_true rfl)) ⟨by show _ ≤ 0; omega, by show _ ≤ 0; omega⟩ dX0_readNode_8 ?_
    refine g_if_ne (pc := 11) K 16 dX0_readNode_11 (by decide) (fun c6 => ?_) (fun c6 => ?_)
    · replace h := (if_pos c6).symm.trans h
      refine g_sub K [] rfl ?_
      exact w_X0_readNode_14 hm K hT   _ _ _ h (by omega) (by omega)
    · replace h := (if_neg c6).symm.trans h
      refine g_aload_n (pc := 16) K 0 rfl rfl dX0_readNode_16 ?_
      replace h := Option.bind_eq_some_iff.mp h
      obtain ⟨f7, e8, h⟩ := h
      replace h := sw_b2_eq h
      obtain ⟨x10, σ11, e9, h⟩ := h
      refine g_callV (pc := 17) (st := []) K [] (c_X0_next _ _ _ _ _ e9) e8 cl_0 rfl tb_413 tb_410 tb_5 tb_412 sl_13 hd_X0_next ⟨by show _ ≤ fr0 + 5; omega, by show _ ≤ lo0 + 111; omega⟩ rfl (sw_rm (Nat.le_of_ble_eq_true rfl)) ⟨by show _ ≤ 0; omega, by show _ ≤ 0; omega⟩ dX0_readNode_17 ?_
      refine g_istore_n (pc := 20) K [(2, I_ x10), (0, P_ (some p0)), (1, I_ q1)] rfl (by decide) rfl dX0_readNode_20 ?_
      refine g_aload_n (pc := 21) K 1 rfl rfl dX0_readNode_21 ?_
      replace h := Option.bind_eq_some_iff.mp h
      obtain ⟨f12, e13, h⟩ := h
      replace h := sw_b2_eq h
      obtain ⟨x15, σ16, e14, h⟩ := h
      refine g_callV (pc := 22) (st := []) K [] (c_X0_next _ _ _ _ _ e14) e13 cl_0 rfl tb_413 tb_410 tb_5 tb_412 sl_13 hd_X0_next ⟨by show _ ≤ fr0 + 5; omega, by show _ ≤ lo0 + 111; omega⟩ rfl (sw_rm (Nat.le_of_ble_eq_true rfl)) ⟨by show _ ≤ 0; omega, by show _ ≤ 0; omega⟩ dX0_readNode_22 ?_
      refine g_istore_n (pc := 25) K [(3, I_ x15), (2, I_ x10), (0, P_ (some p0)), (1, I_ q1)] rfl (by decide) rfl dX0_readNode_25 ?_
      refine g_iload_n (pc := 26) K 3 rfl rfl dX0_readNode_26 ?_
      refine g_iconst (pc := 27) (v := 1) K dX0_readNode_27 (by decide) ?_
      refine g_icmp_ne (pc := 28) K 35 dX0_readNode_28 (by decide) (fun c17 => ?_) (fun c17 => ?_)
      · replace h := (if_pos c17).symm.trans h
        refine g_iconst (pc := 31) (v := 1) K dX0_readNode_31 (by decide) ?_
        refine g_goto (pc := 32) (tgt := 36) K dX0_readNode_32 (by decide) ?_
        refine g_sub K [2, 3, 1, 0] rfl ?_
        exact w_X0_readNode_36 hm K hT  _ _ _ _ _ _ _ _ h (by omega) (by omega)
      · replace h := (if_neg c17).symm.trans h
        refine g_iconst (pc := 35) (v := 0) K dX0_readNode_35 (by decide) ?_
        refine g_sub K [2, 3, 1, 0] rfl ?_
        exact w_X0_readNode_36 hm K hT  _ _ _ _ _ _ _ _ h (by omega) (by omega)

def f_X0_readNode : Nat → Nat → Int32 → sw_S → Option (Int32 × sw_S)
  | 0 => fun _ _ _ => none
  | d + 1 => fr_X0_readNode (f_X0_readNode d)
theorem c_X0_readNode (l : Launch) (D : va_G) (cT : Nat → ClassId) : ∀ (d : Nat) (p0 : Nat) (q1 : Int32) (σ : sw_S) {r : Int32} {σ' : sw_S}, f_X0_readNode d p0 q1 σ = some (r, σ') → sw_M l D cT yX0_readNode cX0_readNode 5 (some .boolean) (d * 5) (d * 111) 0 0 σ [P_ (some p0), I_ q1] (some (I_ r)) σ' := by
  intro d
  induction d with
  | zero =>
    intro p0 q1 σ r σ' h
    exact absurd (show none = _ from h) (by simp)
  | succ d ih =>
    intro p0 q1 σ r σ' h
    have hq := cr_X0_readNode (f_X0_readNode d) (fun p0 q1 σ r σ' h => ih p0 q1 σ h) p0 q1 σ h
    rw [show d * 5 + 5 = (d + 1) * 5 by omega, show d * 111 + 111 = (d + 1) * 111 by omega] at hq
    exact hq
