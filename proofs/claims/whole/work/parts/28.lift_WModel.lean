def f_X8_add (q1 : Int32) (q2 : Int32) (σ : sw_S) : Option Int32 :=
  some ((((((q1 ^^^ q2)) * 16777619)) ^^^ ((((((q1 ^^^ q2)) * 16777619)).toUInt32 >>> ((15 : Int32).toUInt32 &&& Int32.toUInt32 31)).toInt32)))
set_option maxHeartbeats 4000000 in
set_option maxRecDepth 100000 in
theorem c_X8_add  (l : Launch) (D : va_G) (cT : Nat → ClassId) (q1 : Int32) (q2 : Int32) (σ : sw_S) {r : Int32} (h : f_X8_add q1 q2 σ = some r) : sw_M l D cT yX8_add cX8_add 3 (some .int) 0 0 0 0 σ [I_ q1, I_ q2] (some (I_ r)) σ := by
  refine sw_met_i (by decide) (Nat.le_of_ble_eq_true rfl) (fun p e s m args below meth c A Q K hnm hT => ?_)
  have hce : 0 + 0 ≤ 0 := Nat.le_of_ble_eq_true rfl
  have hsl : 0 + 0 ≤ 0 := Nat.le_of_ble_eq_true rfl
  unfold f_X8_add at h
  change sw_G p l e (sw_R 0 0 0 0) s m args below meth c Q 3 A D cT σ 0 0 0 [(0, I_ q1), (1, I_ q2)] []
  refine g_iload_n (pc := 0) K 0 rfl rfl dX8_add_0 ?_
  refine g_iload_n (pc := 1) K 1 rfl rfl dX8_add_1 ?_
  refine g_ixor (pc := 2) K dX8_add_2 ?_
  refine g_ldc (pc := 3) (v := 16777619) K tb_517 dX8_add_3 ?_
  refine g_imul (pc := 5) K dX8_add_5 ?_
  refine g_istore_n (pc := 6) K [(2, I_ ((((q1 ^^^ q2)) * 16777619))), (0, I_ q1), (1, I_ q2)] rfl (by decide) rfl dX8_add_6 ?_
  refine g_iload_n (pc := 7) K 0 rfl rfl dX8_add_7 ?_
  refine g_iload_n (pc := 8) K 0 rfl rfl dX8_add_8 ?_
  refine g_bipush (pc := 9) (v := 15) K dX8_add_9 (by decide) ?_
  refine g_iushr (pc := 11) K dX8_add_11 ?_
  refine g_ixor (pc := 12) K dX8_add_12 ?_
  cases h
  exact hT _ _ 13 _ (by omega) (by omega) dX8_add_13

def b_X8_workNode_196 (rec64 : Nat → Int32 → Int32 → Int32 → Int32 → Int32 → sw_S → Option sw_S) (v0 : Nat) (v1 : Int32) (v2 : Int32) (v3 : Int32) (v4 : Int32) (v5 : Int32) (t0 : Int32) (t1 : Int32) (t2 : Int32) (t3 : Option Nat) (σ : sw_S) : Option sw_S :=
  t3.bind fun a1 =>
  (sw_as 0 a1 t2 ((t1 + t0)) σ).bind fun σ3 =>
  rec64 v0 v1 v2 v3 v4 ((v5 + 1)) σ3
set_option maxHeartbeats 4000000 in
set_option maxRecDepth 100000 in
theorem w_X8_workNode_196 {p : Program} {l : Launch} {e : Env} {s : State} {m : MethodId} {args : Array Value} {below : List Frame} {meth : Method} {c : Code} {Q : State → Prop} {A : Nat → Prop} {D : va_G} {cT : Nat → ClassId} {σ' : sw_S}  (K : sw_C p s m args c cX8_workNode 7 RX8 A D cT) (hT : sw_Tv cX8_workNode p l e (sw_R 1 0 0 22) s m args below meth c Q 7 A D cT 0 0 σ') {rec64 : Nat → Int32 → Int32 → Int32 → Int32 → Int32 → sw_S → Option sw_S} (hrec64 : ∀ (v0 : Nat) (v1 : Int32) (v2 : Int32) (v3 : Int32) (v4 : Int32) (v5 : Int32) (σ : sw_S) (ce sl : Nat), rec64 v0 v1 v2 v3 v4 v5 σ = some σ' → ce + (0) ≤ 0 → sl + (0) ≤ 0 → sw_G p l e (sw_R 1 0 0 22) s m args below meth c Q 7 A D cT σ ce sl 64 [(0, P_ (some v0)), (1, I_ v1), (2, I_ v2), (3, I_ v3), (4, I_ v4), (5, I_ v5)] []) (v0 : Nat) (v1 : Int32) (v2 : Int32) (v3 : Int32) (v4 : Int32) (v5 : Int32) (t0 : Int32) (t1 : Int32) (t2 : Int32) (t3 : Option Nat) (σ : sw_S)  (ce sl : Nat) (h : b_X8_workNode_196 rec64 v0 v1 v2 v3 v4 v5 t0 t1 t2 t3 σ = some σ') (hce : ce + (0) ≤ 0) (hsl : sl + (0) ≤ 0) : sw_G p l e (sw_R 1 0 0 22) s m args below meth c Q 7 A D cT σ ce sl 196 [(0, P_ (some v0)), (1, I_ v1), (2, I_ v2), (3, I_ v3), (4, I_ v4), (5, I_ v5)] [I_ t0, I_ t1, I_ t2, P_ t3] := by
  unfold b_X8_workNode_196 at h
  refine g_iadd (pc := 196) K dX8_workNode_196 ?_
  replace h := Option.bind_eq_some_iff.mp h
  obtain ⟨a1, rfl, h⟩ := h
  replace h := Option.bind_eq_some_iff.mp h
  obtain ⟨σ3, e2, h⟩ := h
  refine g_iast (pc := 197) K e2 dX8_workNode_197 ?_
  refine g_iinc (pc := 198) K 5 (v5 + 1) [(5, I_ ((v5 + 1))), (0, P_ (some v0)), (1, I_ v1), (2, I_ v2), (3, I_ v3), (4, I_ v4)] rfl rfl (by decide) rfl dX8_workNode_198 ?_
  refine g_goto (pc := 201) (tgt := 64) K dX8_workNode_201 (by decide) ?_
  refine g_sub K [1, 2, 3, 4, 5, 0] rfl ?_
  exact hrec64 _ _ _ _ _ _ _ _ _ h (by omega) (by omega)
def b_X8_workNode_170 (rec64 : Nat → Int32 → Int32 → Int32 → Int32 → Int32 → sw_S → Option sw_S) (v0 : Nat) (v1 : Int32) (v2 : Int32) (v3 : Int32) (v4 : Int32) (v5 : Int32) (v6 : Int32) (σ : sw_S) : Option sw_S :=
  (sw_gR 8 v0 10 σ).bind fun r1 =>
  (sw_gR 8 v0 10 σ).bind fun r3 =>
  r3.bind fun a5 =>
  (sw_al 0 a5 v2 σ).bind fun x7 =>
  (if v1 = 0 then
  b_X8_workNode_196 rec64 v0 v1 v2 v3 v4 v5 1 x7 v2 r1 σ
  else
  (sw_gR 8 v0 10 σ).bind fun r9 =>
  r9.bind fun a11 =>
  (sw_al 0 a11 v6 σ).bind fun x13 =>
  b_X8_workNode_196 rec64 v0 v1 v2 v3 v4 v5 x13 x7 v2 r1 σ)
set_option maxHeartbeats 4000000 in
set_option maxRecDepth 100000 in
theorem w_X8_workNode_170 {p : Program} {l : Launch} {e : Env} {s : State} {m : MethodId} {args : Array Value} {below : List Frame} {meth : Method} {c : Code} {Q : State → Prop} {A : Nat → Prop} {D : va_G} {cT : Nat → ClassId} {σ' : sw_S}  (K : sw_C p s m args c cX8_workNode 7 RX8 A D cT) (hT : sw_Tv cX8_workNode p l e (sw_R 1 0 0 22) s m args below meth c Q 7 A D cT 0 0 σ') {rec64 : Nat → Int32 → Int32 → Int32 → Int32 → Int32 → sw_S → Option sw_S} (hrec64 : ∀ (v0 : Nat) (v1 : Int32) (v2 : Int32) (v3 : Int32) (v4 : Int32) (v5 : Int32) (σ : sw_S) (ce sl : Nat), rec64 v0 v1 v2 v3 v4 v5 σ = some σ' → ce + (0) ≤ 0 → sl + (0) ≤ 0 → sw_G p l e (sw_R 1 0 0 22) s m args below meth c Q 7 A D cT σ ce sl 64 [(0, P_ (some v0)), (1, I_ v1), (2, I_ v2), (3, I_ v3), (4, I_ v4), (5, I_ v5)] []) (v0 : Nat) (v1 : Int32) (v2 : Int32) (v3 : Int32) (v4 : Int32) (v5 : Int32) (v6 : Int32) (σ : sw_S)  (ce sl : Nat) (h : b_X8_workNode_170 rec64 v0 v1 v2 v3 v4 v5 v6 σ = some σ') (hce : ce + (0) ≤ 0) (hsl : sl + (0) ≤ 0) : sw_G p l e (sw_R 1 0 0 22) s m args below meth c Q 7 A D cT σ ce sl 170 [(0, P_ (some v0)), (1, I_ v1), (2, I_ v2), (3, I_ v3), (4, I_ v4), (5, I_ v5), (6, I_ v6)] [] := by
  unfold b_X8_workNode_170 at h
  refine g_aload_n (pc := 170) K 0 rfl rfl dX8_workNode_170 ?_
  replace h := Option.bind_eq_some_iff.mp h
  obtain ⟨r1, e2, h⟩ := h
  refine g_getR (pc := 171) K cl_8 hin_X8 (k := 10) (by decide) tb_528 rfl e2 dX8_workNode_171 ?_
  refine g_iload_n (pc := 174) K 2 rfl rfl dX8_workNode_174 ?_
  refine g_aload_n (pc := 175) K 0 rfl rfl dX8_workNode_175 ?_
  replace h := Option.bind_eq_some_iff.mp h
  obtain ⟨r3, e4, h⟩ := h
  refine g_getR (pc := 176) K cl_8 hin_X8 (k := 10) (by decide) tb_528 rfl e4 dX8_workNode_176 ?_
  refine g_iload_n (pc := 179) K 2 rfl rfl dX8_workNode_179 ?_
  replace h := Option.bind_eq_some_iff.mp h
  obtain ⟨a5, rfl, h⟩ := h
  replace h := Option.bind_eq_some_iff.mp h
  obtain ⟨x7, e6, h⟩ := h
  refine g_iald (pc := 180) K e6 dX8_workNode_180 ?_
  refine g_iload_n (pc := 181) K 1 rfl rfl dX8_workNode_181 ?_
  refine g_if_ne (pc := 182) K 189 dX8_workNode_182 (by decide) (fun c8 => ?_) (fun c8 => ?_)
  · replace h := (if_pos c8).symm.trans h
    refine g_iconst (pc := 185) (v := 1) K dX8_workNode_185 (by decide) ?_
    refine g_goto (pc := 186) (tgt := 196) K dX8_workNode_186 (by decide) ?_
    refine g_sub K [0, 1, 2, 3, 4, 5] rfl ?_
    exact w_X8_workNode_196 K hT hrec64  _ _ _ _ _ _ _ _ _ _ _ _ _ h (by omega) (by omega)
  · replace h := (if_neg c8).symm.trans h
    refine g_aload_n (pc := 189) K 0 rfl rfl dX8_workNode_189 ?_
    replace h := Option.bind_eq_some_iff.mp h
    obtain ⟨r9, e10, h⟩ := h
    refine g_getR (pc := 190) K cl_8 hin_X8 (k := 10) (by decide) tb_528 rfl e10 dX8_workNode_190 ?_
    refine g_iload (pc := 193) K 6 rfl dX8_workNode_193 ?_
    replace h := Option.bind_eq_some_iff.mp h
    obtain ⟨a11, rfl, h⟩ := h
    replace h := Option.bind_eq_some_iff.mp h
    obtain ⟨x13, e12, h⟩ := h
    refine g_iald (pc := 195) K e12 dX8_workNode_195 ?_
    refine g_sub K [0, 1, 2, 3, 4, 5] rfl ?_
    exact w_X8_workNode_196 K hT hrec64  _ _ _ _ _ _ _ _ _ _ _ _ _ h (by omega) (by omega)
def b_X8_workNode_98 (rec64 : Nat → Int32 → Int32 → Int32 → Int32 → Int32 → sw_S → Option sw_S) (v0 : Nat) (v1 : Int32) (v2 : Int32) (v3 : Int32) (v4 : Int32) (v5 : Int32) (t0 : Int32) (σ : sw_S) : Option sw_S :=
  (if v1 = 0 then
  (sw_gR 8 v0 3 σ).bind fun r2 =>
  r2.bind fun a4 =>
  (sw_al 0 a4 t0 σ).bind fun x6 =>
  (f_X8_add v4 x6 σ).bind fun x8 =>
  (sw_gR 8 v0 4 σ).bind fun r9 =>
  r9.bind fun a11 =>
  (sw_al 0 a11 t0 σ).bind fun x13 =>
  (f_X8_add x8 x13 σ).bind fun x15 =>
  b_X8_workNode_170 rec64 v0 v1 v2 v3 x15 v5 t0 σ
  else
  (sw_gR 8 v0 3 σ).bind fun r16 =>
  (sw_gR 8 v0 9 σ).bind fun r18 =>
  r18.bind fun a20 =>
  (sw_al 0 a20 t0 σ).bind fun x22 =>
  r16.bind fun a23 =>
  (sw_al 0 a23 x22 σ).bind fun x25 =>
  (f_X8_add v4 x25 σ).bind fun x27 =>
  (sw_gR 8 v0 8 σ).bind fun r28 =>
  r28.bind fun a30 =>
  (sw_al 0 a30 t0 σ).bind fun x32 =>
  (f_X8_add x27 x32 σ).bind fun x34 =>
  (sw_gR 8 v0 10 σ).bind fun r35 =>
  r35.bind fun a37 =>
  (sw_al 0 a37 t0 σ).bind fun x39 =>
  (f_X8_add x34 x39 σ).bind fun x41 =>
  b_X8_workNode_170 rec64 v0 v1 v2 v3 x41 v5 t0 σ)
set_option maxHeartbeats 4000000 in
set_option maxRecDepth 100000 in
theorem w_X8_workNode_98 {p : Program} {l : Launch} {e : Env} {s : State} {m : MethodId} {args : Array Value} {below : List Frame} {meth : Method} {c : Code} {Q : State → Prop} {A : Nat → Prop} {D : va_G} {cT : Nat → ClassId} {σ' : sw_S}  (K : sw_C p s m args c cX8_workNode 7 RX8 A D cT) (hT : sw_Tv cX8_workNode p l e (sw_R 1 0 0 22) s m args below meth c Q 7 A D cT 0 0 σ') {rec64 : Nat → Int32 → Int32 → Int32 → Int32 → Int32 → sw_S → Option sw_S} (hrec64 : ∀ (v0 : Nat) (v1 : Int32) (v2 : Int32) (v3 : Int32) (v4 : Int32) (v5 : Int32) (σ : sw_S) (ce sl : Nat), rec64 v0 v1 v2 v3 v4 v5 σ = some σ' → ce + (0) ≤ 0 → sl + (0) ≤ 0 → sw_G p l e (sw_R 1 0 0 22) s m args below meth c Q 7 A D cT σ ce sl 64 [(0, P_ (some v0)), (1, I_ v1), (2, I_ v2), (3, I_ v3), (4, I_ v4), (5, I_ v5)] []) (v0 : Nat) (v1 : Int32) (v2 : Int32) (v3 : Int32) (v4 : Int32) (v5 : Int32) (t0 : Int32) (σ : sw_S)  (ce sl : Nat) (h : b_X8_workNode_98 rec64 v0 v1 v2 v3 v4 v5 t0 σ = some σ') (hce : ce + (0) ≤ 0) (hsl : sl + (0) ≤ 0) : sw_G p l e (sw_R 1 0 0 22) s m args below meth c Q 7 A D cT σ ce sl 98 [(0, P_ (some v0)), (1, I_ v1), (2, I_ v2), (3, I_ v3), (4, I_ v4), (5, I_ v5)] [I_ t0] := by
  unfold b_X8_workNode_98 at h
  refine g_istore (pc := 98) K [(6, I_ t0), (0, P_ (some v0)), (1, I_ v1), (2, I_ v2), (3, I_ v3), (4, I_ v4), (5, I_ v5)] (by decide) rfl dX8_workNode_98 ?_
  refine g_iload_n (pc := 100) K 2 rfl rfl dX8_workNode_100 ?_
  refine g_if_ne (pc := 101) K 131 dX8_workNode_101 (by decide) (fun c1 => ?_) (fun c1 => ?_)
  · replace h := (if_pos c1).symm.trans h
    refine g_iload (pc := 104) K 5 rfl dX8_workNode_104 ?_
    refine g_aload_n (pc := 106) K 1 rfl rfl dX8_workNode_106 ?_
    replace h := Option.bind_eq_some_iff.mp h
    obtain ⟨r2, e3, h⟩ := h
    refine g_getR (pc := 107) K cl_8 hin_X8 (k := 3) (by decide) tb_521 rfl e3 dX8_workNode_107 ?_
    refine g_iload (pc := 110) K 0 rfl dX8_workNode_110 ?_
    replace h := Option.bind_eq_some_iff.mp h
    obtain ⟨a4, rfl, h⟩ := h
    replace h := Option.bind_eq_some_iff.mp h
    obtain ⟨x6, e5, h⟩ := h
    refine g_iald (pc := 112) K e5 dX8_workNode_112 ?_
    replace h := Option.bind_eq_some_iff.mp h
    obtain ⟨x8, e7, h⟩ := h
    refine g_callS (pc := 113) (st := []) K [I_ v4, I_ x6] (c_X8_add _ _ _ _ _ _ e7) tb_516 tb_514 tb_7 tb_515 hd_X8_add ⟨Nat.le_of_ble_eq_true rfl, Nat.le_of_ble_eq_true rfl⟩ rfl (sw_rm (Nat.le_of_ble_eq_true rfl)) ⟨by show _ ≤ 0; omega, by show _ ≤ 0; omega⟩ dX8_workNode_113 ?_
    refine g_aload_n (pc := 116) K 1 rfl rfl dX8_workNode_116 ?_
    replace h := Option.bind_eq_some_iff.mp h
    obtain ⟨r9, e10, h⟩ := h
    refine g_getR (pc := 117) K cl_8 hin_X8 (k := 4) (by decide) tb_522 rfl e10 dX8_workNode_117 ?_
    refine g_iload (pc := 120) K 0 rfl dX8_workNode_120 ?_
    replace h := Option.bind_eq_some_iff.mp h
    obtain ⟨a11, rfl, h⟩ := h
    replace h := Option.bind_eq_some_iff.mp h
    obtain ⟨x13, e12, h⟩ := h
    refine g_iald (pc := 122) K e12 dX8_workNode_122 ?_
    replace h := Option.bind_eq_some_iff.mp h
    obtain ⟨x15, e14, h⟩ := h
    refine g_callS (pc := 123) (st := []) K [I_ x8, I_ x13] (c_X8_add _ _ _ _ _ _ e14) tb_516 tb_514 tb_7 tb_515 hd_X8_add ⟨Nat.le_of_ble_eq_true rfl, Nat.le_of_ble_eq_true rfl⟩ rfl (sw_rm (Nat.le_of_ble_eq_true rfl)) ⟨by show _ ≤ 0; omega, by show _ ≤ 0; omega⟩ dX8_workNode_123 ?_
    refine g_istore (pc := 126) K [(4, I_ x15), (6, I_ t0), (0, P_ (some v0)), (1, I_ v1), (2, I_ v2), (3, I_ v3), (5, I_ v5)] (by decide) rfl dX8_workNode_126 ?_
    refine g_goto (pc := 128) (tgt := 170) K dX8_workNode_128 (by decide) ?_
    refine g_sub K [2, 3, 4, 5, 0, 6, 1] rfl ?_
    exact w_X8_workNode_170 K hT hrec64  _ _ _ _ _ _ _ _ _ _ h (by omega) (by omega)
  · replace h := (if_neg c1).symm.trans h
    refine g_iload (pc := 131) K 5 rfl dX8_workNode_131 ?_
    refine g_aload_n (pc := 133) K 1 rfl rfl dX8_workNode_133 ?_
    replace h := Option.bind_eq_some_iff.mp h
    obtain ⟨r16, e17, h⟩ := h
    refine g_getR (pc := 134) K cl_8 hin_X8 (k := 3) (by decide) tb_521 rfl e17 dX8_workNode_134 ?_
    refine g_aload_n (pc := 137) K 1 rfl rfl dX8_workNode_137 ?_
    replace h := Option.bind_eq_some_iff.mp h
    obtain ⟨r18, e19, h⟩ := h
    refine g_getR (pc := 138) K cl_8 hin_X8 (k := 9) (by decide) tb_527 rfl e19 dX8_workNode_138 ?_
    refine g_iload (pc := 141) K 0 rfl dX8_workNode_141 ?_
    replace h := Option.bind_eq_some_iff.mp h
    obtain ⟨a20, rfl, h⟩ := h
    replace h := Option.bind_eq_some_iff.mp h
    obtain ⟨x22, e21, h⟩ := h
    refine g_iald (pc := 143) K e21 dX8_workNode_143 ?_
    replace h := Option.bind_eq_some_iff.mp h
    obtain ⟨a23, rfl, h⟩ := h
    replace h := Option.bind_eq_some_iff.mp h
    obtain ⟨x25, e24, h⟩ := h
    refine g_iald (pc := 144) K e24 dX8_workNode_144 ?_
    replace h := Option.bind_eq_some_iff.mp h
    obtain ⟨x27, e26, h⟩ := h
    refine g_callS (pc := 145) (st := []) K [I_ v4, I_ x25] (c_X8_add _ _ _ _ _ _ e26) tb_516 tb_514 tb_7 tb_515 hd_X8_add ⟨Nat.le_of_ble_eq_true rfl, Nat.le_of_ble_eq_true rfl⟩ rfl (sw_rm (Nat.le_of_ble_eq_true rfl)) ⟨by show _ ≤ 0; omega, by show _ ≤ 0; omega⟩ dX8_workNode_145 ?_
    refine g_aload_n (pc := 148) K 1 rfl rfl dX8_workNode_148 ?_
    replace h := Option.bind_eq_some_iff.mp h
    obtain ⟨r28, e29, h⟩ := h
    refine g_getR (pc := 149) K cl_8 hin_X8 (k := 8) (by decide) tb_526 rfl e29 dX8_workNode_149 ?_
    refine g_iload (pc := 152) K 0 rfl dX8_workNode_152 ?_
    replace h := Option.bind_eq_some_iff.mp h
    obtain ⟨a30, rfl, h⟩ := h
    replace h := Option.bind_eq_some_iff.mp h
    obtain ⟨x32, e31, h⟩ := h
    refine g_iald (pc := 154) K e31 dX8_workNode_154 ?_
    replace h := Option.bind_eq_some_iff.mp h
    obtain ⟨x34, e33, h⟩ := h
    refine g_callS (pc := 155) (st := []) K [I_ x27, I_ x32] (c_X8_add _ _ _ _ _ _ e33) tb_516 tb_514 tb_7 tb_515 hd_X8_add ⟨Nat.le_of_ble_eq_true rfl, Nat.le_of_ble_eq_true rfl⟩ rfl (sw_rm (Nat.le_of_ble_eq_true rfl)) ⟨by show _ ≤ 0; omega, by show _ ≤ 0; omega⟩ dX8_workNode_155 ?_
    refine g_aload_n (pc := 158) K 1 rfl rfl dX8_workNode_158 ?_
    replace h := Option.bind_eq_some_iff.mp h
    obtain ⟨r35, e36, h⟩ := h
    refine g_getR (pc := 159) K cl_8 hin_X8 (k := 10) (by decide) tb_528 rfl e36 dX8_workNode_159 ?_
    refine g_iload (pc := 162) K 0 rfl dX8_workNode_162 ?_
    replace h := Option.bind_eq_some_iff.mp h
    obtain ⟨a37, rfl, h⟩ := h
    replace h := Option.bind_eq_some_iff.mp h
    obtain ⟨x39, e38, h⟩ := h
    refine g_iald (pc := 164) K e38 dX8_workNode_164 ?_
    replace h := Option.bind_eq_some_iff.mp h
    obtain ⟨x41, e40, h⟩ := h
    refine g_callS (pc := 165) (st := []) K [I_ x34, I_ x39] (c_X8_add _ _ _ _ _ _ e40) tb_516 tb_514 tb_7 tb_515 hd_X8_add ⟨Nat.le_of_ble_eq_true rfl, Nat.le_of_ble_eq_true rfl⟩ rfl (sw_rm (Nat.le_of_ble_eq_true rfl)) ⟨by show _ ≤ 0; omega, by show _ ≤ 0; omega⟩ dX8_workNode_165 ?_
    refine g_istore (pc := 168) K [(4, I_ x41), (6, I_ t0), (0, P_ (some v0)), (1, I_ v1), (2, I_ v2), (3, I_ v3), (5, I_ v5)] (by decide) rfl dX8_workNode_168 ?_
    refine g_sub K [2, 3, 4, 5, 0, 6, 1] rfl ?_
    exact w_X8_workNode_170 K hT hrec64  _ _ _ _ _ _ _ _ _ _ h (by omega) (by omega)
def B_X8_workNode_64 (rec64 : Nat → Int32 → Int32 → Int32 → Int32 → Int32 → sw_S → Option sw_S) (v0 : Nat) (v1 : Int32) (v2 : Int32) (v3 : Int32) (v4 : Int32) (v5 : Int32) (σ : sw_S) : Option sw_S :=
  (sw_gR 8 v0 6 σ).bind fun r1 =>
  r1.bind fun a3 =>
  (sw_al 0 a3 v2 σ).bind fun x5 =>
  (if ((v3 + x5)) ≤ v5 then
  (sw_gR 8 v0 8 σ).bind fun r7 =>
  r7.bind fun a9 =>
  (sw_as 0 a9 v2 v4 σ).bind fun σ11 =>
  some σ11
  else
  (if v1 = 0 then
  b_X8_workNode_98 rec64 v0 v1 v2 v3 v4 v5 v5 σ
  else
  b_X8_workNode_98 rec64 v0 v1 v2 v3 v4 v5 ((((((v2 - ((v2 - v2 / 64 * 64)))) - 64)) + v5)) σ))
set_option maxHeartbeats 4000000 in
set_option maxRecDepth 100000 in
theorem wB_X8_workNode_64 {p : Program} {l : Launch} {e : Env} {s : State} {m : MethodId} {args : Array Value} {below : List Frame} {meth : Method} {c : Code} {Q : State → Prop} {A : Nat → Prop} {D : va_G} {cT : Nat → ClassId} {σ' : sw_S}  (K : sw_C p s m args c cX8_workNode 7 RX8 A D cT) (hT : sw_Tv cX8_workNode p l e (sw_R 1 0 0 22) s m args below meth c Q 7 A D cT 0 0 σ') {rec64 : Nat → Int32 → Int32 → Int32 → Int32 → Int32 → sw_S → Option sw_S} (hrec64 : ∀ (v0 : Nat) (v1 : Int32) (v2 : Int32) (v3 : Int32) (v4 : Int32) (v5 : Int32) (σ : sw_S) (ce sl : Nat), rec64 v0 v1 v2 v3 v4 v5 σ = some σ' → ce + (0) ≤ 0 → sl + (0) ≤ 0 → sw_G p l e (sw_R 1 0 0 22) s m args below meth c Q 7 A D cT σ ce sl 64 [(0, P_ (some v0)), (1, I_ v1), (2, I_ v2), (3, I_ v3), (4, I_ v4), (5, I_ v5)] []) (v0 : Nat) (v1 : Int32) (v2 : Int32) (v3 : Int32) (v4 : Int32) (v5 : Int32) (σ : sw_S)  (ce sl : Nat) (h : B_X8_workNode_64 rec64 v0 v1 v2 v3 v4 v5 σ = some σ') (hce : ce + (0) ≤ 0) (hsl : sl + (0) ≤ 0) : sw_G p l e (sw_R 1 0 0 22) s m args below meth c Q 7 A D cT σ ce sl 64 [(0, P_ (some v0)), (1, I_ v1), (2, I_ v2), (3, I_ v3), (4, I_ v4), (5, I_ v5)] [] := by
  unfold B_X8_workNode_64 at h
  refine g_iload (pc := 64) K 5 rfl dX8_workNode_64 ?_
  refine g_iload_n (pc := 66) K 3 rfl rfl dX8_workNode_66 ?_
  refine g_aload_n (pc := 67) K 0 rfl rfl dX8_workNode_67 ?_
  replace h := Option.bind_eq_some_iff.mp h
  obtain ⟨r1, e2, h⟩ := h
  refine g_getR (pc := 68) K cl_8 hin_X8 (k := 6) (by decide) tb_524 rfl e2 dX8_workNode_68 ?_
  refine g_iload_n (pc := 71) K 2 rfl rfl dX8_workNode_71 ?_
  replace h := Option.bind_eq_some_iff.mp h
  obtain ⟨a3, rfl, h⟩ := h
  replace h := Option.bind_eq_some_iff.mp h
  obtain ⟨x5, e4, h⟩ := h
  refine g_iald (pc := 72) K e4 dX8_workNode_72 ?_
  refine g_iadd (pc := 73) K dX8_workNode_73 ?_
  refine g_icmp_ge (pc := 74) K 204 dX8_workNode_74 (by decide) (fun c6 => ?_) (fun c6 => ?_)
  · replace h := (if_pos c6).symm.trans h
    refine g_aload_n (pc := 204) K 0 rfl rfl dX8_workNode_204 ?_
    replace h := Option.bind_eq_some_iff.mp h
    obtain ⟨r7, e8, h⟩ := h
    refine g_getR (pc := 205) K cl_8 hin_X8 (k := 8) (by decide) tb_526 rfl e8 dX8_workNode_205 ?_
    refine g_iload_n (pc := 208) K 2 rfl rfl dX8_workNode_208 ?_
    refine g_iload (pc := 209) K 4 rfl dX8_workNode_209 ?_
    replace h := Option.bind_eq_some_iff.mp h
    obtain ⟨a9, rfl, h⟩ := h
    replace h := Option.bind_eq_some_iff.mp h
    obtain ⟨σ11, e10, h⟩ := h
    refine g_iast (pc := 211) K e10 dX8_workNode_211 ?_
    cases h
    exact hT _ _ 212 _ (by omega) (by omega) dX8_workNode_212
  · replace h := (if_neg c6).symm.trans h
    refine g_iload_n (pc := 77) K 1 rfl rfl dX8_workNode_77 ?_
    refine g_if_ne (pc := 78) K 86 dX8_workNode_78 (by decide) (fun c12 => ?_) (fun c12 => ?_)
    · replace h := (if_pos c12).symm.trans h
      refine g_iload (pc := 81) K 5 rfl dX8_workNode_81 ?_
      refine g_goto (pc := 83) (tgt := 98) K dX8_workNode_83 (by decide) ?_
      refine g_sub K [0, 1, 2, 3, 4, 5] rfl ?_
      exact w_X8_workNode_98 K hT hrec64  _ _ _ _ _ _ _ _ _ _ h (by omega) (by omega)
    · replace h := (if_neg c12).symm.trans h
      refine g_iload_n (pc := 86) K 2 rfl rfl dX8_workNode_86 ?_
      refine g_iload_n (pc := 87) K 2 rfl rfl dX8_workNode_87 ?_
      refine g_bipush (pc := 88) (v := 64) K dX8_workNode_88 (by decide) ?_
      refine g_irem (pc := 90) K dX8_workNode_90 (by decide) ?_
      refine g_isub (pc := 91) K dX8_workNode_91 ?_
      refine g_bipush (pc := 92) (v := 64) K dX8_workNode_92 (by decide) ?_
      refine g_isub (pc := 94) K dX8_workNode_94 ?_
      refine g_iload (pc := 95) K 5 rfl dX8_workNode_95 ?_
      refine g_iadd (pc := 97) K dX8_workNode_97 ?_
      refine g_sub K [0, 1, 2, 3, 4, 5] rfl ?_
      exact w_X8_workNode_98 K hT hrec64  _ _ _ _ _ _ _ _ _ _ h (by omega) (by omega)
def b_X8_workNode_64  : Nat → Nat → Int32 → Int32 → Int32 → Int32 → Int32 → sw_S → Option sw_S
  | 0 => fun _ _ _ _ _ _ _ => none
  | n + 1 => B_X8_workNode_64 (b_X8_workNode_64  n)
theorem wl_X8_workNode_64 {p : Program} {l : Launch} {e : Env} {s : State} {m : MethodId} {args : Array Value} {below : List Frame} {meth : Method} {c : Code} {Q : State → Prop} {A : Nat → Prop} {D : va_G} {cT : Nat → ClassId} {σ' : sw_S}  (K : sw_C p s m args c cX8_workNode 7 RX8 A D cT) (hT : sw_Tv cX8_workNode p l e (sw_R 1 0 0 22) s m args below meth c Q 7 A D cT 0 0 σ') : ∀ (n : Nat) (v0 : Nat) (v1 : Int32) (v2 : Int32) (v3 : Int32) (v4 : Int32) (v5 : Int32) (σ : sw_S) (ce sl : Nat), b_X8_workNode_64  n v0 v1 v2 v3 v4 v5 σ = some σ' → ce + (0) ≤ 0 → sl + (0) ≤ 0 → sw_G p l e (sw_R 1 0 0 22) s m args below meth c Q 7 A D cT σ ce sl 64 [(0, P_ (some v0)), (1, I_ v1), (2, I_ v2), (3, I_ v3), (4, I_ v4), (5, I_ v5)] [] := by
  intro n
  induction n with
  | zero =>
    intro v0 v1 v2 v3 v4 v5 σ ce sl h
    exact absurd (show none = some σ' from h) (by simp)
  | succ n ih =>
    intro v0 v1 v2 v3 v4 v5 σ ce sl h hce hsl
    exact wB_X8_workNode_64 K hT (fun _ _ _ _ _ _ _ _ _ h h1 h2 => ih _ _ _ _ _ _ _ _ _ h h1 h2) _ _ _ _ _ _ _ _ _ h hce hsl
def b_X8_workNode_53 (v0 : Nat) (v1 : Int32) (v2 : Int32) (v3 : Int32) (v4 : Int32) (t0 : Int32) (t1 : Int32) (t2 : Option Nat) (σ : sw_S) : Option sw_S :=
  t2.bind fun a1 =>
  (sw_as 0 a1 t1 t0 σ).bind fun σ3 =>
  (sw_gR 8 v0 10 σ3).bind fun r4 =>
  r4.bind fun a6 =>
  (sw_as 0 a6 v2 0 σ3).bind fun σ8 =>
  b_X8_workNode_64 1000 v0 v1 v2 v3 v4 v3 σ8
set_option maxHeartbeats 4000000 in
set_option maxRecDepth 100000 in
theorem w_X8_workNode_53 {p : Program} {l : Launch} {e : Env} {s : State} {m : MethodId} {args : Array Value} {below : List Frame} {meth : Method} {c : Code} {Q : State → Prop} {A : Nat → Prop} {D : va_G} {cT : Nat → ClassId} {σ' : sw_S}  (K : sw_C p s m args c cX8_workNode 7 RX8 A D cT) (hT : sw_Tv cX8_workNode p l e (sw_R 1 0 0 22) s m args below meth c Q 7 A D cT 0 0 σ') (v0 : Nat) (v1 : Int32) (v2 : Int32) (v3 : Int32) (v4 : Int32) (t0 : Int32) (t1 : Int32) (t2 : Option Nat) (σ : sw_S)  (ce sl : Nat) (h : b_X8_workNode_53 v0 v1 v2 v3 v4 t0 t1 t2 σ = some σ') (hce : ce + (0) ≤ 0) (hsl : sl + (0) ≤ 0) : sw_G p l e (sw_R 1 0 0 22) s m args below meth c Q 7 A D cT σ ce sl 53 [(0, P_ (some v0)), (1, I_ v1), (2, I_ v2), (3, I_ v3), (4, I_ v4)] [I_ t0, I_ t1, P_ t2] := by
  unfold b_X8_workNode_53 at h
  replace h := Option.bind_eq_some_iff.mp h
  obtain ⟨a1, rfl, h⟩ := h
  replace h := Option.bind_eq_some_iff.mp h
  obtain ⟨σ3, e2, h⟩ := h
  refine g_iast (pc := 53) K e2 dX8_workNode_53 ?_
  refine g_aload_n (pc := 54) K 0 rfl rfl dX8_workNode_54 ?_
  replace h := Option.bind_eq_some_iff.mp h
  obtain ⟨r4, e5, h⟩ := h
  refine g_getR (pc := 55) K cl_8 hin_X8 (k := 10) (by decide) tb_528 rfl e5 dX8_workNode_55 ?_
  refine g_iload_n (pc := 58) K 2 rfl rfl dX8_workNode_58 ?_
  refine g_iconst (pc := 59) (v := 0) K dX8_workNode_59 (by decide) ?_
  replace h := Option.bind_eq_some_iff.mp h
  obtain ⟨a6, rfl, h⟩ := h
  replace h := Option.bind_eq_some_iff.mp h
  obtain ⟨σ8, e7, h⟩ := h
  refine g_iast (pc := 60) K e7 dX8_workNode_60 ?_
  refine g_iload_n (pc := 61) K 3 rfl rfl dX8_workNode_61 ?_
  refine g_istore (pc := 62) K [(5, I_ v3), (0, P_ (some v0)), (1, I_ v1), (2, I_ v2), (3, I_ v3), (4, I_ v4)] (by decide) rfl dX8_workNode_62 ?_
  refine g_sub K [1, 2, 3, 4, 5, 0] rfl ?_
  exact wl_X8_workNode_64 K hT  1000 _ _ _ _ _ _ _ _ _ h (by omega) (by omega)
def b_X8_workNode_10 (v0 : Nat) (v1 : Int32) (v2 : Int32) (v3 : Int32) (t0 : Int32) (t1 : Int32) (σ : sw_S) : Option sw_S :=
  (f_X8_add t1 t0 σ).bind fun x2 =>
  (sw_gR 8 v0 6 σ).bind fun r3 =>
  r3.bind fun a5 =>
  (sw_al 0 a5 v2 σ).bind fun x7 =>
  (f_X8_add x2 x7 σ).bind fun x9 =>
  (sw_gR 8 v0 9 σ).bind fun r10 =>
  (if v1 = 0 then
  b_X8_workNode_53 v0 v1 v2 v3 x9 v3 v2 r10 σ
  else
  (sw_gR 8 v0 9 σ).bind fun r13 =>
  r13.bind fun a15 =>
  (sw_al 0 a15 ((((((v2 - ((v2 - v2 / 64 * 64)))) - 64)) + v3)) σ).bind fun x17 =>
  b_X8_workNode_53 v0 v1 v2 v3 x9 x17 v2 r10 σ)
set_option maxHeartbeats 4000000 in
set_option maxRecDepth 100000 in
theorem w_X8_workNode_10 {p : Program} {l : Launch} {e : Env} {s : State} {m : MethodId} {args : Array Value} {below : List Frame} {meth : Method} {c : Code} {Q : State → Prop} {A : Nat → Prop} {D : va_G} {cT : Nat → ClassId} {σ' : sw_S}  (K : sw_C p s m args c cX8_workNode 7 RX8 A D cT) (hT : sw_Tv cX8_workNode p l e (sw_R 1 0 0 22) s m args below meth c Q 7 A D cT 0 0 σ') (v0 : Nat) (v1 : Int32) (v2 : Int32) (v3 : Int32) (t0 : Int32) (t1 : Int32) (σ : sw_S)  (ce sl : Nat) (h : b_X8_workNode_10 v0 v1 v2 v3 t0 t1 σ = some σ') (hce : ce + (0) ≤ 0) (hsl : sl + (0) ≤ 0) : sw_G p l e (sw_R 1 0 0 22) s m args below meth c Q 7 A D cT σ ce sl 10 [(0, P_ (some v0)), (1, I_ v1), (2, I_ v2), (3, I_ v3)] [I_ t0, I_ t1] := by
  unfold b_X8_workNode_10 at h
  replace h := Option.bind_eq_some_iff.mp h
  obtain ⟨x2, e1, h⟩ := h
  refine g_callS (pc := 10) (st := []) K [I_ t1, I_ t0] (c_X8_add _ _ _ _ _ _ e1) tb_516 tb_514 tb_7 tb_515 hd_X8_add ⟨Nat.le_of_ble_eq_true rfl, Nat.le_of_ble_eq_true rfl⟩ rfl (sw_rm (Nat.le_of_ble_eq_true rfl)) ⟨by show _ ≤ 0; omega, by show _ ≤ 0; omega⟩ dX8_workNode_10 ?_
  refine g_aload_n (pc := 13) K 0 rfl rfl dX8_workNode_13 ?_
  replace h := Option.bind_eq_some_iff.mp h
  obtain ⟨r3, e4, h⟩ := h
  refine g_getR (pc := 14) K cl_8 hin_X8 (k := 6) (by decide) tb_524 rfl e4 dX8_workNode_14 ?_
  refine g_iload_n (pc := 17) K 2 rfl rfl dX8_workNode_17 ?_
  replace h := Option.bind_eq_some_iff.mp h
  obtain ⟨a5, rfl, h⟩ := h
  replace h := Option.bind_eq_some_iff.mp h
  obtain ⟨x7, e6, h⟩ := h
  refine g_iald (pc := 18) K e6 dX8_workNode_18 ?_
  replace h := Option.bind_eq_some_iff.mp h
  obtain ⟨x9, e8, h⟩ := h
  refine g_callS (pc := 19) (st := []) K [I_ x2, I_ x7] (c_X8_add _ _ _ _ _ _ e8) tb_516 tb_514 tb_7 tb_515 hd_X8_add ⟨Nat.le_of_ble_eq_true rfl, Nat.le_of_ble_eq_true rfl⟩ rfl (sw_rm (Nat.le_of_ble_eq_true rfl)) ⟨by show _ ≤ 0; omega, by show _ ≤ 0; omega⟩ dX8_workNode_19 ?_
  refine g_istore (pc := 22) K [(4, I_ x9), (0, P_ (some v0)), (1, I_ v1), (2, I_ v2), (3, I_ v3)] (by decide) rfl dX8_workNode_22 ?_
  refine g_aload_n (pc := 24) K 1 rfl rfl dX8_workNode_24 ?_
  replace h := Option.bind_eq_some_iff.mp h
  obtain ⟨r10, e11, h⟩ := h
  refine g_getR (pc := 25) K cl_8 hin_X8 (k := 9) (by decide) tb_527 rfl e11 dX8_workNode_25 ?_
  refine g_iload_n (pc := 28) K 3 rfl rfl dX8_workNode_28 ?_
  refine g_iload_n (pc := 29) K 2 rfl rfl dX8_workNode_29 ?_
  refine g_if_ne (pc := 30) K 37 dX8_workNode_30 (by decide) (fun c12 => ?_) (fun c12 => ?_)
  · replace h := (if_pos c12).symm.trans h
    refine g_iload_n (pc := 33) K 4 rfl rfl dX8_workNode_33 ?_
    refine g_goto (pc := 34) (tgt := 53) K dX8_workNode_34 (by decide) ?_
    refine g_sub K [1, 2, 3, 4, 0] rfl ?_
    exact w_X8_workNode_53 K hT  _ _ _ _ _ _ _ _ _ _ _ h (by omega) (by omega)
  · replace h := (if_neg c12).symm.trans h
    refine g_aload_n (pc := 37) K 1 rfl rfl dX8_workNode_37 ?_
    replace h := Option.bind_eq_some_iff.mp h
    obtain ⟨r13, e14, h⟩ := h
    refine g_getR (pc := 38) K cl_8 hin_X8 (k := 9) (by decide) tb_527 rfl e14 dX8_workNode_38 ?_
    refine g_iload_n (pc := 41) K 3 rfl rfl dX8_workNode_41 ?_
    refine g_iload_n (pc := 42) K 3 rfl rfl dX8_workNode_42 ?_
    refine g_bipush (pc := 43) (v := 64) K dX8_workNode_43 (by decide) ?_
    refine g_irem (pc := 45) K dX8_workNode_45 (by decide) ?_
    refine g_isub (pc := 46) K dX8_workNode_46 ?_
    refine g_bipush (pc := 47) (v := 64) K dX8_workNode_47 (by decide) ?_
    refine g_isub (pc := 49) K dX8_workNode_49 ?_
    refine g_iload_n (pc := 50) K 4 rfl rfl dX8_workNode_50 ?_
    refine g_iadd (pc := 51) K dX8_workNode_51 ?_
    replace h := Option.bind_eq_some_iff.mp h
    obtain ⟨a15, rfl, h⟩ := h
    replace h := Option.bind_eq_some_iff.mp h
    obtain ⟨x17, e16, h⟩ := h
    refine g_iald (pc := 52) K e16 dX8_workNode_52 ?_
    refine g_sub K [1, 2, 3, 4, 0] rfl ?_
    exact w_X8_workNode_53 K hT  _ _ _ _ _ _ _ _ _ _ _ h (by omega) (by omega)
def f_X8_workNode (p0 : Nat) (q1 : Int32) (q2 : Int32) (q3 : Int32) (σ : sw_S) : Option sw_S :=
  (if q1 = 0 then
  b_X8_workNode_10 p0 q1 q2 q3 1 1 σ
  else
  b_X8_workNode_10 p0 q1 q2 q3 2 1 σ)
set_option maxHeartbeats 4000000 in
set_option maxRecDepth 100000 in
theorem c_X8_workNode  (l : Launch) (D : va_G) (cT : Nat → ClassId) (p0 : Nat) (q1 : Int32) (q2 : Int32) (q3 : Int32) (σ : sw_S) {σ' : sw_S} (h : f_X8_workNode p0 q1 q2 q3 σ = some σ') : sw_M l D cT yX8_workNode cX8_workNode 7 none 1 22 0 0 σ [P_ (some p0), I_ q1, I_ q2, I_ q3] none σ' := by
  refine sw_met_v (by decide) (Nat.le_of_ble_eq_true rfl) (fun p e s m args below meth c A Q K hnm hT => ?_)
  have hce : 0 + 0 ≤ 0 := Nat.le_of_ble_eq_true rfl
  have hsl : 0 + 0 ≤ 0 := Nat.le_of_ble_eq_true rfl
  unfold f_X8_workNode at h
  change sw_G p l e (sw_R 1 0 0 22) s m args below meth c Q 7 A D cT σ 0 0 0 [(0, P_ (some p0)), (1, I_ q1), (2, I_ q2), (3, I_ q3)] []
  refine g_iconst (pc := 0) (v := 1) K dX8_workNode_0 (by decide) ?_
  refine g_iload_n (pc := 1) K 1 rfl rfl dX8_workNode_1 ?_
  refine g_if_ne (pc := 2) K 9 dX8_workNode_2 (by decide) (fun c1 => ?_) (fun c1 => ?_)
  · replace h := (if_pos c1).symm.trans h
    refine g_iconst (pc := 5) (v := 1) K dX8_workNode_5 (by decide) ?_
    refine g_goto (pc := 6) (tgt := 10) K dX8_workNode_6 (by decide) ?_
    refine g_sub K [0, 1, 2, 3] rfl ?_
    exact w_X8_workNode_10 K hT  _ _ _ _ _ _ _ _ _ h (by omega) (by omega)
  · replace h := (if_neg c1).symm.trans h
    refine g_iconst (pc := 9) (v := 2) K dX8_workNode_9 (by decide) ?_
    refine g_sub K [0, 1, 2, 3] rfl ?_
    exact w_X8_workNode_10 K hT  _ _ _ _ _ _ _ _ _ h (by omega) (by omega)

def B_X8_work_14 (rec2 : Nat → Int32 → sw_S → Option sw_S) (rec14 : Nat → Int32 → Int32 → Int32 → sw_S → Option sw_S) (v0 : Nat) (v1 : Int32) (v2 : Int32) (v3 : Int32) (σ : sw_S) : Option sw_S :=
  (sw_gR 8 v0 7 σ).bind fun r1 =>
  r1.bind fun a3 =>
  (sw_al 0 a3 v1 σ).bind fun x5 =>
  (if x5 ≤ v3 then
  rec2 v0 ((v1 + 1)) σ
  else
  (sw_ob 8 v0 σ).bind fun f7 =>
  (f_X8_workNode v0 v1 ((((64 * v1)) + v3)) v2 σ).bind fun σ10 =>
  (sw_gR 8 v0 6 σ10).bind fun r11 =>
  r11.bind fun a13 =>
  (sw_al 0 a13 ((((64 * v1)) + v3)) σ10).bind fun x15 =>
  rec14 v0 v1 ((v2 + x15)) ((v3 + 1)) σ10)
set_option maxHeartbeats 4000000 in
set_option maxRecDepth 100000 in
theorem wB_X8_work_14 {p : Program} {l : Launch} {e : Env} {s : State} {m : MethodId} {args : Array Value} {below : List Frame} {meth : Method} {c : Code} {Q : State → Prop} {A : Nat → Prop} {D : va_G} {cT : Nat → ClassId} {σ' : sw_S}  (K : sw_C p s m args c cX8_work 5 RX8 A D cT) (hT : sw_Tv cX8_work p l e (sw_R 2 0 0 48) s m args below meth c Q 5 A D cT 0 0 σ') {rec2 : Nat → Int32 → sw_S → Option sw_S} {rec14 : Nat → Int32 → Int32 → Int32 → sw_S → Option sw_S} (hrec2 : ∀ (v0 : Nat) (v1 : Int32) (σ : sw_S) (ce sl : Nat), rec2 v0 v1 σ = some σ' → ce + (0) ≤ 0 → sl + (0) ≤ 0 → sw_G p l e (sw_R 2 0 0 48) s m args below meth c Q 5 A D cT σ ce sl 2 [(0, P_ (some v0)), (1, I_ v1)] []) (hrec14 : ∀ (v0 : Nat) (v1 : Int32) (v2 : Int32) (v3 : Int32) (σ : sw_S) (ce sl : Nat), rec14 v0 v1 v2 v3 σ = some σ' → ce + (0) ≤ 0 → sl + (0) ≤ 0 → sw_G p l e (sw_R 2 0 0 48) s m args below meth c Q 5 A D cT σ ce sl 14 [(0, P_ (some v0)), (1, I_ v1), (2, I_ v2), (3, I_ v3)] []) (v0 : Nat) (v1 : Int32) (v2 : Int32) (v3 : Int32) (σ : sw_S)  (ce sl : Nat) (h : B_X8_work_14 rec2 rec14 v0 v1 v2 v3 σ = some σ') (hce : ce + (0) ≤ 0) (hsl : sl + (0) ≤ 0) : sw_G p l e (sw_R 2 0 0 48) s m args below meth c Q 5 A D cT σ ce sl 14 [(0, P_ (some v0)), (1, I_ v1), (2, I_ v2), (3, I_ v3)] [] := by
  unfold B_X8_work_14 at h
  refine g_iload_n (pc := 14) K 3 rfl rfl dX8_work_14 ?_
  refine g_aload_n (pc := 15) K 0 rfl rfl dX8_work_15 ?_
  replace h := Option.bind_eq_some_iff.mp h
  obtain ⟨r1, e2, h⟩ := h
  refine g_getR (pc := 16) K cl_8 hin_X8 (k := 7) (by decide) tb_525 rfl e2 dX8_work_16 ?_
  refine g_iload_n (pc := 19) K 1 rfl rfl dX8_work_19 ?_
  replace h := Option.bind_eq_some_iff.mp h
  obtain ⟨a3, rfl, h⟩ := h
  replace h := Option.bind_eq_some_iff.mp h
  obtain ⟨x5, e4, h⟩ := h
  refine g_iald (pc := 20) K e4 dX8_work_20 ?_
  refine g_icmp_ge (pc := 21) K 56 dX8_work_21 (by decide) (fun c6 => ?_) (fun c6 => ?_)
  · replace h := (if_pos c6).symm.trans h
    refine g_iinc (pc := 56) K 1 (v1 + 1) [(1, I_ ((v1 + 1))), (0, P_ (some v0)), (2, I_ v2), (3, I_ v3)] rfl rfl (by decide) rfl dX8_work_56 ?_
    refine g_goto (pc := 59) (tgt := 2) K dX8_work_59 (by decide) ?_
    refine g_sub K [1, 0] rfl ?_
    exact hrec2 _ _ _ _ _ h (by omega) (by omega)
  · replace h := (if_neg c6).symm.trans h
    refine g_bipush (pc := 24) (v := 64) K dX8_work_24 (by decide) ?_
    refine g_iload_n (pc := 26) K 1 rfl rfl dX8_work_26 ?_
    refine g_imul (pc := 27) K dX8_work_27 ?_
    refine g_iload_n (pc := 28) K 3 rfl rfl dX8_work_28 ?_
    refine g_iadd (pc := 29) K dX8_work_29 ?_
    refine g_istore (pc := 30) K [(4, I_ ((((64 * v1)) + v3))), (0, P_ (some v0)), (1, I_ v1), (2, I_ v2), (3, I_ v3)] (by decide) rfl dX8_work_30 ?_
    refine g_aload_n (pc := 32) K 1 rfl rfl dX8_work_32 ?_
    refine g_iload_n (pc := 33) K 2 rfl rfl dX8_work_33 ?_
    refine g_iload (pc := 34) K 0 rfl dX8_work_34 ?_
    refine g_iload_n (pc := 36) K 3 rfl rfl dX8_work_36 ?_
    replace h := Option.bind_eq_some_iff.mp h
    obtain ⟨f7, e8, h⟩ := h
    replace h := Option.bind_eq_some_iff.mp h
    obtain ⟨σ10, e9, h⟩ := h
    refine g_callV (pc := 37) (st := []) K [I_ v1, I_ ((((64 * v1)) + v3)), I_ v2] (c_X8_workNode _ _ _ _ _ _ _ _ e9) e8 cl_8 rfl tb_513 tb_510 tb_7 tb_512 sl_27 hd_X8_workNode ⟨Nat.le_of_ble_eq_true rfl, Nat.le_of_ble_eq_true rfl⟩ rfl (sw_rm (Nat.le_of_ble_eq_true rfl)) ⟨by show _ ≤ 0; omega, by show _ ≤ 0; omega⟩ dX8_work_37 ?_
    refine g_iload_n (pc := 40) K 3 rfl rfl dX8_work_40 ?_
    refine g_aload_n (pc := 41) K 1 rfl rfl dX8_work_41 ?_
    replace h := Option.bind_eq_some_iff.mp h
    obtain ⟨r11, e12, h⟩ := h
    refine g_getR (pc := 42) K cl_8 hin_X8 (k := 6) (by decide) tb_524 rfl e12 dX8_work_42 ?_
    refine g_iload (pc := 45) K 0 rfl dX8_work_45 ?_
    replace h := Option.bind_eq_some_iff.mp h
    obtain ⟨a13, rfl, h⟩ := h
    replace h := Option.bind_eq_some_iff.mp h
    obtain ⟨x15, e14, h⟩ := h
    refine g_iald (pc := 47) K e14 dX8_work_47 ?_
    refine g_iadd (pc := 48) K dX8_work_48 ?_
    refine g_istore_n (pc := 49) K [(2, I_ ((v2 + x15))), (4, I_ ((((64 * v1)) + v3))), (0, P_ (some v0)), (1, I_ v1), (3, I_ v3)] rfl (by decide) rfl dX8_work_49 ?_
    refine g_iinc (pc := 50) K 4 (v3 + 1) [(3, I_ ((v3 + 1))), (2, I_ ((v2 + x15))), (4, I_ ((((64 * v1)) + v3))), (0, P_ (some v0)), (1, I_ v1)] rfl rfl (by decide) rfl dX8_work_50 ?_
    refine g_goto (pc := 53) (tgt := 14) K dX8_work_53 (by decide) ?_
    refine g_sub K [3, 4, 1, 0] rfl ?_
    exact hrec14 _ _ _ _ _ _ _ h (by omega) (by omega)
def b_X8_work_14 (rec2 : Nat → Int32 → sw_S → Option sw_S) : Nat → Nat → Int32 → Int32 → Int32 → sw_S → Option sw_S
  | 0 => fun _ _ _ _ _ => none
  | n + 1 => B_X8_work_14 rec2 (b_X8_work_14 rec2 n)
theorem wl_X8_work_14 {p : Program} {l : Launch} {e : Env} {s : State} {m : MethodId} {args : Array Value} {below : List Frame} {meth : Method} {c : Code} {Q : State → Prop} {A : Nat → Prop} {D : va_G} {cT : Nat → ClassId} {σ' : sw_S}  (K : sw_C p s m args c cX8_work 5 RX8 A D cT) (hT : sw_Tv cX8_work p l e (sw_R 2 0 0 48) s m args below meth c Q 5 A D cT 0 0 σ') {rec2 : Nat → Int32 → sw_S → Option sw_S} (hrec2 : ∀ (v0 : Nat) (v1 : Int32) (σ : sw_S) (ce sl : Nat), rec2 v0 v1 σ = some σ' → ce + (0) ≤ 0 → sl + (0) ≤ 0 → sw_G p l e (sw_R 2 0 0 48) s m args below meth c Q 5 A D cT σ ce sl 2 [(0, P_ (some v0)), (1, I_ v1)] []) : ∀ (n : Nat) (v0 : Nat) (v1 : Int32) (v2 : Int32) (v3 : Int32) (σ : sw_S) (ce sl : Nat), b_X8_work_14 rec2 n v0 v1 v2 v3 σ = some σ' → ce + (0) ≤ 0 → sl + (0) ≤ 0 → sw_G p l e (sw_R 2 0 0 48) s m args below meth c Q 5 A D cT σ ce sl 14 [(0, P_ (some v0)), (1, I_ v1), (2, I_ v2), (3, I_ v3)] [] := by
  intro n
  induction n with
  | zero =>
    intro v0 v1 v2 v3 σ ce sl h
    exact absurd (show none = some σ' from h) (by simp)
  | succ n ih =>
    intro v0 v1 v2 v3 σ ce sl h hce hsl
    exact wB_X8_work_14 K hT hrec2 (fun _ _ _ _ _ _ _ h h1 h2 => ih _ _ _ _ _ _ _ h h1 h2) _ _ _ _ _ _ _ h hce hsl
def B_X8_work_2 (rec2 : Nat → Int32 → sw_S → Option sw_S) (v0 : Nat) (v1 : Int32) (σ : sw_S) : Option sw_S :=
  (sw_gI 8 v0 5 σ).bind fun x1 =>
  (if x1 ≤ v1 then
  some σ
  else
  b_X8_work_14 rec2 1000 v0 v1 0 0 σ)
set_option maxHeartbeats 4000000 in
set_option maxRecDepth 100000 in
theorem wB_X8_work_2 {p : Program} {l : Launch} {e : Env} {s : State} {m : MethodId} {args : Array Value} {below : List Frame} {meth : Method} {c : Code} {Q : State → Prop} {A : Nat → Prop} {D : va_G} {cT : Nat → ClassId} {σ' : sw_S}  (K : sw_C p s m args c cX8_work 5 RX8 A D cT) (hT : sw_Tv cX8_work p l e (sw_R 2 0 0 48) s m args below meth c Q 5 A D cT 0 0 σ') {rec2 : Nat → Int32 → sw_S → Option sw_S} (hrec2 : ∀ (v0 : Nat) (v1 : Int32) (σ : sw_S) (ce sl : Nat), rec2 v0 v1 σ = some σ' → ce + (0) ≤ 0 → sl + (0) ≤ 0 → sw_G p l e (sw_R 2 0 0 48) s m args below meth c Q 5 A D cT σ ce sl 2 [(0, P_ (some v0)), (1, I_ v1)] []) (v0 : Nat) (v1 : Int32) (σ : sw_S)  (ce sl : Nat) (h : B_X8_work_2 rec2 v0 v1 σ = some σ') (hce : ce + (0) ≤ 0) (hsl : sl + (0) ≤ 0) : sw_G p l e (sw_R 2 0 0 48) s m args below meth c Q 5 A D cT σ ce sl 2 [(0, P_ (some v0)), (1, I_ v1)] [] := by
  unfold B_X8_work_2 at h
  refine g_iload_n (pc := 2) K 1 rfl rfl dX8_work_2 ?_
  refine g_aload_n (pc := 3) K 0 rfl rfl dX8_work_3 ?_
  replace h := Option.bind_eq_some_iff.mp h
  obtain ⟨x1, e2, h⟩ := h
  refine g_getI (pc := 4) K cl_8 hin_X8 (k := 5) (by decide) tb_523 rfl e2 dX8_work_4 ?_
  refine g_icmp_ge (pc := 7) K 62 dX8_work_7 (by decide) (fun c3 => ?_) (fun c3 => ?_)
  · replace h := (if_pos c3).symm.trans h
    cases h
    exact hT _ _ 62 _ (by omega) (by omega) dX8_work_62
  · replace h := (if_neg c3).symm.trans h
    refine g_iconst (pc := 10) (v := 0) K dX8_work_10 (by decide) ?_
    refine g_istore_n (pc := 11) K [(2, I_ 0), (0, P_ (some v0)), (1, I_ v1)] rfl (by decide) rfl dX8_work_11 ?_
    refine g_iconst (pc := 12) (v := 0) K dX8_work_12 (by decide) ?_
    refine g_istore_n (pc := 13) K [(3, I_ 0), (2, I_ 0), (0, P_ (some v0)), (1, I_ v1)] rfl (by decide) rfl dX8_work_13 ?_
    refine g_sub K [2, 3, 1, 0] rfl ?_
    exact wl_X8_work_14 K hT hrec2  1000 _ _ _ _ _ _ _ h (by omega) (by omega)
def b_X8_work_2  : Nat → Nat → Int32 → sw_S → Option sw_S
  | 0 => fun _ _ _ => none
  | n + 1 => B_X8_work_2 (b_X8_work_2  n)
theorem wl_X8_work_2 {p : Program} {l : Launch} {e : Env} {s : State} {m : MethodId} {args : Array Value} {below : List Frame} {meth : Method} {c : Code} {Q : State → Prop} {A : Nat → Prop} {D : va_G} {cT : Nat → ClassId} {σ' : sw_S}  (K : sw_C p s m args c cX8_work 5 RX8 A D cT) (hT : sw_Tv cX8_work p l e (sw_R 2 0 0 48) s m args below meth c Q 5 A D cT 0 0 σ') : ∀ (n : Nat) (v0 : Nat) (v1 : Int32) (σ : sw_S) (ce sl : Nat), b_X8_work_2  n v0 v1 σ = some σ' → ce + (0) ≤ 0 → sl + (0) ≤ 0 → sw_G p l e (sw_R 2 0 0 48) s m args below meth c Q 5 A D cT σ ce sl 2 [(0, P_ (some v0)), (1, I_ v1)] [] := by
  intro n
  induction n with
  | zero =>
    intro v0 v1 σ ce sl h
    exact absurd (show none = some σ' from h) (by simp)
  | succ n ih =>
    intro v0 v1 σ ce sl h hce hsl
    exact wB_X8_work_2 K hT (fun _ _ _ _ _ h h1 h2 => ih _ _ _ _ _ h h1 h2) _ _ _ _ _ h hce hsl
def f_X8_work (p0 : Nat) (σ : sw_S) : Option sw_S :=
  b_X8_work_2 1000 p0 0 σ
set_option maxHeartbeats 4000000 in
set_option maxRecDepth 100000 in
theorem c_X8_work  (l : Launch) (D : va_G) (cT : Nat → ClassId) (p0 : Nat) (σ : sw_S) {σ' : sw_S} (h : f_X8_work p0 σ = some σ') : sw_M l D cT yX8_work cX8_work 5 none 2 48 0 0 σ [P_ (some p0)] none σ' := by
  refine sw_met_v (by decide) (Nat.le_of_ble_eq_true rfl) (fun p e s m args below meth c A Q K hnm hT => ?_)
  have hce : 0 + 0 ≤ 0 := Nat.le_of_ble_eq_true rfl
  have hsl : 0 + 0 ≤ 0 := Nat.le_of_ble_eq_true rfl
  unfold f_X8_work at h
  change sw_G p l e (sw_R 2 0 0 48) s m args below meth c Q 5 A D cT σ 0 0 0 [(0, P_ (some p0))] []
  refine g_iconst (pc := 0) (v := 0) K dX8_work_0 (by decide) ?_
  refine g_istore_n (pc := 1) K [(1, I_ 0), (0, P_ (some p0))] rfl (by decide) rfl dX8_work_1 ?_
  refine g_sub K [1, 0] rfl ?_
  exact wl_X8_work_2 K hT  1000 _ _ _ _ _ h (by omega) (by omega)

def b_X8_init_217 (v0 : Nat) (t0 : Int32) (t1 : Nat) (σ : sw_S) : Option sw_S :=
  (sw_pt 8 t1 0 (.int t0) σ).bind fun σ1 =>
  (sw_gI 8 v0 0 σ1).bind fun x3 =>
  (sw_pt 8 v0 1 (.int ((((x3 + 1)) / 2))) σ1).bind fun σ5 =>
  (sw_gR 8 v0 7 σ5).bind fun r7 =>
  r7.bind fun a9 =>
  (sw_as 0 a9 0 1 σ5).bind fun σ11 =>
  (sw_ob 8 v0 σ11).bind fun f12 =>
  (f_X8_work v0 σ11).bind fun σ15 =>
  some σ15
set_option maxHeartbeats 4000000 in
set_option maxRecDepth 100000 in
theorem w_X8_init_217 {p : Program} {l : Launch} {e : Env} {s : State} {m : MethodId} {args : Array Value} {below : List Frame} {meth : Method} {c : Code} {Q : State → Prop} {A : Nat → Prop} {D : va_G} {cT : Nat → ClassId} {σ' : sw_S}  (hnm : meth.name = "<init>")  (K : sw_C p s m args c cX8_init 2 RX8 A D cT) (hT : sw_Tv cX8_init p l e (sw_R 3 22 6258 72) s m args below meth c Q 2 A D cT 22 6258 σ') (v0 : Nat) (t0 : Int32) (t1 : Nat) (σ : sw_S)  (ce sl : Nat) (h : b_X8_init_217 v0 t0 t1 σ = some σ') (hce : ce + (0) ≤ 22) (hsl : sl + (0) ≤ 6258) : sw_G p l e (sw_R 3 22 6258 72) s m args below meth c Q 2 A D cT σ ce sl 217 [(0, P_ (some v0))] [I_ t0, P_ (some t1)] := by
  unfold b_X8_init_217 at h
  replace h := Option.bind_eq_some_iff.mp h
  obtain ⟨σ1, e2, h⟩ := h
  refine g_put (pc := 217) K cl_8 hin_X8 (k := 0) (by decide) tb_518 rfl tyX8 tyX8_ok nmX8 (Or.inr ⟨rfl, hnm, rfl⟩) rfl rfl e2 dX8_init_217 ?_
  refine g_aload_n (pc := 220) K 0 rfl rfl dX8_init_220 ?_
  refine g_aload_n (pc := 221) K 0 rfl rfl dX8_init_221 ?_
  replace h := Option.bind_eq_some_iff.mp h
  obtain ⟨x3, e4, h⟩ := h
  refine g_getI (pc := 222) K cl_8 hin_X8 (k := 0) (by decide) tb_518 rfl e4 dX8_init_222 ?_
  refine g_iconst (pc := 225) (v := 1) K dX8_init_225 (by decide) ?_
  refine g_iadd (pc := 226) K dX8_init_226 ?_
  refine g_iconst (pc := 227) (v := 2) K dX8_init_227 (by decide) ?_
  refine g_idiv (pc := 228) K dX8_init_228 (by decide) ?_
  replace h := Option.bind_eq_some_iff.mp h
  obtain ⟨σ5, e6, h⟩ := h
  refine g_put (pc := 229) K cl_8 hin_X8 (k := 1) (by decide) tb_519 rfl tyX8 tyX8_ok nmX8 (Or.inr ⟨rfl, hnm, rfl⟩) rfl rfl e6 dX8_init_229 ?_
  refine g_aload_n (pc := 232) K 0 rfl rfl dX8_init_232 ?_
  replace h := Option.bind_eq_some_iff.mp h
  obtain ⟨r7, e8, h⟩ := h
  refine g_getR (pc := 233) K cl_8 hin_X8 (k := 7) (by decide) tb_525 rfl e8 dX8_init_233 ?_
  refine g_iconst (pc := 236) (v := 0) K dX8_init_236 (by decide) ?_
  refine g_iconst (pc := 237) (v := 1) K dX8_init_237 (by decide) ?_
  replace h := Option.bind_eq_some_iff.mp h
  obtain ⟨a9, rfl, h⟩ := h
  replace h := Option.bind_eq_some_iff.mp h
  obtain ⟨σ11, e10, h⟩ := h
  refine g_iast (pc := 238) K e10 dX8_init_238 ?_
  refine g_aload_n (pc := 239) K 0 rfl rfl dX8_init_239 ?_
  replace h := Option.bind_eq_some_iff.mp h
  obtain ⟨f12, e13, h⟩ := h
  replace h := Option.bind_eq_some_iff.mp h
  obtain ⟨σ15, e14, h⟩ := h
  refine g_callV (pc := 240) (st := []) K [] (c_X8_work _ _ _ _ _ e14) e13 cl_8 rfl tb_509 tb_506 tb_7 tb_508 sl_26 hd_X8_work ⟨Nat.le_of_ble_eq_true rfl, Nat.le_of_ble_eq_true rfl⟩ rfl (sw_rm (Nat.le_of_ble_eq_true rfl)) ⟨by show _ ≤ 22; omega, by show _ ≤ 6258; omega⟩ dX8_init_240 ?_
  cases h
  exact hT _ _ 243 _ (by omega) (by omega) dX8_init_243
def b_X8_init_216 (v0 : Nat) (t0 : Nat) (σ : sw_S) : Option sw_S :=
  b_X8_init_217 v0 4 t0 σ
set_option maxHeartbeats 4000000 in
set_option maxRecDepth 100000 in
theorem w_X8_init_216 {p : Program} {l : Launch} {e : Env} {s : State} {m : MethodId} {args : Array Value} {below : List Frame} {meth : Method} {c : Code} {Q : State → Prop} {A : Nat → Prop} {D : va_G} {cT : Nat → ClassId} {σ' : sw_S}  (hnm : meth.name = "<init>")  (K : sw_C p s m args c cX8_init 2 RX8 A D cT) (hT : sw_Tv cX8_init p l e (sw_R 3 22 6258 72) s m args below meth c Q 2 A D cT 22 6258 σ') (v0 : Nat) (t0 : Nat) (σ : sw_S)  (ce sl : Nat) (h : b_X8_init_216 v0 t0 σ = some σ') (hce : ce + (0) ≤ 22) (hsl : sl + (0) ≤ 6258) : sw_G p l e (sw_R 3 22 6258 72) s m args below meth c Q 2 A D cT σ ce sl 216 [(0, P_ (some v0))] [P_ (some t0)] := by
  unfold b_X8_init_216 at h
  refine g_iconst (pc := 216) (v := 4) K dX8_init_216 (by decide) ?_
  refine g_sub K [0] rfl ?_
  exact w_X8_init_217 hnm K hT  _ _ _ _ _ _ h (by omega) (by omega)
def f_X8_init (p0 : Nat) (q1 : Int32) (σ : sw_S) : Option sw_S :=
  (sw_nl 61 61).bind fun n1 =>
  (some (sw_nw σ (sw_rI n1))).bind fun σ3 =>
  (sw_pt 8 p0 3 (va_rf (some σ.1)) σ3).bind fun σ5 =>
  (sw_nl 61 61).bind fun n7 =>
  (some (sw_nw σ5 (sw_rI n7))).bind fun σ9 =>
  (sw_pt 8 p0 4 (va_rf (some σ5.1)) σ9).bind fun σ11 =>
  (sw_pt 8 p0 5 (.int 1) σ11).bind fun σ13 =>
  (sw_nl 512 512).bind fun n15 =>
  (some (sw_nw σ13 (sw_rI n15))).bind fun σ17 =>
  (sw_pt 8 p0 6 (va_rf (some σ13.1)) σ17).bind fun σ19 =>
  (sw_nl 8 8).bind fun n21 =>
  (some (sw_nw σ19 (sw_rI n21))).bind fun σ23 =>
  (sw_pt 8 p0 7 (va_rf (some σ19.1)) σ23).bind fun σ25 =>
  (sw_nl 512 512).bind fun n27 =>
  (some (sw_nw σ25 (sw_rI n27))).bind fun σ29 =>
  (sw_pt 8 p0 8 (va_rf (some σ25.1)) σ29).bind fun σ31 =>
  (sw_nl 512 512).bind fun n33 =>
  (some (sw_nw σ31 (sw_rI n33))).bind fun σ35 =>
  (sw_pt 8 p0 9 (va_rf (some σ31.1)) σ35).bind fun σ37 =>
  (sw_nl 512 512).bind fun n39 =>
  (some (sw_nw σ37 (sw_rI n39))).bind fun σ41 =>
  (sw_pt 8 p0 10 (va_rf (some σ37.1)) σ41).bind fun σ43 =>
  (sw_nl 600 600).bind fun n45 =>
  (some (sw_nw σ43 (sw_rI n45))).bind fun σ47 =>
  (sw_pt 8 p0 11 (va_rf (some σ43.1)) σ47).bind fun σ49 =>
  (sw_nl 60 60).bind fun n51 =>
  (some (sw_nw σ49 (sw_rI n51))).bind fun σ53 =>
  (sw_pt 8 p0 13 (va_rf (some σ49.1)) σ53).bind fun σ55 =>
  (sw_nl 60 60).bind fun n57 =>
  (some (sw_nw σ55 (sw_rJ n57))).bind fun σ59 =>
  (sw_pt 8 p0 14 (va_rf (some σ55.1)) σ59).bind fun σ61 =>
  (sw_nl 60 60).bind fun n63 =>
  (some (sw_nw σ61 (sw_rJ n63))).bind fun σ65 =>
  (sw_pt 8 p0 15 (va_rf (some σ61.1)) σ65).bind fun σ67 =>
  (sw_nl 300 300).bind fun n69 =>
  (some (sw_nw σ67 (sw_rI n69))).bind fun σ71 =>
  (sw_pt 8 p0 17 (va_rf (some σ67.1)) σ71).bind fun σ73 =>
  (sw_nl 300 300).bind fun n75 =>
  (some (sw_nw σ73 (sw_rI n75))).bind fun σ77 =>
  (sw_pt 8 p0 18 (va_rf (some σ73.1)) σ77).bind fun σ79 =>
  (sw_nl 300 300).bind fun n81 =>
  (some (sw_nw σ79 (sw_rI n81))).bind fun σ83 =>
  (sw_pt 8 p0 19 (va_rf (some σ79.1)) σ83).bind fun σ85 =>
  (sw_nl 300 300).bind fun n87 =>
  (some (sw_nw σ85 (sw_rI n87))).bind fun σ89 =>
  (sw_pt 8 p0 20 (va_rf (some σ85.1)) σ89).bind fun σ91 =>
  (sw_nl 300 300).bind fun n93 =>
  (some (sw_nw σ91 (sw_rI n93))).bind fun σ95 =>
  (sw_pt 8 p0 21 (va_rf (some σ91.1)) σ95).bind fun σ97 =>
  (sw_nl 300 300).bind fun n99 =>
  (some (sw_nw σ97 (sw_rI n99))).bind fun σ101 =>
  (sw_pt 8 p0 22 (va_rf (some σ97.1)) σ101).bind fun σ103 =>
  (sw_nl 300 300).bind fun n105 =>
  (some (sw_nw σ103 (sw_rI n105))).bind fun σ107 =>
  (sw_pt 8 p0 23 (va_rf (some σ103.1)) σ107).bind fun σ109 =>
  (sw_nl 300 300).bind fun n111 =>
  (some (sw_nw σ109 (sw_rJ n111))).bind fun σ113 =>
  (sw_pt 8 p0 24 (va_rf (some σ109.1)) σ113).bind fun σ115 =>
  (sw_nl 300 300).bind fun n117 =>
  (some (sw_nw σ115 (sw_rJ n117))).bind fun σ119 =>
  (sw_pt 8 p0 25 (va_rf (some σ115.1)) σ119).bind fun σ121 =>
  (sw_nl 300 300).bind fun n123 =>
  (some (sw_nw σ121 (sw_rI n123))).bind fun σ125 =>
  (sw_pt 8 p0 30 (va_rf (some σ121.1)) σ125).bind fun σ127 =>
  (sw_nl 300 300).bind fun n129 =>
  (some (sw_nw σ127 (sw_rI n129))).bind fun σ131 =>
  (sw_pt 8 p0 31 (va_rf (some σ127.1)) σ131).bind fun σ133 =>
  (if q1 < 3 then
  b_X8_init_216 p0 p0 σ133
  else
  (if 5 < q1 then
  b_X8_init_216 p0 p0 σ133
  else
  b_X8_init_217 p0 q1 p0 σ133))
set_option maxHeartbeats 4000000 in
set_option maxRecDepth 100000 in
theorem c_X8_init  (l : Launch) (D : va_G) (cT : Nat → ClassId) (p0 : Nat) (q1 : Int32) (σ : sw_S) {σ' : sw_S} (h : f_X8_init p0 q1 σ = some σ') : sw_M l D cT yX8_init cX8_init 2 none 3 72 22 6258 σ [P_ (some p0), I_ q1] none σ' := by
  refine sw_met_v (by decide) (Nat.le_of_ble_eq_true rfl) (fun p e s m args below meth c A Q K hnm hT => ?_)
  have hce : 0 + 22 ≤ 22 := Nat.le_of_ble_eq_true rfl
  have hsl : 0 + 6258 ≤ 6258 := Nat.le_of_ble_eq_true rfl
  unfold f_X8_init at h
  change sw_G p l e (sw_R 3 22 6258 72) s m args below meth c Q 2 A D cT σ 0 0 0 [(0, P_ (some p0)), (1, I_ q1)] []
  refine g_aload_n (pc := 0) K 0 rfl rfl dX8_init_0 ?_
  refine g_objInit (pc := 1) K tb_505 tb_16 tb_17 ⟨Nat.le_of_ble_eq_true rfl, Nat.le_of_ble_eq_true rfl⟩ (sw_rm (Nat.le_of_ble_eq_true rfl)) dX8_init_1 ?_
  refine g_aload_n (pc := 4) K 0 rfl rfl dX8_init_4 ?_
  refine g_bipush (pc := 5) (v := 61) K dX8_init_5 (by decide) ?_
  replace h := Option.bind_eq_some_iff.mp h
  obtain ⟨n1, e2, h⟩ := h
  replace h := Option.bind_eq_some_iff.mp h
  obtain ⟨σ3, e4, h⟩ := h
  replace e4 := Option.some.inj e4
  refine g_new_int (pc := 7) K tb_73 e2 (Nat.le_of_ble_eq_true rfl) (by show _ ≤ 22; omega) (by show _ ≤ 6258; omega) dX8_init_7 ?_
  rw [e4]
  replace h := Option.bind_eq_some_iff.mp h
  obtain ⟨σ5, e6, h⟩ := h
  refine g_put (pc := 9) K cl_8 hin_X8 (k := 3) (by decide) tb_521 rfl tyX8 tyX8_ok nmX8 (Or.inr ⟨rfl, hnm, rfl⟩) (sw_nr (tyX8 3) rfl _) (sw_fr (tyX8 3) rfl _) e6 dX8_init_9 ?_
  refine g_aload_n (pc := 12) K 0 rfl rfl dX8_init_12 ?_
  refine g_bipush (pc := 13) (v := 61) K dX8_init_13 (by decide) ?_
  replace h := Option.bind_eq_some_iff.mp h
  obtain ⟨n7, e8, h⟩ := h
  replace h := Option.bind_eq_some_iff.mp h
  obtain ⟨σ9, e10, h⟩ := h
  replace e10 := Option.some.inj e10
  refine g_new_int (pc := 15) K tb_73 e8 (Nat.le_of_ble_eq_true rfl) (by show _ ≤ 22; omega) (by show _ ≤ 6258; omega) dX8_init_15 ?_
  rw [e10]
  replace h := Option.bind_eq_some_iff.mp h
  obtain ⟨σ11, e12, h⟩ := h
  refine g_put (pc := 17) K cl_8 hin_X8 (k := 4) (by decide) tb_522 rfl tyX8 tyX8_ok nmX8 (Or.inr ⟨rfl, hnm, rfl⟩) (sw_nr (tyX8 4) rfl _) (sw_fr (tyX8 4) rfl _) e12 dX8_init_17 ?_
  refine g_aload_n (pc := 20) K 0 rfl rfl dX8_init_20 ?_
  refine g_iconst (pc := 21) (v := 1) K dX8_init_21 (by decide) ?_
  replace h := Option.bind_eq_some_iff.mp h
  obtain ⟨σ13, e14, h⟩ := h
  refine g_put (pc := 22) K cl_8 hin_X8 (k := 5) (by decide) tb_523 rfl tyX8 tyX8_ok nmX8 (Or.inl rfl) rfl rfl e14 dX8_init_22 ?_
  refine g_aload_n (pc := 25) K 0 rfl rfl dX8_init_25 ?_
  refine g_sipush (pc := 26) (v := 512) K dX8_init_26 (by decide) ?_
  replace h := Option.bind_eq_some_iff.mp h
  obtain ⟨n15, e16, h⟩ := h
  replace h := Option.bind_eq_some_iff.mp h
  obtain ⟨σ17, e18, h⟩ := h
  replace e18 := Option.some.inj e18
  refine g_new_int (pc := 29) K tb_73 e16 (Nat.le_of_ble_eq_true rfl) (by show _ ≤ 22; omega) (by show _ ≤ 6258; omega) dX8_init_29 ?_
  rw [e18]
  replace h := Option.bind_eq_some_iff.mp h
  obtain ⟨σ19, e20, h⟩ := h
  refine g_put (pc := 31) K cl_8 hin_X8 (k := 6) (by decide) tb_524 rfl tyX8 tyX8_ok nmX8 (Or.inr ⟨rfl, hnm, rfl⟩) (sw_nr (tyX8 6) rfl _) (sw_fr (tyX8 6) rfl _) e20 dX8_init_31 ?_
  refine g_aload_n (pc := 34) K 0 rfl rfl dX8_init_34 ?_
  refine g_bipush (pc := 35) (v := 8) K dX8_init_35 (by decide) ?_
  replace h := Option.bind_eq_some_iff.mp h
  obtain ⟨n21, e22, h⟩ := h
  replace h := Option.bind_eq_some_iff.mp h
  obtain ⟨σ23, e24, h⟩ := h
  replace e24 := Option.some.inj e24
  refine g_new_int (pc := 37) K tb_73 e22 (Nat.le_of_ble_eq_true rfl) (by show _ ≤ 22; omega) (by show _ ≤ 6258; omega) dX8_init_37 ?_
  rw [e24]
  replace h := Option.bind_eq_some_iff.mp h
  obtain ⟨σ25, e26, h⟩ := h
  refine g_put (pc := 39) K cl_8 hin_X8 (k := 7) (by decide) tb_525 rfl tyX8 tyX8_ok nmX8 (Or.inr ⟨rfl, hnm, rfl⟩) (sw_nr (tyX8 7) rfl _) (sw_fr (tyX8 7) rfl _) e26 dX8_init_39 ?_
  refine g_aload_n (pc := 42) K 0 rfl rfl dX8_init_42 ?_
  refine g_sipush (pc := 43) (v := 512) K dX8_init_43 (by decide) ?_
  replace h := Option.bind_eq_some_iff.mp h
  obtain ⟨n27, e28, h⟩ := h
  replace h := Option.bind_eq_some_iff.mp h
  obtain ⟨σ29, e30, h⟩ := h
  replace e30 := Option.some.inj e30
  refine g_new_int (pc := 46) K tb_73 e28 (Nat.le_of_ble_eq_true rfl) (by show _ ≤ 22; omega) (by show _ ≤ 6258; omega) dX8_init_46 ?_
  rw [e30]
  replace h := Option.bind_eq_some_iff.mp h
  obtain ⟨σ31, e32, h⟩ := h
  refine g_put (pc := 48) K cl_8 hin_X8 (k := 8) (by decide) tb_526 rfl tyX8 tyX8_ok nmX8 (Or.inr ⟨rfl, hnm, rfl⟩) (sw_nr (tyX8 8) rfl _) (sw_fr (tyX8 8) rfl _) e32 dX8_init_48 ?_
  refine g_aload_n (pc := 51) K 0 rfl rfl dX8_init_51 ?_
  refine g_sipush (pc := 52) (v := 512) K dX8_init_52 (by decide) ?_
  replace h := Option.bind_eq_some_iff.mp h
  obtain ⟨n33, e34, h⟩ := h
  replace h := Option.bind_eq_some_iff.mp h
  obtain ⟨σ35, e36, h⟩ := h
  replace e36 := Option.some.inj e36
  refine g_new_int (pc := 55) K tb_73 e34 (Nat.le_of_ble_eq_true rfl) (by show _ ≤ 22; omega) (by show _ ≤ 6258; omega) dX8_init_55 ?_
  rw [e36]
  replace h := Option.bind_eq_some_iff.mp h
  obtain ⟨σ37, e38, h⟩ := h
  refine g_put (pc := 57) K cl_8 hin_X8 (k := 9) (by decide) tb_527 rfl tyX8 tyX8_ok nmX8 (Or.inr ⟨rfl, hnm, rfl⟩) (sw_nr (tyX8 9) rfl _) (sw_fr (tyX8 9) rfl _) e38 dX8_init_57 ?_
  refine g_aload_n (pc := 60) K 0 rfl rfl dX8_init_60 ?_
  refine g_sipush (pc := 61) (v := 512) K dX8_init_61 (by decide) ?_
  replace h := Option.bind_eq_some_iff.mp h
  obtain ⟨n39, e40, h⟩ := h
  replace h := Option.bind_eq_some_iff.mp h
  obtain ⟨σ41, e42, h⟩ := h
  replace e42 := Option.some.inj e42
  refine g_new_int (pc := 64) K tb_73 e40 (Nat.le_of_ble_eq_true rfl) (by show _ ≤ 22; omega) (by show _ ≤ 6258; omega) dX8_init_64 ?_
  rw [e42]
  replace h := Option.bind_eq_some_iff.mp h
  obtain ⟨σ43, e44, h⟩ := h
  refine g_put (pc := 66) K cl_8 hin_X8 (k := 10) (by decide) tb_528 rfl tyX8 tyX8_ok nmX8 (Or.inr ⟨rfl, hnm, rfl⟩) (sw_nr (tyX8 10) rfl _) (sw_fr (tyX8 10) rfl _) e44 dX8_init_66 ?_
  refine g_aload_n (pc := 69) K 0 rfl rfl dX8_init_69 ?_
  refine g_sipush (pc := 70) (v := 600) K dX8_init_70 (by decide) ?_
  replace h := Option.bind_eq_some_iff.mp h
  obtain ⟨n45, e46, h⟩ := h
  replace h := Option.bind_eq_some_iff.mp h
  obtain ⟨σ47, e48, h⟩ := h
  replace e48 := Option.some.inj e48
  refine g_new_int (pc := 73) K tb_73 e46 (Nat.le_of_ble_eq_true rfl) (by show _ ≤ 22; omega) (by show _ ≤ 6258; omega) dX8_init_73 ?_
  rw [e48]
  replace h := Option.bind_eq_some_iff.mp h
  obtain ⟨σ49, e50, h⟩ := h
  refine g_put (pc := 75) K cl_8 hin_X8 (k := 11) (by decide) tb_529 rfl tyX8 tyX8_ok nmX8 (Or.inr ⟨rfl, hnm, rfl⟩) (sw_nr (tyX8 11) rfl _) (sw_fr (tyX8 11) rfl _) e50 dX8_init_75 ?_
  refine g_aload_n (pc := 78) K 0 rfl rfl dX8_init_78 ?_
  refine g_bipush (pc := 79) (v := 60) K dX8_init_79 (by decide) ?_
  replace h := Option.bind_eq_some_iff.mp h
  obtain ⟨n51, e52, h⟩ := h
  replace h := Option.bind_eq_some_iff.mp h
  obtain ⟨σ53, e54, h⟩ := h
  replace e54 := Option.some.inj e54
  refine g_new_int (pc := 81) K tb_73 e52 (Nat.le_of_ble_eq_true rfl) (by show _ ≤ 22; omega) (by show _ ≤ 6258; omega) dX8_init_81 ?_
  rw [e54]
  replace h := Option.bind_eq_some_iff.mp h
  obtain ⟨σ55, e56, h⟩ := h
  refine g_put (pc := 83) K cl_8 hin_X8 (k := 13) (by decide) tb_531 rfl tyX8 tyX8_ok nmX8 (Or.inr ⟨rfl, hnm, rfl⟩) (sw_nr (tyX8 13) rfl _) (sw_fr (tyX8 13) rfl _) e56 dX8_init_83 ?_
  refine g_aload_n (pc := 86) K 0 rfl rfl dX8_init_86 ?_
  refine g_bipush (pc := 87) (v := 60) K dX8_init_87 (by decide) ?_
  replace h := Option.bind_eq_some_iff.mp h
  obtain ⟨n57, e58, h⟩ := h
  replace h := Option.bind_eq_some_iff.mp h
  obtain ⟨σ59, e60, h⟩ := h
  replace e60 := Option.some.inj e60
  refine g_new_long (pc := 89) K tb_615 e58 (Nat.le_of_ble_eq_true rfl) (by show _ ≤ 22; omega) (by show _ ≤ 6258; omega) dX8_init_89 ?_
  rw [e60]
  replace h := Option.bind_eq_some_iff.mp h
  obtain ⟨σ61, e62, h⟩ := h
  refine g_put (pc := 91) K cl_8 hin_X8 (k := 14) (by decide) tb_532 rfl tyX8 tyX8_ok nmX8 (Or.inr ⟨rfl, hnm, rfl⟩) (sw_nr (tyX8 14) rfl _) (sw_fr (tyX8 14) rfl _) e62 dX8_init_91 ?_
  refine g_aload_n (pc := 94) K 0 rfl rfl dX8_init_94 ?_
  refine g_bipush (pc := 95) (v := 60) K dX8_init_95 (by decide) ?_
  replace h := Option.bind_eq_some_iff.mp h
  obtain ⟨n63, e64, h⟩ := h
  replace h := Option.bind_eq_some_iff.mp h
  obtain ⟨σ65, e66, h⟩ := h
  replace e66 := Option.some.inj e66
  refine g_new_long (pc := 97) K tb_615 e64 (Nat.le_of_ble_eq_true rfl) (by show _ ≤ 22; omega) (by show _ ≤ 6258; omega) dX8_init_97 ?_
  rw [e66]
  replace h := Option.bind_eq_some_iff.mp h
  obtain ⟨σ67, e68, h⟩ := h
  refine g_put (pc := 99) K cl_8 hin_X8 (k := 15) (by decide) tb_533 rfl tyX8 tyX8_ok nmX8 (Or.inr ⟨rfl, hnm, rfl⟩) (sw_nr (tyX8 15) rfl _) (sw_fr (tyX8 15) rfl _) e68 dX8_init_99 ?_
  refine g_aload_n (pc := 102) K 0 rfl rfl dX8_init_102 ?_
  refine g_sipush (pc := 103) (v := 300) K dX8_init_103 (by decide) ?_
  replace h := Option.bind_eq_some_iff.mp h
  obtain ⟨n69, e70, h⟩ := h
  replace h := Option.bind_eq_some_iff.mp h
  obtain ⟨σ71, e72, h⟩ := h
  replace e72 := Option.some.inj e72
  refine g_new_int (pc := 106) K tb_73 e70 (Nat.le_of_ble_eq_true rfl) (by show _ ≤ 22; omega) (by show _ ≤ 6258; omega) dX8_init_106 ?_
  rw [e72]
  replace h := Option.bind_eq_some_iff.mp h
  obtain ⟨σ73, e74, h⟩ := h
  refine g_put (pc := 108) K cl_8 hin_X8 (k := 17) (by decide) tb_535 rfl tyX8 tyX8_ok nmX8 (Or.inr ⟨rfl, hnm, rfl⟩) (sw_nr (tyX8 17) rfl _) (sw_fr (tyX8 17) rfl _) e74 dX8_init_108 ?_
  refine g_aload_n (pc := 111) K 0 rfl rfl dX8_init_111 ?_
  refine g_sipush (pc := 112) (v := 300) K dX8_init_112 (by decide) ?_
  replace h := Option.bind_eq_some_iff.mp h
  obtain ⟨n75, e76, h⟩ := h
  replace h := Option.bind_eq_some_iff.mp h
  obtain ⟨σ77, e78, h⟩ := h
  replace e78 := Option.some.inj e78
  refine g_new_int (pc := 115) K tb_73 e76 (Nat.le_of_ble_eq_true rfl) (by show _ ≤ 22; omega) (by show _ ≤ 6258; omega) dX8_init_115 ?_
  rw [e78]
  replace h := Option.bind_eq_some_iff.mp h
  obtain ⟨σ79, e80, h⟩ := h
  refine g_put (pc := 117) K cl_8 hin_X8 (k := 18) (by decide) tb_536 rfl tyX8 tyX8_ok nmX8 (Or.inr ⟨rfl, hnm, rfl⟩) (sw_nr (tyX8 18) rfl _) (sw_fr (tyX8 18) rfl _) e80 dX8_init_117 ?_
  refine g_aload_n (pc := 120) K 0 rfl rfl dX8_init_120 ?_
  refine g_sipush (pc := 121) (v := 300) K dX8_init_121 (by decide) ?_
  replace h := Option.bind_eq_some_iff.mp h
  obtain ⟨n81, e82, h⟩ := h
  replace h := Option.bind_eq_some_iff.mp h
  obtain ⟨σ83, e84, h⟩ := h
  replace e84 := Option.some.inj e84
  refine g_new_int (pc := 124) K tb_73 e82 (Nat.le_of_ble_eq_true rfl) (by show _ ≤ 22; omega) (by show _ ≤ 6258; omega) dX8_init_124 ?_
  rw [e84]
  replace h := Option.bind_eq_some_iff.mp h
  obtain ⟨σ85, e86, h⟩ := h
  refine g_put (pc := 126) K cl_8 hin_X8 (k := 19) (by decide) tb_537 rfl tyX8 tyX8_ok nmX8 (Or.inr ⟨rfl, hnm, rfl⟩) (sw_nr (tyX8 19) rfl _) (sw_fr (tyX8 19) rfl _) e86 dX8_init_126 ?_
  refine g_aload_n (pc := 129) K 0 rfl rfl dX8_init_129 ?_
  refine g_sipush (pc := 130) (v := 300) K dX8_init_130 (by decide) ?_
  replace h := Option.bind_eq_some_iff.mp h
  obtain ⟨n87, e88, h⟩ := h
  replace h := Option.bind_eq_some_iff.mp h
  obtain ⟨σ89, e90, h⟩ := h
  replace e90 := Option.some.inj e90
  refine g_new_int (pc := 133) K tb_73 e88 (Nat.le_of_ble_eq_true rfl) (by show _ ≤ 22; omega) (by show _ ≤ 6258; omega) dX8_init_133 ?_
  rw [e90]
  replace h := Option.bind_eq_some_iff.mp h
  obtain ⟨σ91, e92, h⟩ := h
  refine g_put (pc := 135) K cl_8 hin_X8 (k := 20) (by decide) tb_538 rfl tyX8 tyX8_ok nmX8 (Or.inr ⟨rfl, hnm, rfl⟩) (sw_nr (tyX8 20) rfl _) (sw_fr (tyX8 20) rfl _) e92 dX8_init_135 ?_
  refine g_aload_n (pc := 138) K 0 rfl rfl dX8_init_138 ?_
  refine g_sipush (pc := 139) (v := 300) K dX8_init_139 (by decide) ?_
  replace h := Option.bind_eq_some_iff.mp h
  obtain ⟨n93, e94, h⟩ := h
  replace h := Option.bind_eq_some_iff.mp h
  obtain ⟨σ95, e96, h⟩ := h
  replace e96 := Option.some.inj e96
  refine g_new_int (pc := 142) K tb_73 e94 (Nat.le_of_ble_eq_true rfl) (by show _ ≤ 22; omega) (by show _ ≤ 6258; omega) dX8_init_142 ?_
  rw [e96]
  replace h := Option.bind_eq_some_iff.mp h
  obtain ⟨σ97, e98, h⟩ := h
  refine g_put (pc := 144) K cl_8 hin_X8 (k := 21) (by decide) tb_539 rfl tyX8 tyX8_ok nmX8 (Or.inr ⟨rfl, hnm, rfl⟩) (sw_nr (tyX8 21) rfl _) (sw_fr (tyX8 21) rfl _) e98 dX8_init_144 ?_
  refine g_aload_n (pc := 147) K 0 rfl rfl dX8_init_147 ?_
  refine g_sipush (pc := 148) (v := 300) K dX8_init_148 (by decide) ?_
  replace h := Option.bind_eq_some_iff.mp h
  obtain ⟨n99, e100, h⟩ := h
  replace h := Option.bind_eq_some_iff.mp h
  obtain ⟨σ101, e102, h⟩ := h
  replace e102 := Option.some.inj e102
  refine g_new_int (pc := 151) K tb_73 e100 (Nat.le_of_ble_eq_true rfl) (by show _ ≤ 22; omega) (by show _ ≤ 6258; omega) dX8_init_151 ?_
  rw [e102]
  replace h := Option.bind_eq_some_iff.mp h
  obtain ⟨σ103, e104, h⟩ := h
  refine g_put (pc := 153) K cl_8 hin_X8 (k := 22) (by decide) tb_540 rfl tyX8 tyX8_ok nmX8 (Or.inr ⟨rfl, hnm, rfl⟩) (sw_nr (tyX8 22) rfl _) (sw_fr (tyX8 22) rfl _) e104 dX8_init_153 ?_
  refine g_aload_n (pc := 156) K 0 rfl rfl dX8_init_156 ?_
  refine g_sipush (pc := 157) (v := 300) K dX8_init_157 (by decide) ?_
  replace h := Option.bind_eq_some_iff.mp h
  obtain ⟨n105, e106, h⟩ := h
  replace h := Option.bind_eq_some_iff.mp h
  obtain ⟨σ107, e108, h⟩ := h
  replace e108 := Option.some.inj e108
  refine g_new_int (pc := 160) K tb_73 e106 (Nat.le_of_ble_eq_true rfl) (by show _ ≤ 22; omega) (by show _ ≤ 6258; omega) dX8_init_160 ?_
  rw [e108]
  replace h := Option.bind_eq_some_iff.mp h
  obtain ⟨σ109, e110, h⟩ := h
  refine g_put (pc := 162) K cl_8 hin_X8 (k := 23) (by decide) tb_541 rfl tyX8 tyX8_ok nmX8 (Or.inr ⟨rfl, hnm, rfl⟩) (sw_nr (tyX8 23) rfl _) (sw_fr (tyX8 23) rfl _) e110 dX8_init_162 ?_
  refine g_aload_n (pc := 165) K 0 rfl rfl dX8_init_165 ?_
  refine g_sipush (pc := 166) (v := 300) K dX8_init_166 (by decide) ?_
  replace h := Option.bind_eq_some_iff.mp h
  obtain ⟨n111, e112, h⟩ := h
  replace h := Option.bind_eq_some_iff.mp h
  obtain ⟨σ113, e114, h⟩ := h
  replace e114 := Option.some.inj e114
  refine g_new_long (pc := 169) K tb_615 e112 (Nat.le_of_ble_eq_true rfl) (by show _ ≤ 22; omega) (by show _ ≤ 6258; omega) dX8_init_169 ?_
  rw [e114]
  replace h := Option.bind_eq_some_iff.mp h
  obtain ⟨σ115, e116, h⟩ := h
  refine g_put (pc := 171) K cl_8 hin_X8 (k := 24) (by decide) tb_542 rfl tyX8 tyX8_ok nmX8 (Or.inr ⟨rfl, hnm, rfl⟩) (sw_nr (tyX8 24) rfl _) (sw_fr (tyX8 24) rfl _) e116 dX8_init_171 ?_
  refine g_aload_n (pc := 174) K 0 rfl rfl dX8_init_174 ?_
  refine g_sipush (pc := 175) (v := 300) K dX8_init_175 (by decide) ?_
  replace h := Option.bind_eq_some_iff.mp h
  obtain ⟨n117, e118, h⟩ := h
  replace h := Option.bind_eq_some_iff.mp h
  obtain ⟨σ119, e120, h⟩ := h
  replace e120 := Option.some.inj e120
  refine g_new_long (pc := 178) K tb_615 e118 (Nat.le_of_ble_eq_true rfl) (by show _ ≤ 22; omega) (by show _ ≤ 6258; omega) dX8_init_178 ?_
  rw [e120]
  replace h := Option.bind_eq_some_iff.mp h
  obtain ⟨σ121, e122, h⟩ := h
  refine g_put (pc := 180) K cl_8 hin_X8 (k := 25) (by decide) tb_543 rfl tyX8 tyX8_ok nmX8 (Or.inr ⟨rfl, hnm, rfl⟩) (sw_nr (tyX8 25) rfl _) (sw_fr (tyX8 25) rfl _) e122 dX8_init_180 ?_
  refine g_aload_n (pc := 183) K 0 rfl rfl dX8_init_183 ?_
  refine g_sipush (pc := 184) (v := 300) K dX8_init_184 (by decide) ?_
  replace h := Option.bind_eq_some_iff.mp h
  obtain ⟨n123, e124, h⟩ := h
  replace h := Option.bind_eq_some_iff.mp h
  obtain ⟨σ125, e126, h⟩ := h
  replace e126 := Option.some.inj e126
  refine g_new_int (pc := 187) K tb_73 e124 (Nat.le_of_ble_eq_true rfl) (by show _ ≤ 22; omega) (by show _ ≤ 6258; omega) dX8_init_187 ?_
  rw [e126]
  replace h := Option.bind_eq_some_iff.mp h
  obtain ⟨σ127, e128, h⟩ := h
  refine g_put (pc := 189) K cl_8 hin_X8 (k := 30) (by decide) tb_548 rfl tyX8 tyX8_ok nmX8 (Or.inr ⟨rfl, hnm, rfl⟩) (sw_nr (tyX8 30) rfl _) (sw_fr (tyX8 30) rfl _) e128 dX8_init_189 ?_
  refine g_aload_n (pc := 192) K 0 rfl rfl dX8_init_192 ?_
  refine g_sipush (pc := 193) (v := 300) K dX8_init_193 (by decide) ?_
  replace h := Option.bind_eq_some_iff.mp h
  obtain ⟨n129, e130, h⟩ := h
  replace h := Option.bind_eq_some_iff.mp h
  obtain ⟨σ131, e132, h⟩ := h
  replace e132 := Option.some.inj e132
  refine g_new_int (pc := 196) K tb_73 e130 (Nat.le_of_ble_eq_true rfl) (by show _ ≤ 22; omega) (by show _ ≤ 6258; omega) dX8_init_196 ?_
  rw [e132]
  replace h := Option.bind_eq_some_iff.mp h
  obtain ⟨σ133, e134, h⟩ := h
  refine g_put (pc := 198) K cl_8 hin_X8 (k := 31) (by decide) tb_549 rfl tyX8 tyX8_ok nmX8 (Or.inr ⟨rfl, hnm, rfl⟩) (sw_nr (tyX8 31) rfl _) (sw_fr (tyX8 31) rfl _) e134 dX8_init_198 ?_
  refine g_aload_n (pc := 201) K 0 rfl rfl dX8_init_201 ?_
  refine g_iload_n (pc := 202) K 1 rfl rfl dX8_init_202 ?_
  refine g_iconst (pc := 203) (v := 3) K dX8_init_203 (by decide) ?_
  refine g_icmp_lt (pc := 204) K 216 dX8_init_204 (by decide) (fun c135 => ?_) (fun c135 => ?_)
  · replace h := (if_pos c135).symm.trans h
    refine g_sub K [0] rfl ?_
    exact w_X8_init_216 hnm K hT  _ _ _ _ _ h (by omega) (by omega)
  · replace h := (if_neg c135).symm.trans h
    refine g_iload_n (pc := 207) K 1 rfl rfl dX8_init_207 ?_
    refine g_iconst (pc := 208) (v := 5) K dX8_init_208 (by decide) ?_
    refine g_icmp_gt (pc := 209) K 216 dX8_init_209 (by decide) (fun c136 => ?_) (fun c136 => ?_)
    · replace h := (if_pos c136).symm.trans h
      refine g_sub K [0] rfl ?_
      exact w_X8_init_216 hnm K hT  _ _ _ _ _ h (by omega) (by omega)
    · replace h := (if_neg c136).symm.trans h
      refine g_iload_n (pc := 212) K 1 rfl rfl dX8_init_212 ?_
      refine g_goto (pc := 213) (tgt := 217) K dX8_init_213 (by decide) ?_
      refine g_sub K [0] rfl ?_
      exact w_X8_init_217 hnm K hT  _ _ _ _ _ _ h (by omega) (by omega)
