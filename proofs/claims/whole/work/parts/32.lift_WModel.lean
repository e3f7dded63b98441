def b_X8_prove_170 (rec48 : Nat → Int32 → Int32 → Int32 → Int32 → sw_S → Option (Int32 × sw_S)) (v0 : Nat) (v1 : Int32) (v2 : Int32) (v3 : Int32) (v4 : Int32) (σ : sw_S) : Option (Int32 × sw_S) :=
  rec48 v0 v1 v2 v3 v4 σ
set_option maxHeartbeats 4000000 in
set_option maxRecDepth 100000 in
theorem w_X8_prove_170 {p : Program} {l : Launch} {e : Env} {s : State} {m : MethodId} {args : Array Value} {below : List Frame} {meth : Method} {c : Code} {Q : State → Prop} {A : Nat → Prop} {D : va_G} {cT : Nat → ClassId} {r : Int32}  {σ' : sw_S}  (K : sw_C p s m args c cX8_prove 7 RX8 A D cT) (hT : sw_Ti cX8_prove p l e (sw_R 2 0 0 56) s m args below meth c Q 7 A D cT 0 0 σ' r) {rec48 : Nat → Int32 → Int32 → Int32 → Int32 → sw_S → Option (Int32 × sw_S)} (hrec48 : ∀ (v0 : Nat) (v1 : Int32) (v2 : Int32) (v3 : Int32) (v4 : Int32) (σ : sw_S) (ce sl : Nat), rec48 v0 v1 v2 v3 v4 σ = some (r, σ') → ce + (0) ≤ 0 → sl + (0) ≤ 0 → sw_G p l e (sw_R 2 0 0 56) s m args below meth c Q 7 A D cT σ ce sl 48 [(0, P_ (some v0)), (1, I_ v1), (2, I_ v2), (3, I_ v3), (4, I_ v4)] []) (v0 : Nat) (v1 : Int32) (v2 : Int32) (v3 : Int32) (v4 : Int32) (σ : sw_S)  (ce sl : Nat) (h : b_X8_prove_170 rec48 v0 v1 v2 v3 v4 σ = some (r, σ')) (hce : ce + (0) ≤ 0) (hsl : sl + (0) ≤ 0) : sw_G p l e (sw_R 2 0 0 56) s m args below meth c Q 7 A D cT σ ce sl 170 [(0, P_ (some v0)), (1, I_ v1), (2, I_ v2), (3, I_ v3), (4, I_ v4)] [] := by
  unfold b_X8_prove_170 at h
  refine g_goto (pc := 170) (tgt := 48) K dX8_prove_170 (by decide) ?_
  refine g_sub K [0, 1, 2, 3, 4] rfl ?_
  exact hrec48 _ _ _ _ _ _ _ _ h (by omega) (by omega)
def b_X8_prove_160 (rec48 : Nat → Int32 → Int32 → Int32 → Int32 → sw_S → Option (Int32 × sw_S)) (v0 : Nat) (v1 : Int32) (v2 : Int32) (v3 : Int32) (v4 : Int32) (v5 : Int32) (σ : sw_S) : Option (Int32 × sw_S) :=
  (sw_ob 8 v0 σ).bind fun f1 =>
  sw_b2 (f_X8_tellNode v0 v5 v4 σ) fun x4 σ5 =>
  b_X8_prove_170 rec48 v0 v1 v2 v3 x4 σ5
set_option maxHeartbeats 4000000 in
set_option maxRecDepth 100000 in
theorem w_X8_prove_160 {p : Program} {l : Launch} {e : Env} {s : State} {m : MethodId} {args : Array Value} {below : List Frame} {meth : Method} {c : Code} {Q : State → Prop} {A : Nat → Prop} {D : va_G} {cT : Nat → ClassId} {r : Int32}  {σ' : sw_S}  (K : sw_C p s m args c cX8_prove 7 RX8 A D cT) (hT : sw_Ti cX8_prove p l e (sw_R 2 0 0 56) s m args below meth c Q 7 A D cT 0 0 σ' r) {rec48 : Nat → Int32 → Int32 → Int32 → Int32 → sw_S → Option (Int32 × sw_S)} (hrec48 : ∀ (v0 : Nat) (v1 : Int32) (v2 : Int32) (v3 : Int32) (v4 : Int32) (σ : sw_S) (ce sl : Nat), rec48 v0 v1 v2 v3 v4 σ = some (r, σ') → ce + (0) ≤ 0 → sl + (0) ≤ 0 → sw_G p l e (sw_R 2 0 0 56) s m args below meth c Q 7 A D cT σ ce sl 48 [(0, P_ (some v0)), (1, I_ v1), (2, I_ v2), (3, I_ v3), (4, I_ v4)] []) (v0 : Nat) (v1 : Int32) (v2 : Int32) (v3 : Int32) (v4 : Int32) (v5 : Int32) (σ : sw_S)  (ce sl : Nat) (h : b_X8_prove_160 rec48 v0 v1 v2 v3 v4 v5 σ = some (r, σ')) (hce : ce + (0) ≤ 0) (hsl : sl + (0) ≤ 0) : sw_G p l e (sw_R 2 0 0 56) s m args below meth c Q 7 A D cT σ ce sl 160 [(0, P_ (some v0)), (1, I_ v1), (2, I_ v2), (3, I_ v3), (4, I_ v4), (5, I_ v5)] [] := by
  unfold b_X8_prove_160 at h
  refine g_aload_n (pc := 160) K 0 rfl rfl dX8_prove_160 ?_
  refine g_iload (pc := 161) K 5 rfl dX8_prove_161 ?_
  refine g_iload (pc := 163) K 4 rfl dX8_prove_163 ?_
  replace h := Option.bind_eq_some_iff.mp h
  obtain ⟨f1, e2, h⟩ := h
  replace h := sw_b2_eq h
  obtain ⟨x4, σ5, e3, h⟩ := h
  refine g_callV (pc := 165) (st := []) K [I_ v5, I_ v4] (c_X8_tellNode _ _ _ _ _ _ _ e3) e2 cl_8 rfl tb_696 tb_693 tb_7 tb_695 sl_37 hd_X8_tellNode ⟨Nat.le_of_ble_eq_true rfl, Nat.le_of_ble_eq_true rfl⟩ rfl (sw_rm (Nat.le_of_ble_eq_true rfl)) ⟨by show _ ≤ 0; omega, by show _ ≤ 0; omega⟩ dX8_prove_165 ?_
  refine g_istore (pc := 168) K [(4, I_ x4), (0, P_ (some v0)), (1, I_ v1), (2, I_ v2), (3, I_ v3), (5, I_ v5)] (by decide) rfl dX8_prove_168 ?_
  refine g_sub K [1, 2, 3, 4, 0] rfl ?_
  exact w_X8_prove_170 K hT hrec48  _ _ _ _ _ _ _ _ h (by omega) (by omega)
def b_X8_prove_84 (rec48 : Nat → Int32 → Int32 → Int32 → Int32 → sw_S → Option (Int32 × sw_S)) (v0 : Nat) (v1 : Int32) (v2 : Int32) (v3 : Int32) (v4 : Int32) (v5 : Int32) (t0 : Int32) (σ : sw_S) : Option (Int32 × sw_S) :=
  (if t0 = 0 then
  (sw_gR 8 v0 14 σ).bind fun r2 =>
  r2.bind fun a4 =>
  (sw_jl a4 v4 σ).bind fun x6 =>
  (sw_gR 8 v0 15 σ).bind fun r7 =>
  r7.bind fun a9 =>
  (sw_jl a9 v4 σ).bind fun x11 =>
  (f_X8_isLeft x6 x11 v1 v2 v3 σ).bind fun x13 =>
  (if x13 = 0 then
  b_X8_prove_160 rec48 v0 v1 v2 v3 v4 v5 σ
  else
  (sw_ob 8 v0 σ).bind fun f15 =>
  (f_X8_tell v0 0 σ).bind fun σ18 =>
  (sw_gR 8 v0 3 σ18).bind fun r19 =>
  (sw_gR 8 v0 9 σ18).bind fun r21 =>
  r21.bind fun a23 =>
  (sw_al 0 a23 v5 σ18).bind fun x25 =>
  r19.bind fun a26 =>
  (sw_al 0 a26 x25 σ18).bind fun x28 =>
  (sw_ob 8 v0 σ18).bind fun f29 =>
  (f_X8_tell v0 x28 σ18).bind fun σ32 =>
  (sw_gR 8 v0 8 σ32).bind fun r33 =>
  r33.bind fun a35 =>
  (sw_al 0 a35 v5 σ32).bind fun x37 =>
  (sw_ob 8 v0 σ32).bind fun f38 =>
  (f_X8_tell v0 x37 σ32).bind fun σ41 =>
  (sw_gR 8 v0 10 σ41).bind fun r42 =>
  r42.bind fun a44 =>
  (sw_al 0 a44 v5 σ41).bind fun x46 =>
  (sw_ob 8 v0 σ41).bind fun f47 =>
  (f_X8_tell v0 x46 σ41).bind fun σ50 =>
  b_X8_prove_170 rec48 v0 v1 v2 v3 v4 σ50)
  else
  b_X8_prove_160 rec48 v0 v1 v2 v3 v4 v5 σ)
set_option maxHeartbeats 4000000 in
set_option maxRecDepth 100000 in
theorem w_X8_prove_84 {p : Program} {l : Launch} {e : Env} {s : State} {m : MethodId} {args : Array Value} {below : List Frame} {meth : Method} {c : Code} {Q : State → Prop} {A : Nat → Prop} {D : va_G} {cT : Nat → ClassId} {r : Int32}  {σ' : sw_S}  (K : sw_C p s m args c cX8_prove 7 RX8 A D cT) (hT : sw_Ti cX8_prove p l e (sw_R 2 0 0 56) s m args below meth c Q 7 A D cT 0 0 σ' r) {rec48 : Nat → Int32 → Int32 → Int32 → Int32 → sw_S → Option (Int32 × sw_S)} (hrec48 : ∀ (v0 : Nat) (v1 : Int32) (v2 : Int32) (v3 : Int32) (v4 : Int32) (σ : sw_S) (ce sl : Nat), rec48 v0 v1 v2 v3 v4 σ = some (r, σ') → ce + (0) ≤ 0 → sl + (0) ≤ 0 → sw_G p l e (sw_R 2 0 0 56) s m args below meth c Q 7 A D cT σ ce sl 48 [(0, P_ (some v0)), (1, I_ v1), (2, I_ v2), (3, I_ v3), (4, I_ v4)] []) (v0 : Nat) (v1 : Int32) (v2 : Int32) (v3 : Int32) (v4 : Int32) (v5 : Int32) (t0 : Int32) (σ : sw_S)  (ce sl : Nat) (h : b_X8_prove_84 rec48 v0 v1 v2 v3 v4 v5 t0 σ = some (r, σ')) (hce : ce + (0) ≤ 0) (hsl : sl + (0) ≤ 0) : sw_G p l e (sw_R 2 0 0 56) s m args below meth c Q 7 A D cT σ ce sl 84 [(0, P_ (some v0)), (1, I_ v1), (2, I_ v2), (3, I_ v3), (4, I_ v4), (5, I_ v5)] [I_ t0] := by
  unfold b_X8_prove_84 at h
  refine g_istore (pc := 84) K [(6, I_ t0), (0, P_ (some v0)), (1, I_ v1), (2, I_ v2), (3, I_ v3), (4, I_ v4), (5, I_ v5)] (by decide) rfl dX8_prove_84 ?_
  refine g_iload (pc := 86) K 0 rfl dX8_prove_86 ?_
  refine g_if_ne (pc := 88) K 160 dX8_prove_88 (by decide) (fun c1 => ?_) (fun c1 => ?_)
  · replace h := (if_pos c1).symm.trans h
    refine g_aload_n (pc := 91) K 1 rfl rfl dX8_prove_91 ?_
    replace h := Option.bind_eq_some_iff.mp h
    obtain ⟨r2, e3, h⟩ := h
    refine g_getR (pc := 92) K cl_8 hin_X8 (k := 14) (by decide) tb_532 rfl e3 dX8_prove_92 ?_
    refine g_iload (pc := 95) K 5 rfl dX8_prove_95 ?_
    replace h := Option.bind_eq_some_iff.mp h
    obtain ⟨a4, rfl, h⟩ := h
    replace h := Option.bind_eq_some_iff.mp h
    obtain ⟨x6, e5, h⟩ := h
    refine g_jald (pc := 97) K e5 dX8_prove_97 ?_
    refine g_aload_n (pc := 98) K 1 rfl rfl dX8_prove_98 ?_
    replace h := Option.bind_eq_some_iff.mp h
    obtain ⟨r7, e8, h⟩ := h
    refine g_getR (pc := 99) K cl_8 hin_X8 (k := 15) (by decide) tb_533 rfl e8 dX8_prove_99 ?_
    refine g_iload (pc := 102) K 5 rfl dX8_prove_102 ?_
    replace h := Option.bind_eq_some_iff.mp h
    obtain ⟨a9, rfl, h⟩ := h
    replace h := Option.bind_eq_some_iff.mp h
    obtain ⟨x11, e10, h⟩ := h
    refine g_jald (pc := 104) K e10 dX8_prove_104 ?_
    refine g_iload_n (pc := 105) K 2 rfl rfl dX8_prove_105 ?_
    refine g_iload_n (pc := 106) K 3 rfl rfl dX8_prove_106 ?_
    refine g_iload_n (pc := 107) K 4 rfl rfl dX8_prove_107 ?_
    replace h := Option.bind_eq_some_iff.mp h
    obtain ⟨x13, e12, h⟩ := h
    refine g_callS (pc := 108) (st := []) K [J_ x6, J_ x11, I_ v1, I_ v2, I_ v3] (c_X8_isLeft _ _ _ _ _ _ _ _ _ e12) tb_688 tb_686 tb_7 tb_687 hd_X8_isLeft ⟨Nat.le_of_ble_eq_true rfl, Nat.le_of_ble_eq_true rfl⟩ rfl (sw_rm (Nat.le_of_ble_eq_true rfl)) ⟨by show _ ≤ 0; omega, by show _ ≤ 0; omega⟩ dX8_prove_108 ?_
    refine g_if_eq (pc := 111) K 160 dX8_prove_111 (by decide) (fun c14 => ?_) (fun c14 => ?_)
    · replace h := (if_pos c14).symm.trans h
      refine g_sub K [1, 2, 3, 4, 5, 6] rfl ?_
      exact w_X8_prove_160 K hT hrec48  _ _ _ _ _ _ _ _ _ h (by omega) (by omega)
    · replace h := (if_neg c14).symm.trans h
      refine g_aload_n (pc := 114) K 1 rfl rfl dX8_prove_114 ?_
      refine g_iconst (pc := 115) (v := 0) K dX8_prove_115 (by decide) ?_
      replace h := Option.bind_eq_some_iff.mp h
      obtain ⟨f15, e16, h⟩ := h
      replace h := Option.bind_eq_some_iff.mp h
      obtain ⟨σ18, e17, h⟩ := h
      refine g_callV (pc := 116) (st := []) K [I_ 0] (c_X8_tell _ _ _ _ _ _ e17) e16 cl_8 rfl tb_692 tb_689 tb_7 tb_691 sl_36 hd_X8_tell ⟨Nat.le_of_ble_eq_true rfl, Nat.le_of_ble_eq_true rfl⟩ rfl (sw_rm (Nat.le_of_ble_eq_true rfl)) ⟨by show _ ≤ 0; omega, by show _ ≤ 0; omega⟩ dX8_prove_116 ?_
      refine g_aload_n (pc := 119) K 1 rfl rfl dX8_prove_119 ?_
      refine g_aload_n (pc := 120) K 1 rfl rfl dX8_prove_120 ?_
      replace h := Option.bind_eq_some_iff.mp h
      obtain ⟨r19, e20, h⟩ := h
      refine g_getR (pc := 121) K cl_8 hin_X8 (k := 3) (by decide) tb_521 rfl e20 dX8_prove_121 ?_
      refine g_aload_n (pc := 124) K 1 rfl rfl dX8_prove_124 ?_
      replace h := Option.bind_eq_some_iff.mp h
      obtain ⟨r21, e22, h⟩ := h
      refine g_getR (pc := 125) K cl_8 hin_X8 (k := 9) (by decide) tb_527 rfl e22 dX8_prove_125 ?_
      refine g_iload (pc := 128) K 6 rfl dX8_prove_128 ?_
      replace h := Option.bind_eq_some_iff.mp h
      obtain ⟨a23, rfl, h⟩ := h
      replace h := Option.bind_eq_some_iff.mp h
      obtain ⟨x25, e24, h⟩ := h
      refine g_iald (pc := 130) K e24 dX8_prove_130 ?_
      replace h := Option.bind_eq_some_iff.mp h
      obtain ⟨a26, rfl, h⟩ := h
      replace h := Option.bind_eq_some_iff.mp h
      obtain ⟨x28, e27, h⟩ := h
      refine g_iald (pc := 131) K e27 dX8_prove_131 ?_
      replace h := Option.bind_eq_some_iff.mp h
      obtain ⟨f29, e30, h⟩ := h
      replace h := Option.bind_eq_some_iff.mp h
      obtain ⟨σ32, e31, h⟩ := h
      refine g_callV (pc := 132) (st := []) K [I_ x28] (c_X8_tell _ _ _ _ _ _ e31) e30 cl_8 rfl tb_692 tb_689 tb_7 tb_691 sl_36 hd_X8_tell ⟨Nat.le_of_ble_eq_true rfl, Nat.le_of_ble_eq_true rfl⟩ rfl (sw_rm (Nat.le_of_ble_eq_true rfl)) ⟨by show _ ≤ 0; omega, by show _ ≤ 0; omega⟩ dX8_prove_132 ?_
      refine g_aload_n (pc := 135) K 1 rfl rfl dX8_prove_135 ?_
      refine g_aload_n (pc := 136) K 1 rfl rfl dX8_prove_136 ?_
      replace h := Option.bind_eq_some_iff.mp h
      obtain ⟨r33, e34, h⟩ := h
      refine g_getR (pc := 137) K cl_8 hin_X8 (k := 8) (by decide) tb_526 rfl e34 dX8_prove_137 ?_
      refine g_iload (pc := 140) K 6 rfl dX8_prove_140 ?_
      replace h := Option.bind_eq_some_iff.mp h
      obtain ⟨a35, rfl, h⟩ := h
      replace h := Option.bind_eq_some_iff.mp h
      obtain ⟨x37, e36, h⟩ := h
      refine g_iald (pc := 142) K e36 dX8_prove_142 ?_
      replace h := Option.bind_eq_some_iff.mp h
      obtain ⟨f38, e39, h⟩ := h
      replace h := Option.bind_eq_some_iff.mp h
      obtain ⟨σ41, e40, h⟩ := h
      refine g_callV (pc := 143) (st := []) K [I_ x37] (c_X8_tell _ _ _ _ _ _ e40) e39 cl_8 rfl tb_692 tb_689 tb_7 tb_691 sl_36 hd_X8_tell ⟨Nat.le_of_ble_eq_true rfl, Nat.le_of_ble_eq_true rfl⟩ rfl (sw_rm (Nat.le_of_ble_eq_true rfl)) ⟨by show _ ≤ 0; omega, by show _ ≤ 0; omega⟩ dX8_prove_143 ?_
      refine g_aload_n (pc := 146) K 1 rfl rfl dX8_prove_146 ?_
      refine g_aload_n (pc := 147) K 1 rfl rfl dX8_prove_147 ?_
      replace h := Option.bind_eq_some_iff.mp h
      obtain ⟨r42, e43, h⟩ := h
      refine g_getR (pc := 148) K cl_8 hin_X8 (k := 10) (by decide) tb_528 rfl e43 dX8_prove_148 ?_
      refine g_iload (pc := 151) K 6 rfl dX8_prove_151 ?_
      replace h := Option.bind_eq_some_iff.mp h
      obtain ⟨a44, rfl, h⟩ := h
      replace h := Option.bind_eq_some_iff.mp h
      obtain ⟨x46, e45, h⟩ := h
      refine g_iald (pc := 153) K e45 dX8_prove_153 ?_
      replace h := Option.bind_eq_some_iff.mp h
      obtain ⟨f47, e48, h⟩ := h
      replace h := Option.bind_eq_some_iff.mp h
      obtain ⟨σ50, e49, h⟩ := h
      refine g_callV (pc := 154) (st := []) K [I_ x46] (c_X8_tell _ _ _ _ _ _ e49) e48 cl_8 rfl tb_692 tb_689 tb_7 tb_691 sl_36 hd_X8_tell ⟨Nat.le_of_ble_eq_true rfl, Nat.le_of_ble_eq_true rfl⟩ rfl (sw_rm (Nat.le_of_ble_eq_true rfl)) ⟨by show _ ≤ 0; omega, by show _ ≤ 0; omega⟩ dX8_prove_154 ?_
      refine g_goto (pc := 157) (tgt := 170) K dX8_prove_157 (by decide) ?_
      refine g_sub K [1, 2, 3, 4, 5] rfl ?_
      exact w_X8_prove_170 K hT hrec48  _ _ _ _ _ _ _ _ h (by omega) (by omega)
  · replace h := (if_neg c1).symm.trans h
    refine g_sub K [1, 2, 3, 4, 5, 6] rfl ?_
    exact w_X8_prove_160 K hT hrec48  _ _ _ _ _ _ _ _ _ h (by omega) (by omega)
def B_X8_prove_48 (rec48 : Nat → Int32 → Int32 → Int32 → Int32 → sw_S → Option (Int32 × sw_S)) (v0 : Nat) (v1 : Int32) (v2 : Int32) (v3 : Int32) (v4 : Int32) (σ : sw_S) : Option (Int32 × sw_S) :=
  (if v4 ≤ 0 then
  (sw_gI 8 v0 12 σ).bind fun x2 =>
  some (x2, σ)
  else
  (sw_gR 8 v0 13 σ).bind fun r4 =>
  r4.bind fun a6 =>
  (sw_al 0 a6 ((v4 + (-1))) σ).bind fun x8 =>
  (sw_gI 8 v0 5 σ).bind fun x9 =>
  (if x8 = ((64 * ((x9 - 1)))) then
  b_X8_prove_84 rec48 v0 v1 v2 v3 ((v4 + (-1))) x8 1 σ
  else
  b_X8_prove_84 rec48 v0 v1 v2 v3 ((v4 + (-1))) x8 0 σ))
set_option maxHeartbeats 4000000 in
set_option maxRecDepth 100000 in
theorem wB_X8_prove_48 {p : Program} {l : Launch} {e : Env} {s : State} {m : MethodId} {args : Array Value} {below : List Frame} {meth : Method} {c : Code} {Q : State → Prop} {A : Nat → Prop} {D : va_G} {cT : Nat → ClassId} {r : Int32}  {σ' : sw_S}  (K : sw_C p s m args c cX8_prove 7 RX8 A D cT) (hT : sw_Ti cX8_prove p l e (sw_R 2 0 0 56) s m args below meth c Q 7 A D cT 0 0 σ' r) {rec48 : Nat → Int32 → Int32 → Int32 → Int32 → sw_S → Option (Int32 × sw_S)} (hrec48 : ∀ (v0 : Nat) (v1 : Int32) (v2 : Int32) (v3 : Int32) (v4 : Int32) (σ : sw_S) (ce sl : Nat), rec48 v0 v1 v2 v3 v4 σ = some (r, σ') → ce + (0) ≤ 0 → sl + (0) ≤ 0 → sw_G p l e (sw_R 2 0 0 56) s m args below meth c Q 7 A D cT σ ce sl 48 [(0, P_ (some v0)), (1, I_ v1), (2, I_ v2), (3, I_ v3), (4, I_ v4)] []) (v0 : Nat) (v1 : Int32) (v2 : Int32) (v3 : Int32) (v4 : Int32) (σ : sw_S)  (ce sl : Nat) (h : B_X8_prove_48 rec48 v0 v1 v2 v3 v4 σ = some (r, σ')) (hce : ce + (0) ≤ 0) (hsl : sl + (0) ≤ 0) : sw_G p l e (sw_R 2 0 0 56) s m args below meth c Q 7 A D cT σ ce sl 48 [(0, P_ (some v0)), (1, I_ v1), (2, I_ v2), (3, I_ v3), (4, I_ v4)] [] := by
  unfold B_X8_prove_48 at h
  refine g_iload (pc := 48) K 4 rfl dX8_prove_48 ?_
  refine g_if_le (pc := 50) K 173 dX8_prove_50 (by decide) (fun c1 => ?_) (fun c1 => ?_)
  · replace h := (if_pos c1).symm.trans h
    refine g_aload_n (pc := 173) K 0 rfl rfl dX8_prove_173 ?_
    replace h := Option.bind_eq_some_iff.mp h
    obtain ⟨x2, e3, h⟩ := h
    refine g_getI (pc := 174) K cl_8 hin_X8 (k := 12) (by decide) tb_530 rfl e3 dX8_prove_174 ?_
    cases h
    exact hT _ _ 177 _ (by omega) (by omega) dX8_prove_177
  · replace h := (if_neg c1).symm.trans h
    refine g_iinc (pc := 53) K 4 (v4 + (-1)) [(4, I_ ((v4 + (-1)))), (0, P_ (some v0)), (1, I_ v1), (2, I_ v2), (3, I_ v3)] rfl (congrArg (fun z => v4 + z) (by decide : Int32.ofInt (-1) = (-1))) (by decide) rfl dX8_prove_53 ?_
    refine g_aload_n (pc := 56) K 1 rfl rfl dX8_prove_56 ?_
    replace h := Option.bind_eq_some_iff.mp h
    obtain ⟨r4, e5, h⟩ := h
    refine g_getR (pc := 57) K cl_8 hin_X8 (k := 13) (by decide) tb_531 rfl e5 dX8_prove_57 ?_
    refine g_iload (pc := 60) K 0 rfl dX8_prove_60 ?_
    replace h := Option.bind_eq_some_iff.mp h
    obtain ⟨a6, rfl, h⟩ := h
    replace h := Option.bind_eq_some_iff.mp h
    obtain ⟨x8, e7, h⟩ := h
    refine g_iald (pc := 62) K e7 dX8_prove_62 ?_
    refine g_istore (pc := 63) K [(5, I_ x8), (4, I_ ((v4 + (-1)))), (0, P_ (some v0)), (1, I_ v1), (2, I_ v2), (3, I_ v3)] (by decide) rfl dX8_prove_63 ?_
    refine g_iload (pc := 65) K 0 rfl dX8_prove_65 ?_
    refine g_bipush (pc := 67) (v := 64) K dX8_prove_67 (by decide) ?_
    refine g_aload_n (pc := 69) K 2 rfl rfl dX8_prove_69 ?_
    replace h := Option.bind_eq_some_iff.mp h
    obtain ⟨x9, e10, h⟩ := h
    refine g_getI (pc := 70) K cl_8 hin_X8 (k := 5) (by decide) tb_523 rfl e10 dX8_prove_70 ?_
    refine g_iconst (pc := 73) (v := 1) K dX8_prove_73 (by decide) ?_
    refine g_isub (pc := 74) K dX8_prove_74 ?_
    refine g_imul (pc := 75) K dX8_prove_75 ?_
    refine g_icmp_ne (pc := 76) K 83 dX8_prove_76 (by decide) (fun c11 => ?_) (fun c11 => ?_)
    · replace h := (if_pos c11).symm.trans h
      refine g_iconst (pc := 79) (v := 1) K dX8_prove_79 (by decide) ?_
      refine g_goto (pc := 80) (tgt := 84) K dX8_prove_80 (by decide) ?_
      refine g_sub K [2, 3, 4, 5, 1, 0] rfl ?_
      exact w_X8_prove_84 K hT hrec48  _ _ _ _ _ _ _ _ _ _ h (by omega) (by omega)
    · replace h := (if_neg c11).symm.trans h
      refine g_iconst (pc := 83) (v := 0) K dX8_prove_83 (by decide) ?_
      refine g_sub K [2, 3, 4, 5, 1, 0] rfl ?_
      exact w_X8_prove_84 K hT hrec48  _ _ _ _ _ _ _ _ _ _ h (by omega) (by omega)
def b_X8_prove_48  : Nat → Nat → Int32 → Int32 → Int32 → Int32 → sw_S → Option (Int32 × sw_S)
  | 0 => fun _ _ _ _ _ _ => none
  | n + 1 => B_X8_prove_48 (b_X8_prove_48  n)
theorem wl_X8_prove_48 {p : Program} {l : Launch} {e : Env} {s : State} {m : MethodId} {args : Array Value} {below : List Frame} {meth : Method} {c : Code} {Q : State → Prop} {A : Nat → Prop} {D : va_G} {cT : Nat → ClassId} {r : Int32}  {σ' : sw_S}  (K : sw_C p s m args c cX8_prove 7 RX8 A D cT) (hT : sw_Ti cX8_prove p l e (sw_R 2 0 0 56) s m args below meth c Q 7 A D cT 0 0 σ' r) : ∀ (n : Nat) (v0 : Nat) (v1 : Int32) (v2 : Int32) (v3 : Int32) (v4 : Int32) (σ : sw_S) (ce sl : Nat), b_X8_prove_48  n v0 v1 v2 v3 v4 σ = some (r, σ') → ce + (0) ≤ 0 → sl + (0) ≤ 0 → sw_G p l e (sw_R 2 0 0 56) s m args below meth c Q 7 A D cT σ ce sl 48 [(0, P_ (some v0)), (1, I_ v1), (2, I_ v2), (3, I_ v3), (4, I_ v4)] [] := by
  intro n
  induction n with
  | zero =>
    intro v0 v1 v2 v3 v4 σ ce sl h
    exact absurd (show none = some (r, σ') from h) (by simp)
  | succ n ih =>
    intro v0 v1 v2 v3 v4 σ ce sl h hce hsl
    exact wB_X8_prove_48 K hT (fun _ _ _ _ _ _ _ _ h h1 h2 => ih _ _ _ _ _ _ _ _ h h1 h2) _ _ _ _ _ _ _ _ h hce hsl
def f_X8_prove (p0 : Nat) (q1 : Int32) (q2 : Int32) (q3 : Int32) (σ : sw_S) : Option (Int32 × sw_S) :=
  (if q1 ≤ q2 then
  (sw_pt 8 p0 12 (.int 0) σ).bind fun σ2 =>
  (sw_gR 8 p0 13 σ2).bind fun r4 =>
  (sw_gI 8 p0 5 σ2).bind fun x6 =>
  r4.bind fun a8 =>
  (sw_as 0 a8 0 ((64 * ((x6 - 1)))) σ2).bind fun σ10 =>
  (sw_gR 8 p0 14 σ10).bind fun r11 =>
  r11.bind fun a13 =>
  (sw_js a13 0 ((-1099511627776)) σ10).bind fun σ15 =>
  (sw_gR 8 p0 15 σ15).bind fun r16 =>
  r16.bind fun a18 =>
  (sw_js a18 0 1099511627776 σ15).bind fun σ20 =>
  b_X8_prove_48 1000 p0 q1 q2 q3 1 σ20
  else
  some ((-1), σ))
set_option maxHeartbeats 4000000 in
set_option maxRecDepth 100000 in
theorem c_X8_prove  (l : Launch) (D : va_G) (cT : Nat → ClassId) (p0 : Nat) (q1 : Int32) (q2 : Int32) (q3 : Int32) (σ : sw_S) {r : Int32} {σ' : sw_S} (h : f_X8_prove p0 q1 q2 q3 σ = some (r, σ')) : sw_M l D cT yX8_prove cX8_prove 7 (some .int) 2 56 0 0 σ [P_ (some p0), I_ q1, I_ q2, I_ q3] (some (I_ r)) σ' := by
  refine sw_met_i (by decide) (Nat.le_of_ble_eq_true rfl) (fun p e s m args below meth c A Q K hnm hT => ?_)
  have hce : 0 + 0 ≤ 0 := Nat.le_of_ble_eq_true rfl
  have hsl : 0 + 0 ≤ 0 := Nat.le_of_ble_eq_true rfl
  unfold f_X8_prove at h
  change sw_G p l e (sw_R 2 0 0 56) s m args below meth c Q 7 A D cT σ 0 0 0 [(0, P_ (some p0)), (1, I_ q1), (2, I_ q2), (3, I_ q3)] []
  refine g_iload_n (pc := 0) K 1 rfl rfl dX8_prove_0 ?_
  refine g_iload_n (pc := 1) K 2 rfl rfl dX8_prove_1 ?_
  refine g_icmp_le (pc := 2) K 7 dX8_prove_2 (by decide) (fun c1 => ?_) (fun c1 => ?_)
  · replace h := (if_pos c1).symm.trans h
    refine g_aload_n (pc := 7) K 0 rfl rfl dX8_prove_7 ?_
    refine g_iconst (pc := 8) (v := 0) K dX8_prove_8 (by decide) ?_
    replace h := Option.bind_eq_some_iff.mp h
    obtain ⟨σ2, e3, h⟩ := h
    refine g_put (pc := 9) K cl_8 hin_X8 (k := 12) (by decide) tb_530 rfl tyX8 tyX8_ok nmX8 (Or.inl rfl) rfl rfl e3 dX8_prove_9 ?_
    refine g_iconst (pc := 12) (v := 1) K dX8_prove_12 (by decide) ?_
    refine g_istore (pc := 13) K [(4, I_ 1), (0, P_ (some p0)), (1, I_ q1), (2, I_ q2), (3, I_ q3)] (by decide) rfl dX8_prove_13 ?_
    refine g_aload_n (pc := 15) K 1 rfl rfl dX8_prove_15 ?_
    replace h := Option.bind_eq_some_iff.mp h
    obtain ⟨r4, e5, h⟩ := h
    refine g_getR (pc := 16) K cl_8 hin_X8 (k := 13) (by decide) tb_531 rfl e5 dX8_prove_16 ?_
    refine g_iconst (pc := 19) (v := 0) K dX8_prove_19 (by decide) ?_
    refine g_bipush (pc := 20) (v := 64) K dX8_prove_20 (by decide) ?_
    refine g_aload_n (pc := 22) K 1 rfl rfl dX8_prove_22 ?_
    replace h := Option.bind_eq_some_iff.mp h
    obtain ⟨x6, e7, h⟩ := h
    refine g_getI (pc := 23) K cl_8 hin_X8 (k := 5) (by decide) tb_523 rfl e7 dX8_prove_23 ?_
    refine g_iconst (pc := 26) (v := 1) K dX8_prove_26 (by decide) ?_
    refine g_isub (pc := 27) K dX8_prove_27 ?_
    refine g_imul (pc := 28) K dX8_prove_28 ?_
    replace h := Option.bind_eq_some_iff.mp h
    obtain ⟨a8, rfl, h⟩ := h
    replace h := Option.bind_eq_some_iff.mp h
    obtain ⟨σ10, e9, h⟩ := h
    refine g_iast (pc := 29) K e9 dX8_prove_29 ?_
    refine g_aload_n (pc := 30) K 1 rfl rfl dX8_prove_30 ?_
    replace h := Option.bind_eq_some_iff.mp h
    obtain ⟨r11, e12, h⟩ := h
    refine g_getR (pc := 31) K cl_8 hin_X8 (k := 14) (by decide) tb_532 rfl e12 dX8_prove_31 ?_
    refine g_iconst (pc := 34) (v := 0) K dX8_prove_34 (by decide) ?_
    refine g_ldc2 (pc := 35) (v := (-1099511627776)) K tb_684 dX8_prove_35 ?_
    replace h := Option.bind_eq_some_iff.mp h
    obtain ⟨a13, rfl, h⟩ := h
    replace h := Option.bind_eq_some_iff.mp h
    obtain ⟨σ15, e14, h⟩ := h
    refine g_jast (pc := 38) K e14 dX8_prove_38 ?_
    refine g_aload_n (pc := 39) K 1 rfl rfl dX8_prove_39 ?_
    replace h := Option.bind_eq_some_iff.mp h
    obtain ⟨r16, e17, h⟩ := h
    refine g_getR (pc := 40) K cl_8 hin_X8 (k := 15) (by decide) tb_533 rfl e17 dX8_prove_40 ?_
    refine g_iconst (pc := 43) (v := 0) K dX8_prove_43 (by decide) ?_
    refine g_ldc2 (pc := 44) (v := 1099511627776) K tb_685 dX8_prove_44 ?_
    replace h := Option.bind_eq_some_iff.mp h
    obtain ⟨a18, rfl, h⟩ := h
    replace h := Option.bind_eq_some_iff.mp h
    obtain ⟨σ20, e19, h⟩ := h
    refine g_jast (pc := 47) K e19 dX8_prove_47 ?_
    refine g_sub K [1, 2, 3, 4, 0] rfl ?_
    exact wl_X8_prove_48 K hT  1000 _ _ _ _ _ _ _ _ h (by omega) (by omega)
  · replace h := (if_neg c1).symm.trans h
    refine g_iconst (pc := 5) (v := (-1)) K dX8_prove_5 (by decide) ?_
    cases h
    exact hT _ _ 6 _ (by omega) (by omega) dX8_prove_6

def b_X8_token_22 (t0 : Int32) (σ : sw_S) : Option Int32 :=
  some t0
set_option maxHeartbeats 4000000 in
set_option maxRecDepth 100000 in
theorem w_X8_token_22 {p : Program} {l : Launch} {e : Env} {s : State} {m : MethodId} {args : Array Value} {below : List Frame} {meth : Method} {c : Code} {Q : State → Prop} {A : Nat → Prop} {D : va_G} {cT : Nat → ClassId} {σ : sw_S}  {r : Int32}  (K : sw_C p s m args c cX8_token 2 RX8 A D cT) (hT : sw_Ti cX8_token p l e (sw_R 0 0 0 0) s m args below meth c Q 2 A D cT 0 0 σ r) (t0 : Int32) (ce sl : Nat) (h : b_X8_token_22 t0 σ = some r) (hce : ce + (0) ≤ 0) (hsl : sl + (0) ≤ 0) : sw_G p l e (sw_R 0 0 0 0) s m args below meth c Q 2 A D cT σ ce sl 22 [] [I_ t0] := by
  unfold b_X8_token_22 at h
  cases h
  exact hT _ _ 22 _ (by omega) (by omega) dX8_token_22
def b_X8_token_21 (σ : sw_S) : Option Int32 :=
  b_X8_token_22 0 σ
set_option maxHeartbeats 4000000 in
set_option maxRecDepth 100000 in
theorem w_X8_token_21 {p : Program} {l : Launch} {e : Env} {s : State} {m : MethodId} {args : Array Value} {below : List Frame} {meth : Method} {c : Code} {Q : State → Prop} {A : Nat → Prop} {D : va_G} {cT : Nat → ClassId} {σ : sw_S}  {r : Int32}  (K : sw_C p s m args c cX8_token 2 RX8 A D cT) (hT : sw_Ti cX8_token p l e (sw_R 0 0 0 0) s m args below meth c Q 2 A D cT 0 0 σ r) (ce sl : Nat) (h : b_X8_token_21  σ = some r) (hce : ce + (0) ≤ 0) (hsl : sl + (0) ≤ 0) : sw_G p l e (sw_R 0 0 0 0) s m args below meth c Q 2 A D cT σ ce sl 21 [] [] := by
  unfold b_X8_token_21 at h
  refine g_iconst (pc := 21) (v := 0) K dX8_token_21 (by decide) ?_
  refine g_sub K [] rfl ?_
  exact w_X8_token_22 K hT  _ _ _ h (by omega) (by omega)
def f_X8_token (p0 : Nat) (q1 : Int32) (σ : sw_S) : Option Int32 :=
  (if q1 < 0 then
  b_X8_token_21  σ
  else
  (sw_gI 8 p0 12 σ).bind fun x2 =>
  (if x2 ≤ q1 then
  b_X8_token_21  σ
  else
  (sw_gR 8 p0 11 σ).bind fun r5 =>
  r5.bind fun a7 =>
  (sw_al 0 a7 q1 σ).bind fun x9 =>
  b_X8_token_22 x9 σ))
set_option maxHeartbeats 4000000 in
set_option maxRecDepth 100000 in
theorem c_X8_token  (l : Launch) (D : va_G) (cT : Nat → ClassId) (p0 : Nat) (q1 : Int32) (σ : sw_S) {r : Int32} (h : f_X8_token p0 q1 σ = some r) : sw_M l D cT yX8_token cX8_token 2 (some .int) 0 0 0 0 σ [P_ (some p0), I_ q1] (some (I_ r)) σ := by
  refine sw_met_i (by decide) (Nat.le_of_ble_eq_true rfl) (fun p e s m args below meth c A Q K hnm hT => ?_)
  have hce : 0 + 0 ≤ 0 := Nat.le_of_ble_eq_true rfl
  have hsl : 0 + 0 ≤ 0 := Nat.le_of_ble_eq_true rfl
  unfold f_X8_token at h
  change sw_G p l e (sw_R 0 0 0 0) s m args below meth c Q 2 A D cT σ 0 0 0 [(0, P_ (some p0)), (1, I_ q1)] []
  refine g_iload_n (pc := 0) K 1 rfl rfl dX8_token_0 ?_
  refine g_if_lt (pc := 1) K 21 dX8_token_1 (by decide) (fun c1 => ?_) (fun c1 => ?_)
  · replace h := (if_pos c1).symm.trans h
    refine g_sub K [] rfl ?_
    exact w_X8_token_21 K hT   _ _ h (by omega) (by omega)
  · replace h := (if_neg c1).symm.trans h
    refine g_iload_n (pc := 4) K 1 rfl rfl dX8_token_4 ?_
    refine g_aload_n (pc := 5) K 0 rfl rfl dX8_token_5 ?_
    replace h := Option.bind_eq_some_iff.mp h
    obtain ⟨x2, e3, h⟩ := h
    refine g_getI (pc := 6) K cl_8 hin_X8 (k := 12) (by decide) tb_530 rfl e3 dX8_token_6 ?_
    refine g_icmp_ge (pc := 9) K 21 dX8_token_9 (by decide) (fun c4 => ?_) (fun c4 => ?_)
    · replace h := (if_pos c4).symm.trans h
      refine g_sub K [] rfl ?_
      exact w_X8_token_21 K hT   _ _ h (by omega) (by omega)
    · replace h := (if_neg c4).symm.trans h
      refine g_aload_n (pc := 12) K 0 rfl rfl dX8_token_12 ?_
      replace h := Option.bind_eq_some_iff.mp h
      obtain ⟨r5, e6, h⟩ := h
      refine g_getR (pc := 13) K cl_8 hin_X8 (k := 11) (by decide) tb_529 rfl e6 dX8_token_13 ?_
      refine g_iload_n (pc := 16) K 1 rfl rfl dX8_token_16 ?_
      replace h := Option.bind_eq_some_iff.mp h
      obtain ⟨a7, rfl, h⟩ := h
      replace h := Option.bind_eq_some_iff.mp h
      obtain ⟨x9, e8, h⟩ := h
      refine g_iald (pc := 17) K e8 dX8_token_17 ?_
      refine g_goto (pc := 18) (tgt := 22) K dX8_token_18 (by decide) ?_
      refine g_sub K [] rfl ?_
      exact w_X8_token_22 K hT  _ _ _ h (by omega) (by omega)

def b_X8_alter_12 (σ : sw_S) : Option (Int32 × sw_S) :=
  some (0, σ)
set_option maxHeartbeats 4000000 in
set_option maxRecDepth 100000 in
theorem w_X8_alter_12 {p : Program} {l : Launch} {e : Env} {s : State} {m : MethodId} {args : Array Value} {below : List Frame} {meth : Method} {c : Code} {Q : State → Prop} {A : Nat → Prop} {D : va_G} {cT : Nat → ClassId} {r : Int32}  {σ' : sw_S}  (K : sw_C p s m args c cX8_alter 3 RX8 A D cT) (hT : sw_Tz cX8_alter p l e (sw_R 0 0 0 0) s m args below meth c Q 3 A D cT 0 0 σ' r) (σ : sw_S)  (ce sl : Nat) (h : b_X8_alter_12  σ = some (r, σ')) (hce : ce + (0) ≤ 0) (hsl : sl + (0) ≤ 0) : sw_G p l e (sw_R 0 0 0 0) s m args below meth c Q 3 A D cT σ ce sl 12 [] [] := by
  unfold b_X8_alter_12 at h
  refine g_iconst (pc := 12) (v := 0) K dX8_alter_12 (by decide) ?_
  cases h
  exact hT _ _ 13 _ (by omega) (by omega) rfl dX8_alter_13
def f_X8_alter (p0 : Nat) (q1 : Int32) (q2 : Int32) (σ : sw_S) : Option (Int32 × sw_S) :=
  (if q1 < 0 then
  b_X8_alter_12 σ
  else
  (sw_gI 8 p0 12 σ).bind fun x2 =>
  (if q1 < x2 then
  (sw_gR 8 p0 11 σ).bind fun r5 =>
  r5.bind fun a7 =>
  (sw_as 0 a7 q1 q2 σ).bind fun σ9 =>
  some (1, σ9)
  else
  b_X8_alter_12 σ))
set_option maxHeartbeats 4000000 in
set_option maxRecDepth 100000 in
theorem c_X8_alter  (l : Launch) (D : va_G) (cT : Nat → ClassId) (p0 : Nat) (q1 : Int32) (q2 : Int32) (σ : sw_S) {r : Int32} {σ' : sw_S} (h : f_X8_alter p0 q1 q2 σ = some (r, σ')) : sw_M l D cT yX8_alter cX8_alter 3 (some .boolean) 0 0 0 0 σ [P_ (some p0), I_ q1, I_ q2] (some (I_ r)) σ' := by
  refine sw_met_z (by decide) (Nat.le_of_ble_eq_true rfl) (fun p e s m args below meth c A Q K hnm hT => ?_)
  have hce : 0 + 0 ≤ 0 := Nat.le_of_ble_eq_true rfl
  have hsl : 0 + 0 ≤ 0 := Nat.le_of_ble_eq_true rfl
  unfold f_X8_alter at h
  change sw_G p l e (sw_R 0 0 0 0) s m args below meth c Q 3 A D cT σ 0 0 0 [(0, P_ (some p0)), (1, I_ q1), (2, I_ q2)] []
  refine g_iload_n (pc := 0) K 1 rfl rfl dX8_alter_0 ?_
  refine g_if_lt (pc := 1) K 12 dX8_alter_1 (by decide) (fun c1 => ?_) (fun c1 => ?_)
  · replace h := (if_pos c1).symm.trans h
    refine g_sub K [] rfl ?_
    exact w_X8_alter_12 K hT   _ _ _ h (by omega) (by omega)
  · replace h := (if_neg c1).symm.trans h
    refine g_iload_n (pc := 4) K 1 rfl rfl dX8_alter_4 ?_
    refine g_aload_n (pc := 5) K 0 rfl rfl dX8_alter_5 ?_
    replace h := Option.bind_eq_some_iff.mp h
    obtain ⟨x2, e3, h⟩ := h
    refine g_getI (pc := 6) K cl_8 hin_X8 (k := 12) (by decide) tb_530 rfl e3 dX8_alter_6 ?_
    refine g_icmp_lt (pc := 9) K 14 dX8_alter_9 (by decide) (fun c4 => ?_) (fun c4 => ?_)
    · replace h := (if_pos c4).symm.trans h
      refine g_aload_n (pc := 14) K 0 rfl rfl dX8_alter_14 ?_
      replace h := Option.bind_eq_some_iff.mp h
      obtain ⟨r5, e6, h⟩ := h
      refine g_getR (pc := 15) K cl_8 hin_X8 (k := 11) (by decide) tb_529 rfl e6 dX8_alter_15 ?_
      refine g_iload_n (pc := 18) K 1 rfl rfl dX8_alter_18 ?_
      refine g_iload_n (pc := 19) K 2 rfl rfl dX8_alter_19 ?_
      replace h := Option.bind_eq_some_iff.mp h
      obtain ⟨a7, rfl, h⟩ := h
      replace h := Option.bind_eq_some_iff.mp h
      obtain ⟨σ9, e8, h⟩ := h
      refine g_iast (pc := 20) K e8 dX8_alter_20 ?_
      refine g_iconst (pc := 21) (v := 1) K dX8_alter_21 (by decide) ?_
      cases h
      exact hT _ _ 22 _ (by omega) (by omega) rfl dX8_alter_22
    · replace h := (if_neg c4).symm.trans h
      refine g_sub K [] rfl ?_
      exact w_X8_alter_12 K hT   _ _ _ h (by omega) (by omega)

def b_X8_trim_12 (σ : sw_S) : Option (Int32 × sw_S) :=
  some (0, σ)
set_option maxHeartbeats 4000000 in
set_option maxRecDepth 100000 in
theorem w_X8_trim_12 {p : Program} {l : Launch} {e : Env} {s : State} {m : MethodId} {args : Array Value} {below : List Frame} {meth : Method} {c : Code} {Q : State → Prop} {A : Nat → Prop} {D : va_G} {cT : Nat → ClassId} {r : Int32}  {σ' : sw_S}  (K : sw_C p s m args c cX8_trim 2 RX8 A D cT) (hT : sw_Tz cX8_trim p l e (sw_R 0 0 0 0) s m args below meth c Q 2 A D cT 0 0 σ' r) (σ : sw_S)  (ce sl : Nat) (h : b_X8_trim_12  σ = some (r, σ')) (hce : ce + (0) ≤ 0) (hsl : sl + (0) ≤ 0) : sw_G p l e (sw_R 0 0 0 0) s m args below meth c Q 2 A D cT σ ce sl 12 [] [] := by
  unfold b_X8_trim_12 at h
  refine g_iconst (pc := 12) (v := 0) K dX8_trim_12 (by decide) ?_
  cases h
  exact hT _ _ 13 _ (by omega) (by omega) rfl dX8_trim_13
def f_X8_trim (p0 : Nat) (q1 : Int32) (σ : sw_S) : Option (Int32 × sw_S) :=
  (if q1 < 0 then
  b_X8_trim_12 σ
  else
  (sw_gI 8 p0 12 σ).bind fun x2 =>
  (if q1 ≤ x2 then
  (sw_pt 8 p0 12 (.int q1) σ).bind fun σ5 =>
  some (1, σ5)
  else
  b_X8_trim_12 σ))
set_option maxHeartbeats 4000000 in
set_option maxRecDepth 100000 in
theorem c_X8_trim  (l : Launch) (D : va_G) (cT : Nat → ClassId) (p0 : Nat) (q1 : Int32) (σ : sw_S) {r : Int32} {σ' : sw_S} (h : f_X8_trim p0 q1 σ = some (r, σ')) : sw_M l D cT yX8_trim cX8_trim 2 (some .boolean) 0 0 0 0 σ [P_ (some p0), I_ q1] (some (I_ r)) σ' := by
  refine sw_met_z (by decide) (Nat.le_of_ble_eq_true rfl) (fun p e s m args below meth c A Q K hnm hT => ?_)
  have hce : 0 + 0 ≤ 0 := Nat.le_of_ble_eq_true rfl
  have hsl : 0 + 0 ≤ 0 := Nat.le_of_ble_eq_true rfl
  unfold f_X8_trim at h
  change sw_G p l e (sw_R 0 0 0 0) s m args below meth c Q 2 A D cT σ 0 0 0 [(0, P_ (some p0)), (1, I_ q1)] []
  refine g_iload_n (pc := 0) K 1 rfl rfl dX8_trim_0 ?_
  refine g_if_lt (pc := 1) K 12 dX8_trim_1 (by decide) (fun c1 => ?_) (fun c1 => ?_)
  · replace h := (if_pos c1).symm.trans h
    refine g_sub K [] rfl ?_
    exact w_X8_trim_12 K hT   _ _ _ h (by omega) (by omega)
  · replace h := (if_neg c1).symm.trans h
    refine g_iload_n (pc := 4) K 1 rfl rfl dX8_trim_4 ?_
    refine g_aload_n (pc := 5) K 0 rfl rfl dX8_trim_5 ?_
    replace h := Option.bind_eq_some_iff.mp h
    obtain ⟨x2, e3, h⟩ := h
    refine g_getI (pc := 6) K cl_8 hin_X8 (k := 12) (by decide) tb_530 rfl e3 dX8_trim_6 ?_
    refine g_icmp_le (pc := 9) K 14 dX8_trim_9 (by decide) (fun c4 => ?_) (fun c4 => ?_)
    · replace h := (if_pos c4).symm.trans h
      refine g_aload_n (pc := 14) K 0 rfl rfl dX8_trim_14 ?_
      refine g_iload_n (pc := 15) K 1 rfl rfl dX8_trim_15 ?_
      replace h := Option.bind_eq_some_iff.mp h
      obtain ⟨σ5, e6, h⟩ := h
      refine g_put (pc := 16) K cl_8 hin_X8 (k := 12) (by decide) tb_530 rfl tyX8 tyX8_ok nmX8 (Or.inl rfl) rfl rfl e6 dX8_trim_16 ?_
      refine g_iconst (pc := 19) (v := 1) K dX8_trim_19 (by decide) ?_
      cases h
      exact hT _ _ 20 _ (by omega) (by omega) rfl dX8_trim_20
    · replace h := (if_neg c4).symm.trans h
      refine g_sub K [] rfl ?_
      exact w_X8_trim_12 K hT   _ _ _ h (by omega) (by omega)

def b_X8_there_18 (t0 : Int32) (σ : sw_S) : Option Int32 :=
  (sw_z t0).bind fun z1 =>
  some z1
set_option maxHeartbeats 4000000 in
set_option maxRecDepth 100000 in
theorem w_X8_there_18 {p : Program} {l : Launch} {e : Env} {s : State} {m : MethodId} {args : Array Value} {below : List Frame} {meth : Method} {c : Code} {Q : State → Prop} {A : Nat → Prop} {D : va_G} {cT : Nat → ClassId} {σ : sw_S}  {r : Int32}  (K : sw_C p s m args c cX8_there 2 RX8 A D cT) (hT : sw_Tz cX8_there p l e (sw_R 0 0 0 0) s m args below meth c Q 2 A D cT 0 0 σ r) (t0 : Int32) (ce sl : Nat) (h : b_X8_there_18 t0 σ = some r) (hce : ce + (0) ≤ 0) (hsl : sl + (0) ≤ 0) : sw_G p l e (sw_R 0 0 0 0) s m args below meth c Q 2 A D cT σ ce sl 18 [] [I_ t0] := by
  unfold b_X8_there_18 at h
  replace h := Option.bind_eq_some_iff.mp h
  obtain ⟨z1, e2, h⟩ := h
  obtain ⟨rfl, e3⟩ := sw_z_eq e2
  cases h
  exact hT _ _ 18 _ (by omega) (by omega) e3.1 dX8_there_18
def f_X8_there (p0 : Nat) (q1 : Int32) (σ : sw_S) : Option Int32 :=
  (sw_gI 8 p0 26 σ).bind fun x1 =>
  (sw_gI 8 p0 12 σ).bind fun x3 =>
  (if x3 < ((x1 + q1)) then
  b_X8_there_18 0 σ
  else
  b_X8_there_18 1 σ)
set_option maxHeartbeats 4000000 in
set_option maxRecDepth 100000 in
theorem c_X8_there  (l : Launch) (D : va_G) (cT : Nat → ClassId) (p0 : Nat) (q1 : Int32) (σ : sw_S) {r : Int32} (h : f_X8_there p0 q1 σ = some r) : sw_M l D cT yX8_there cX8_there 2 (some .boolean) 0 0 0 0 σ [P_ (some p0), I_ q1] (some (I_ r)) σ := by
  refine sw_met_z (by decide) (Nat.le_of_ble_eq_true rfl) (fun p e s m args below meth c A Q K hnm hT => ?_)
  have hce : 0 + 0 ≤ 0 := Nat.le_of_ble_eq_true rfl
  have hsl : 0 + 0 ≤ 0 := Nat.le_of_ble_eq_true rfl
  unfold f_X8_there at h
  change sw_G p l e (sw_R 0 0 0 0) s m args below meth c Q 2 A D cT σ 0 0 0 [(0, P_ (some p0)), (1, I_ q1)] []
  refine g_aload_n (pc := 0) K 0 rfl rfl dX8_there_0 ?_
  replace h := Option.bind_eq_some_iff.mp h
  obtain ⟨x1, e2, h⟩ := h
  refine g_getI (pc := 1) K cl_8 hin_X8 (k := 26) (by decide) tb_544 rfl e2 dX8_there_1 ?_
  refine g_iload_n (pc := 4) K 1 rfl rfl dX8_there_4 ?_
  refine g_iadd (pc := 5) K dX8_there_5 ?_
  refine g_aload_n (pc := 6) K 0 rfl rfl dX8_there_6 ?_
  replace h := Option.bind_eq_some_iff.mp h
  obtain ⟨x3, e4, h⟩ := h
  refine g_getI (pc := 7) K cl_8 hin_X8 (k := 12) (by decide) tb_530 rfl e4 dX8_there_7 ?_
  refine g_icmp_gt (pc := 10) K 17 dX8_there_10 (by decide) (fun c5 => ?_) (fun c5 => ?_)
  · replace h := (if_pos c5).symm.trans h
    refine g_iconst (pc := 17) (v := 0) K dX8_there_17 (by decide) ?_
    refine g_sub K [] rfl ?_
    exact w_X8_there_18 K hT  _ _ _ h (by omega) (by omega)
  · replace h := (if_neg c5).symm.trans h
    refine g_iconst (pc := 13) (v := 1) K dX8_there_13 (by decide) ?_
    refine g_goto (pc := 14) (tgt := 18) K dX8_there_14 (by decide) ?_
    refine g_sub K [] rfl ?_
    exact w_X8_there_18 K hT  _ _ _ h (by omega) (by omega)

def b_X8_rises_20 (v0 : Nat) (v1 : Int32) (t0 : Int32) (σ : sw_S) : Option (Int32 × sw_S) :=
  (sw_z 1).bind fun z1 =>
  (sw_pt 8 v0 27 (.int z1) σ).bind fun σ4 =>
  (sw_pt 8 v0 28 (.int v1) σ4).bind fun σ6 =>
  (sw_z t0).bind fun z8 =>
  some (z8, σ6)
set_option maxHeartbeats 4000000 in
set_option maxRecDepth 100000 in
theorem w_X8_rises_20 {p : Program} {l : Launch} {e : Env} {s : State} {m : MethodId} {args : Array Value} {below : List Frame} {meth : Method} {c : Code} {Q : State → Prop} {A : Nat → Prop} {D : va_G} {cT : Nat → ClassId} {r : Int32}  {σ' : sw_S}  (K : sw_C p s m args c cX8_rises 3 RX8 A D cT) (hT : sw_Tz cX8_rises p l e (sw_R 0 0 0 0) s m args below meth c Q 3 A D cT 0 0 σ' r) (v0 : Nat) (v1 : Int32) (t0 : Int32) (σ : sw_S)  (ce sl : Nat) (h : b_X8_rises_20 v0 v1 t0 σ = some (r, σ')) (hce : ce + (0) ≤ 0) (hsl : sl + (0) ≤ 0) : sw_G p l e (sw_R 0 0 0 0) s m args below meth c Q 3 A D cT σ ce sl 20 [(0, P_ (some v0)), (1, I_ v1)] [I_ t0] := by
  unfold b_X8_rises_20 at h
  refine g_istore_n (pc := 20) K [(2, I_ t0), (0, P_ (some v0)), (1, I_ v1)] rfl (by decide) rfl dX8_rises_20 ?_
  refine g_aload_n (pc := 21) K 1 rfl rfl dX8_rises_21 ?_
  refine g_iconst (pc := 22) (v := 1) K dX8_rises_22 (by decide) ?_
  replace h := Option.bind_eq_some_iff.mp h
  obtain ⟨z1, e2, h⟩ := h
  obtain ⟨rfl, e3⟩ := sw_z_eq e2
  replace h := Option.bind_eq_some_iff.mp h
  obtain ⟨σ4, e5, h⟩ := h
  refine g_put (pc := 23) K cl_8 hin_X8 (k := 27) (by decide) tb_545 rfl tyX8 tyX8_ok nmX8 (Or.inl rfl) e3.1 e3.2 e5 dX8_rises_23 ?_
  refine g_aload_n (pc := 26) K 1 rfl rfl dX8_rises_26 ?_
  refine g_iload_n (pc := 27) K 2 rfl rfl dX8_rises_27 ?_
  replace h := Option.bind_eq_some_iff.mp h
  obtain ⟨σ6, e7, h⟩ := h
  refine g_put (pc := 28) K cl_8 hin_X8 (k := 28) (by decide) tb_546 rfl tyX8 tyX8_ok nmX8 (Or.inl rfl) rfl rfl e7 dX8_rises_28 ?_
  refine g_iload_n (pc := 31) K 0 rfl rfl dX8_rises_31 ?_
  replace h := Option.bind_eq_some_iff.mp h
  obtain ⟨z8, e9, h⟩ := h
  obtain ⟨rfl, e10⟩ := sw_z_eq e9
  cases h
  exact hT _ _ 32 _ (by omega) (by omega) e10.1 dX8_rises_32
def b_X8_rises_15 (v0 : Nat) (v1 : Int32) (σ : sw_S) : Option (Int32 × sw_S) :=
  b_X8_rises_20 v0 v1 1 σ
set_option maxHeartbeats 4000000 in
set_option maxRecDepth 100000 in
theorem w_X8_rises_15 {p : Program} {l : Launch} {e : Env} {s : State} {m : MethodId} {args : Array Value} {below : List Frame} {meth : Method} {c : Code} {Q : State → Prop} {A : Nat → Prop} {D : va_G} {cT : Nat → ClassId} {r : Int32}  {σ' : sw_S}  (K : sw_C p s m args c cX8_rises 3 RX8 A D cT) (hT : sw_Tz cX8_rises p l e (sw_R 0 0 0 0) s m args below meth c Q 3 A D cT 0 0 σ' r) (v0 : Nat) (v1 : Int32) (σ : sw_S)  (ce sl : Nat) (h : b_X8_rises_15 v0 v1 σ = some (r, σ')) (hce : ce + (0) ≤ 0) (hsl : sl + (0) ≤ 0) : sw_G p l e (sw_R 0 0 0 0) s m args below meth c Q 3 A D cT σ ce sl 15 [(0, P_ (some v0)), (1, I_ v1)] [] := by
  unfold b_X8_rises_15 at h
  refine g_iconst (pc := 15) (v := 1) K dX8_rises_15 (by decide) ?_
  refine g_goto (pc := 16) (tgt := 20) K dX8_rises_16 (by decide) ?_
  refine g_sub K [0, 1] rfl ?_
  exact w_X8_rises_20 K hT  _ _ _ _ _ _ h (by omega) (by omega)
def f_X8_rises (p0 : Nat) (q1 : Int32) (σ : sw_S) : Option (Int32 × sw_S) :=
  (sw_gI 8 p0 27 σ).bind fun x1 =>
  (if x1 = 0 then
  b_X8_rises_15 p0 q1 σ
  else
  (sw_gI 8 p0 28 σ).bind fun x4 =>
  (if q1 ≤ x4 then
  b_X8_rises_20 p0 q1 0 σ
  else
  b_X8_rises_15 p0 q1 σ))
set_option maxHeartbeats 4000000 in
set_option maxRecDepth 100000 in
theorem c_X8_rises  (l : Launch) (D : va_G) (cT : Nat → ClassId) (p0 : Nat) (q1 : Int32) (σ : sw_S) {r : Int32} {σ' : sw_S} (h : f_X8_rises p0 q1 σ = some (r, σ')) : sw_M l D cT yX8_rises cX8_rises 3 (some .boolean) 0 0 0 0 σ [P_ (some p0), I_ q1] (some (I_ r)) σ' := by
  refine sw_met_z (by decide) (Nat.le_of_ble_eq_true rfl) (fun p e s m args below meth c A Q K hnm hT => ?_)
  have hce : 0 + 0 ≤ 0 := Nat.le_of_ble_eq_true rfl
  have hsl : 0 + 0 ≤ 0 := Nat.le_of_ble_eq_true rfl
  unfold f_X8_rises at h
  change sw_G p l e (sw_R 0 0 0 0) s m args below meth c Q 3 A D cT σ 0 0 0 [(0, P_ (some p0)), (1, I_ q1)] []
  refine g_aload_n (pc := 0) K 0 rfl rfl dX8_rises_0 ?_
  replace h := Option.bind_eq_some_iff.mp h
  obtain ⟨x1, e2, h⟩ := h
  refine g_getI (pc := 1) K cl_8 hin_X8 (k := 27) (by decide) tb_545 rfl e2 dX8_rises_1 ?_
  refine g_if_eq (pc := 4) K 15 dX8_rises_4 (by decide) (fun c3 => ?_) (fun c3 => ?_)
  · replace h := (if_pos c3).symm.trans h
    refine g_sub K [0, 1] rfl ?_
    exact w_X8_rises_15 K hT  _ _ _ _ _ h (by omega) (by omega)
  · replace h := (if_neg c3).symm.trans h
    refine g_iload_n (pc := 7) K 1 rfl rfl dX8_rises_7 ?_
    refine g_aload_n (pc := 8) K 0 rfl rfl dX8_rises_8 ?_
    replace h := Option.bind_eq_some_iff.mp h
    obtain ⟨x4, e5, h⟩ := h
    refine g_getI (pc := 9) K cl_8 hin_X8 (k := 28) (by decide) tb_546 rfl e5 dX8_rises_9 ?_
    refine g_icmp_le (pc := 12) K 19 dX8_rises_12 (by decide) (fun c6 => ?_) (fun c6 => ?_)
    · replace h := (if_pos c6).symm.trans h
      refine g_iconst (pc := 19) (v := 0) K dX8_rises_19 (by decide) ?_
      refine g_sub K [0, 1] rfl ?_
      exact w_X8_rises_20 K hT  _ _ _ _ _ _ h (by omega) (by omega)
    · replace h := (if_neg c6).symm.trans h
      refine g_sub K [0, 1] rfl ?_
      exact w_X8_rises_15 K hT  _ _ _ _ _ h (by omega) (by omega)

def b_X8_readLeaf_123 (rec86 : Nat → Int32 → Int32 → Int32 → sw_S → Option (Int32 × sw_S)) (v0 : Nat) (v2 : Int32) (v5 : Int32) (t0 : Int32) (σ : sw_S) : Option (Int32 × sw_S) :=
  rec86 v0 v2 t0 ((v5 + 1)) σ
set_option maxHeartbeats 4000000 in
set_option maxRecDepth 100000 in
theorem w_X8_readLeaf_123 {p : Program} {l : Launch} {e : Env} {s : State} {m : MethodId} {args : Array Value} {below : List Frame} {meth : Method} {c : Code} {Q : State → Prop} {A : Nat → Prop} {D : va_G} {cT : Nat → ClassId} {r : Int32}  {σ' : sw_S}  (K : sw_C p s m args c cX8_readLeaf 6 RX8 A D cT) (hT : sw_Tz cX8_readLeaf p l e (sw_R 1 0 0 22) s m args below meth c Q 6 A D cT 0 0 σ' r) {rec86 : Nat → Int32 → Int32 → Int32 → sw_S → Option (Int32 × sw_S)} (hrec86 : ∀ (v0 : Nat) (v2 : Int32) (v4 : Int32) (v5 : Int32) (σ : sw_S) (ce sl : Nat), rec86 v0 v2 v4 v5 σ = some (r, σ') → ce + (0) ≤ 0 → sl + (0) ≤ 0 → sw_G p l e (sw_R 1 0 0 22) s m args below meth c Q 6 A D cT σ ce sl 86 [(0, P_ (some v0)), (2, I_ v2), (4, I_ v4), (5, I_ v5)] []) (v0 : Nat) (v2 : Int32) (v5 : Int32) (t0 : Int32) (σ : sw_S)  (ce sl : Nat) (h : b_X8_readLeaf_123 rec86 v0 v2 v5 t0 σ = some (r, σ')) (hce : ce + (0) ≤ 0) (hsl : sl + (0) ≤ 0) : sw_G p l e (sw_R 1 0 0 22) s m args below meth c Q 6 A D cT σ ce sl 123 [(0, P_ (some v0)), (2, I_ v2), (5, I_ v5)] [I_ t0] := by
  unfold b_X8_readLeaf_123 at h
  refine g_istore (pc := 123) K [(4, I_ t0), (0, P_ (some v0)), (2, I_ v2), (5, I_ v5)] (by decide) rfl dX8_readLeaf_123 ?_
  refine g_iinc (pc := 125) K 3 (v5 + 1) [(5, I_ ((v5 + 1))), (4, I_ t0), (0, P_ (some v0)), (2, I_ v2)] rfl rfl (by decide) rfl dX8_readLeaf_125 ?_
  refine g_goto (pc := 128) (tgt := 86) K dX8_readLeaf_128 (by decide) ?_
  refine g_sub K [2, 3, 1, 0] rfl ?_
  exact hrec86 _ _ _ _ _ _ _ h (by omega) (by omega)
def b_X8_readLeaf_122 (rec86 : Nat → Int32 → Int32 → Int32 → sw_S → Option (Int32 × sw_S)) (v0 : Nat) (v2 : Int32) (v5 : Int32) (σ : sw_S) : Option (Int32 × sw_S) :=
  b_X8_readLeaf_123 rec86 v0 v2 v5 0 σ
set_option maxHeartbeats 4000000 in
set_option maxRecDepth 100000 in
theorem w_X8_readLeaf_122 {p : Program} {l : Launch} {e : Env} {s : State} {m : MethodId} {args : Array Value} {below : List Frame} {meth : Method} {c : Code} {Q : State → Prop} {A : Nat → Prop} {D : va_G} {cT : Nat → ClassId} {r : Int32}  {σ' : sw_S}  (K : sw_C p s m args c cX8_readLeaf 6 RX8 A D cT) (hT : sw_Tz cX8_readLeaf p l e (sw_R 1 0 0 22) s m args below meth c Q 6 A D cT 0 0 σ' r) {rec86 : Nat → Int32 → Int32 → Int32 → sw_S → Option (Int32 × sw_S)} (hrec86 : ∀ (v0 : Nat) (v2 : Int32) (v4 : Int32) (v5 : Int32) (σ : sw_S) (ce sl : Nat), rec86 v0 v2 v4 v5 σ = some (r, σ') → ce + (0) ≤ 0 → sl + (0) ≤ 0 → sw_G p l e (sw_R 1 0 0 22) s m args below meth c Q 6 A D cT σ ce sl 86 [(0, P_ (some v0)), (2, I_ v2), (4, I_ v4), (5, I_ v5)] []) (v0 : Nat) (v2 : Int32) (v5 : Int32) (σ : sw_S)  (ce sl : Nat) (h : b_X8_readLeaf_122 rec86 v0 v2 v5 σ = some (r, σ')) (hce : ce + (0) ≤ 0) (hsl : sl + (0) ≤ 0) : sw_G p l e (sw_R 1 0 0 22) s m args below meth c Q 6 A D cT σ ce sl 122 [(0, P_ (some v0)), (2, I_ v2), (5, I_ v5)] [] := by
  unfold b_X8_readLeaf_122 at h
  refine g_iconst (pc := 122) (v := 0) K dX8_readLeaf_122 (by decide) ?_
  refine g_sub K [0, 1, 2] rfl ?_
  exact w_X8_readLeaf_123 K hT hrec86  _ _ _ _ _ _ _ h (by omega) (by omega)
def B_X8_readLeaf_86 (rec86 : Nat → Int32 → Int32 → Int32 → sw_S → Option (Int32 × sw_S)) (v0 : Nat) (v2 : Int32) (v4 : Int32) (v5 : Int32) (σ : sw_S) : Option (Int32 × sw_S) :=
  (if v2 ≤ v5 then
  (sw_gI 8 v0 26 σ).bind fun x2 =>
  (sw_pt 8 v0 26 (.int ((x2 + ((2 * v2))))) σ).bind fun σ4 =>
  (sw_z v4).bind fun z6 =>
  some (z6, σ4)
  else
  (if v4 = 0 then
  b_X8_readLeaf_122 rec86 v0 v2 v5 σ
  else
  (sw_gR 8 v0 11 σ).bind fun r10 =>
  (sw_gI 8 v0 26 σ).bind fun x12 =>
  r10.bind fun a14 =>
  (sw_al 0 a14 ((x12 + ((2 * v5)))) σ).bind fun x16 =>
  (sw_ob 8 v0 σ).bind fun f17 =>
  sw_b2 (f_X8_rises v0 x16 σ) fun x20 σ21 =>
  (if x20 = 0 then
  b_X8_readLeaf_122 rec86 v0 v2 v5 σ21
  else
  b_X8_readLeaf_123 rec86 v0 v2 v5 1 σ21)))
set_option maxHeartbeats 4000000 in
set_option maxRecDepth 100000 in
theorem wB_X8_readLeaf_86 {p : Program} {l : Launch} {e : Env} {s : State} {m : MethodId} {args : Array Value} {below : List Frame} {meth : Method} {c : Code} {Q : State → Prop} {A : Nat → Prop} {D : va_G} {cT : Nat → ClassId} {r : Int32}  {σ' : sw_S}  (K : sw_C p s m args c cX8_readLeaf 6 RX8 A D cT) (hT : sw_Tz cX8_readLeaf p l e (sw_R 1 0 0 22) s m args below meth c Q 6 A D cT 0 0 σ' r) {rec86 : Nat → Int32 → Int32 → Int32 → sw_S → Option (Int32 × sw_S)} (hrec86 : ∀ (v0 : Nat) (v2 : Int32) (v4 : Int32) (v5 : Int32) (σ : sw_S) (ce sl : Nat), rec86 v0 v2 v4 v5 σ = some (r, σ') → ce + (0) ≤ 0 → sl + (0) ≤ 0 → sw_G p l e (sw_R 1 0 0 22) s m args below meth c Q 6 A D cT σ ce sl 86 [(0, P_ (some v0)), (2, I_ v2), (4, I_ v4), (5, I_ v5)] []) (v0 : Nat) (v2 : Int32) (v4 : Int32) (v5 : Int32) (σ : sw_S)  (ce sl : Nat) (h : B_X8_readLeaf_86 rec86 v0 v2 v4 v5 σ = some (r, σ')) (hce : ce + (0) ≤ 0) (hsl : sl + (0) ≤ 0) : sw_G p l e (sw_R 1 0 0 22) s m args below meth c Q 6 A D cT σ ce sl 86 [(0, P_ (some v0)), (2, I_ v2), (4, I_ v4), (5, I_ v5)] [] := by
  unfold B_X8_readLeaf_86 at h
  refine g_iload (pc := 86) K 3 rfl dX8_readLeaf_86 ?_
  refine g_iload_n (pc := 88) K 1 rfl rfl dX8_readLeaf_88 ?_
  refine g_icmp_ge (pc := 89) K 131 dX8_readLeaf_89 (by decide) (fun c1 => ?_) (fun c1 => ?_)
  · replace h := (if_pos c1).symm.trans h
    refine g_aload_n (pc := 131) K 0 rfl rfl dX8_readLeaf_131 ?_
    refine g_aload_n (pc := 132) K 0 rfl rfl dX8_readLeaf_132 ?_
    replace h := Option.bind_eq_some_iff.mp h
    obtain ⟨x2, e3, h⟩ := h
    refine g_getI (pc := 133) K cl_8 hin_X8 (k := 26) (by decide) tb_544 rfl e3 dX8_readLeaf_133 ?_
    refine g_iconst (pc := 136) (v := 2) K dX8_readLeaf_136 (by decide) ?_
    refine g_iload_n (pc := 137) K 1 rfl rfl dX8_readLeaf_137 ?_
    refine g_imul (pc := 138) K dX8_readLeaf_138 ?_
    refine g_iadd (pc := 139) K dX8_readLeaf_139 ?_
    replace h := Option.bind_eq_some_iff.mp h
    obtain ⟨σ4, e5, h⟩ := h
    refine g_put (pc := 140) K cl_8 hin_X8 (k := 26) (by decide) tb_544 rfl tyX8 tyX8_ok nmX8 (Or.inl rfl) rfl rfl e5 dX8_readLeaf_140 ?_
    refine g_iload (pc := 143) K 2 rfl dX8_readLeaf_143 ?_
    replace h := Option.bind_eq_some_iff.mp h
    obtain ⟨z6, e7, h⟩ := h
    obtain ⟨rfl, e8⟩ := sw_z_eq e7
    cases h
    exact hT _ _ 145 _ (by omega) (by omega) e8.1 dX8_readLeaf_145
  · replace h := (if_neg c1).symm.trans h
    refine g_iload (pc := 92) K 2 rfl dX8_readLeaf_92 ?_
    refine g_if_eq (pc := 94) K 122 dX8_readLeaf_94 (by decide) (fun c9 => ?_) (fun c9 => ?_)
    · replace h := (if_pos c9).symm.trans h
      refine g_sub K [0, 1, 3] rfl ?_
      exact w_X8_readLeaf_122 K hT hrec86  _ _ _ _ _ _ h (by omega) (by omega)
    · replace h := (if_neg c9).symm.trans h
      refine g_aload_n (pc := 97) K 0 rfl rfl dX8_readLeaf_97 ?_
      refine g_aload_n (pc := 98) K 0 rfl rfl dX8_readLeaf_98 ?_
      replace h := Option.bind_eq_some_iff.mp h
      obtain ⟨r10, e11, h⟩ := h
      refine g_getR (pc := 99) K cl_8 hin_X8 (k := 11) (by decide) tb_529 rfl e11 dX8_readLeaf_99 ?_
      refine g_aload_n (pc := 102) K 0 rfl rfl dX8_readLeaf_102 ?_
      replace h := Option.bind_eq_some_iff.mp h
      obtain ⟨x12, e13, h⟩ := h
      refine g_getI (pc := 103) K cl_8 hin_X8 (k := 26) (by decide) tb_544 rfl e13 dX8_readLeaf_103 ?_
      refine g_iconst (pc := 106) (v := 2) K dX8_readLeaf_106 (by decide) ?_
      refine g_iload (pc := 107) K 3 rfl dX8_readLeaf_107 ?_
      refine g_imul (pc := 109) K dX8_readLeaf_109 ?_
      refine g_iadd (pc := 110) K dX8_readLeaf_110 ?_
      replace h := Option.bind_eq_some_iff.mp h
      obtain ⟨a14, rfl, h⟩ := h
      replace h := Option.bind_eq_some_iff.mp h
      obtain ⟨x16, e15, h⟩ := h
      refine g_iald (pc := 111) K e15 dX8_readLeaf_111 ?_
      replace h := Option.bind_eq_some_iff.mp h
      obtain ⟨f17, e18, h⟩ := h
      replace h := sw_b2_eq h
      obtain ⟨x20, σ21, e19, h⟩ := h
      refine g_callV (pc := 112) (st := []) K [I_ x16] (c_X8_rises _ _ _ _ _ _ e19) e18 cl_8 rfl tb_744 tb_741 tb_7 tb_743 sl_45 hd_X8_rises ⟨Nat.le_of_ble_eq_true rfl, Nat.le_of_ble_eq_true rfl⟩ rfl (sw_rm (Nat.le_of_ble_eq_true rfl)) ⟨by show _ ≤ 0; omega, by show _ ≤ 0; omega⟩ dX8_readLeaf_112 ?_
      refine g_if_eq (pc := 115) K 122 dX8_readLeaf_115 (by decide) (fun c22 => ?_) (fun c22 => ?_)
      · replace h := (if_pos c22).symm.trans h
        refine g_sub K [0, 1, 3] rfl ?_
        exact w_X8_readLeaf_122 K hT hrec86  _ _ _ _ _ _ h (by omega) (by omega)
      · replace h := (if_neg c22).symm.trans h
        refine g_iconst (pc := 118) (v := 1) K dX8_readLeaf_118 (by decide) ?_
        refine g_goto (pc := 119) (tgt := 123) K dX8_readLeaf_119 (by decide) ?_
        refine g_sub K [0, 1, 3] rfl ?_
        exact w_X8_readLeaf_123 K hT hrec86  _ _ _ _ _ _ _ h (by omega) (by omega)
def b_X8_readLeaf_86  : Nat → Nat → Int32 → Int32 → Int32 → sw_S → Option (Int32 × sw_S)
  | 0 => fun _ _ _ _ _ => none
  | n + 1 => B_X8_readLeaf_86 (b_X8_readLeaf_86  n)
theorem wl_X8_readLeaf_86 {p : Program} {l : Launch} {e : Env} {s : State} {m : MethodId} {args : Array Value} {below : List Frame} {meth : Method} {c : Code} {Q : State → Prop} {A : Nat → Prop} {D : va_G} {cT : Nat → ClassId} {r : Int32}  {σ' : sw_S}  (K : sw_C p s m args c cX8_readLeaf 6 RX8 A D cT) (hT : sw_Tz cX8_readLeaf p l e (sw_R 1 0 0 22) s m args below meth c Q 6 A D cT 0 0 σ' r) : ∀ (n : Nat) (v0 : Nat) (v2 : Int32) (v4 : Int32) (v5 : Int32) (σ : sw_S) (ce sl : Nat), b_X8_readLeaf_86  n v0 v2 v4 v5 σ = some (r, σ') → ce + (0) ≤ 0 → sl + (0) ≤ 0 → sw_G p l e (sw_R 1 0 0 22) s m args below meth c Q 6 A D cT σ ce sl 86 [(0, P_ (some v0)), (2, I_ v2), (4, I_ v4), (5, I_ v5)] [] := by
  intro n
  induction n with
  | zero =>
    intro v0 v2 v4 v5 σ ce sl h
    exact absurd (show none = some (r, σ') from h) (by simp)
  | succ n ih =>
    intro v0 v2 v4 v5 σ ce sl h hce hsl
    exact wB_X8_readLeaf_86 K hT (fun _ _ _ _ _ _ _ h h1 h2 => ih _ _ _ _ _ _ _ h h1 h2) _ _ _ _ _ _ _ h hce hsl
def b_X8_readLeaf_79 (v0 : Nat) (v2 : Int32) (t0 : Int32) (t1 : Int32) (t2 : Option Nat) (σ : sw_S) : Option (Int32 × sw_S) :=
  t2.bind fun a1 =>
  (sw_as 0 a1 t1 t0 σ).bind fun σ3 =>
  b_X8_readLeaf_86 1000 v0 v2 1 0 σ3
set_option maxHeartbeats 4000000 in
set_option maxRecDepth 100000 in
theorem w_X8_readLeaf_79 {p : Program} {l : Launch} {e : Env} {s : State} {m : MethodId} {args : Array Value} {below : List Frame} {meth : Method} {c : Code} {Q : State → Prop} {A : Nat → Prop} {D : va_G} {cT : Nat → ClassId} {r : Int32}  {σ' : sw_S}  (K : sw_C p s m args c cX8_readLeaf 6 RX8 A D cT) (hT : sw_Tz cX8_readLeaf p l e (sw_R 1 0 0 22) s m args below meth c Q 6 A D cT 0 0 σ' r) (v0 : Nat) (v2 : Int32) (t0 : Int32) (t1 : Int32) (t2 : Option Nat) (σ : sw_S)  (ce sl : Nat) (h : b_X8_readLeaf_79 v0 v2 t0 t1 t2 σ = some (r, σ')) (hce : ce + (0) ≤ 0) (hsl : sl + (0) ≤ 0) : sw_G p l e (sw_R 1 0 0 22) s m args below meth c Q 6 A D cT σ ce sl 79 [(0, P_ (some v0)), (2, I_ v2)] [I_ t0, I_ t1, P_ t2] := by
  unfold b_X8_readLeaf_79 at h
  replace h := Option.bind_eq_some_iff.mp h
  obtain ⟨a1, rfl, h⟩ := h
  replace h := Option.bind_eq_some_iff.mp h
  obtain ⟨σ3, e2, h⟩ := h
  refine g_iast (pc := 79) K e2 dX8_readLeaf_79 ?_
  refine g_iconst (pc := 80) (v := 1) K dX8_readLeaf_80 (by decide) ?_
  refine g_istore (pc := 81) K [(4, I_ 1), (0, P_ (some v0)), (2, I_ v2)] (by decide) rfl dX8_readLeaf_81 ?_
  refine g_iconst (pc := 83) (v := 0) K dX8_readLeaf_83 (by decide) ?_
  refine g_istore (pc := 84) K [(5, I_ 0), (4, I_ 1), (0, P_ (some v0)), (2, I_ v2)] (by decide) rfl dX8_readLeaf_84 ?_
  refine g_sub K [2, 3, 1, 0] rfl ?_
  exact wl_X8_readLeaf_86 K hT  1000 _ _ _ _ _ _ _ h (by omega) (by omega)
def b_X8_readLeaf_31 (σ : sw_S) : Option (Int32 × sw_S) :=
  some (0, σ)
set_option maxHeartbeats 4000000 in
set_option maxRecDepth 100000 in
theorem w_X8_readLeaf_31 {p : Program} {l : Launch} {e : Env} {s : State} {m : MethodId} {args : Array Value} {below : List Frame} {meth : Method} {c : Code} {Q : State → Prop} {A : Nat → Prop} {D : va_G} {cT : Nat → ClassId} {r : Int32}  {σ' : sw_S}  (K : sw_C p s m args c cX8_readLeaf 6 RX8 A D cT) (hT : sw_Tz cX8_readLeaf p l e (sw_R 1 0 0 22) s m args below meth c Q 6 A D cT 0 0 σ' r) (σ : sw_S)  (ce sl : Nat) (h : b_X8_readLeaf_31  σ = some (r, σ')) (hce : ce + (0) ≤ 0) (hsl : sl + (0) ≤ 0) : sw_G p l e (sw_R 1 0 0 22) s m args below meth c Q 6 A D cT σ ce sl 31 [] [] := by
  unfold b_X8_readLeaf_31 at h
  refine g_iconst (pc := 31) (v := 0) K dX8_readLeaf_31 (by decide) ?_
  cases h
  exact hT _ _ 32 _ (by omega) (by omega) rfl dX8_readLeaf_32
def b_X8_readLeaf_10 (v0 : Nat) (v1 : Int32) (v2 : Int32) (t0 : Int32) (t1 : Int32) (σ : sw_S) : Option (Int32 × sw_S) :=
  (if t1 < t0 then
  b_X8_readLeaf_31 σ
  else
  (sw_gI 8 v0 0 σ).bind fun x2 =>
  (if x2 < v2 then
  b_X8_readLeaf_31 σ
  else
  (sw_ob 8 v0 σ).bind fun f5 =>
  (f_X8_there v0 ((2 * v2)) σ).bind fun x8 =>
  (if x8 = 0 then
  b_X8_readLeaf_31 σ
  else
  (sw_gR 8 v0 20 σ).bind fun r10 =>
  (sw_gI 8 v0 26 σ).bind fun x12 =>
  r10.bind fun a14 =>
  (sw_as 0 a14 v1 x12 σ).bind fun σ16 =>
  (sw_gR 8 v0 19 σ16).bind fun r17 =>
  r17.bind fun a19 =>
  (sw_as 0 a19 v1 v2 σ16).bind fun σ21 =>
  (sw_gR 8 v0 23 σ21).bind fun r22 =>
  r22.bind fun a24 =>
  (sw_as 0 a24 v1 v2 σ21).bind fun σ26 =>
  (sw_gR 8 v0 21 σ26).bind fun r27 =>
  (if v2 ≤ 0 then
  b_X8_readLeaf_79 v0 v2 0 v1 r27 σ26
  else
  (sw_gR 8 v0 11 σ26).bind fun r30 =>
  (sw_gI 8 v0 26 σ26).bind fun x32 =>
  r30.bind fun a34 =>
  (sw_al 0 a34 x32 σ26).bind fun x36 =>
  b_X8_readLeaf_79 v0 v2 x36 v1 r27 σ26))))
set_option maxHeartbeats 4000000 in
set_option maxRecDepth 100000 in
theorem w_X8_readLeaf_10 {p : Program} {l : Launch} {e : Env} {s : State} {m : MethodId} {args : Array Value} {below : List Frame} {meth : Method} {c : Code} {Q : State → Prop} {A : Nat → Prop} {D : va_G} {cT : Nat → ClassId} {r : Int32}  {σ' : sw_S}  (K : sw_C p s m args c cX8_readLeaf 6 RX8 A D cT) (hT : sw_Tz cX8_readLeaf p l e (sw_R 1 0 0 22) s m args below meth c Q 6 A D cT 0 0 σ' r) (v0 : Nat) (v1 : Int32) (v2 : Int32) (t0 : Int32) (t1 : Int32) (σ : sw_S)  (ce sl : Nat) (h : b_X8_readLeaf_10 v0 v1 v2 t0 t1 σ = some (r, σ')) (hce : ce + (0) ≤ 0) (hsl : sl + (0) ≤ 0) : sw_G p l e (sw_R 1 0 0 22) s m args below meth c Q 6 A D cT σ ce sl 10 [(0, P_ (some v0)), (1, I_ v1), (2, I_ v2)] [I_ t0, I_ t1] := by
  unfold b_X8_readLeaf_10 at h
  refine g_icmp_lt (pc := 10) K 31 dX8_readLeaf_10 (by decide) (fun c1 => ?_) (fun c1 => ?_)
  · replace h := (if_pos c1).symm.trans h
    refine g_sub K [] rfl ?_
    exact w_X8_readLeaf_31 K hT   _ _ _ h (by omega) (by omega)
  · replace h := (if_neg c1).symm.trans h
    refine g_iload_n (pc := 13) K 2 rfl rfl dX8_readLeaf_13 ?_
    refine g_aload_n (pc := 14) K 0 rfl rfl dX8_readLeaf_14 ?_
    replace h := Option.bind_eq_some_iff.mp h
    obtain ⟨x2, e3, h⟩ := h
    refine g_getI (pc := 15) K cl_8 hin_X8 (k := 0) (by decide) tb_518 rfl e3 dX8_readLeaf_15 ?_
    refine g_icmp_gt (pc := 18) K 31 dX8_readLeaf_18 (by decide) (fun c4 => ?_) (fun c4 => ?_)
    · replace h := (if_pos c4).symm.trans h
      refine g_sub K [] rfl ?_
      exact w_X8_readLeaf_31 K hT   _ _ _ h (by omega) (by omega)
    · replace h := (if_neg c4).symm.trans h
      refine g_aload_n (pc := 21) K 0 rfl rfl dX8_readLeaf_21 ?_
      refine g_iconst (pc := 22) (v := 2) K dX8_readLeaf_22 (by decide) ?_
      refine g_iload_n (pc := 23) K 2 rfl rfl dX8_readLeaf_23 ?_
      refine g_imul (pc := 24) K dX8_readLeaf_24 ?_
      replace h := Option.bind_eq_some_iff.mp h
      obtain ⟨f5, e6, h⟩ := h
      replace h := Option.bind_eq_some_iff.mp h
      obtain ⟨x8, e7, h⟩ := h
      refine g_callV (pc := 25) (st := []) K [I_ ((2 * v2))] (c_X8_there _ _ _ _ _ _ e7) e6 cl_8 rfl tb_732 tb_729 tb_7 tb_731 sl_42 hd_X8_there ⟨Nat.le_of_ble_eq_true rfl, Nat.le_of_ble_eq_true rfl⟩ rfl (sw_rm (Nat.le_of_ble_eq_true rfl)) ⟨by show _ ≤ 0; omega, by show _ ≤ 0; omega⟩ dX8_readLeaf_25 ?_
      refine g_if_ne (pc := 28) K 33 dX8_readLeaf_28 (by decide) (fun c9 => ?_) (fun c9 => ?_)
      · replace h := (if_pos c9).symm.trans h
        refine g_sub K [] rfl ?_
        exact w_X8_readLeaf_31 K hT   _ _ _ h (by omega) (by omega)
      · replace h := (if_neg c9).symm.trans h
        refine g_aload_n (pc := 33) K 0 rfl rfl dX8_readLeaf_33 ?_
        replace h := Option.bind_eq_some_iff.mp h
        obtain ⟨r10, e11, h⟩ := h
        refine g_getR (pc := 34) K cl_8 hin_X8 (k := 20) (by decide) tb_538 rfl e11 dX8_readLeaf_34 ?_
        refine g_iload_n (pc := 37) K 1 rfl rfl dX8_readLeaf_37 ?_
        refine g_aload_n (pc := 38) K 0 rfl rfl dX8_readLeaf_38 ?_
        replace h := Option.bind_eq_some_iff.mp h
        obtain ⟨x12, e13, h⟩ := h
        refine g_getI (pc := 39) K cl_8 hin_X8 (k := 26) (by decide) tb_544 rfl e13 dX8_readLeaf_39 ?_
        replace h := Option.bind_eq_some_iff.mp h
        obtain ⟨a14, rfl, h⟩ := h
        replace h := Option.bind_eq_some_iff.mp h
        obtain ⟨σ16, e15, h⟩ := h
        refine g_iast (pc := 42) K e15 dX8_readLeaf_42 ?_
        refine g_aload_n (pc := 43) K 0 rfl rfl dX8_readLeaf_43 ?_
        replace h := Option.bind_eq_some_iff.mp h
        obtain ⟨r17, e18, h⟩ := h
        refine g_getR (pc := 44) K cl_8 hin_X8 (k := 19) (by decide) tb_537 rfl e18 dX8_readLeaf_44 ?_
        refine g_iload_n (pc := 47) K 1 rfl rfl dX8_readLeaf_47 ?_
        refine g_iload_n (pc := 48) K 2 rfl rfl dX8_readLeaf_48 ?_
        replace h := Option.bind_eq_some_iff.mp h
        obtain ⟨a19, rfl, h⟩ := h
        replace h := Option.bind_eq_some_iff.mp h
        obtain ⟨σ21, e20, h⟩ := h
        refine g_iast (pc := 49) K e20 dX8_readLeaf_49 ?_
        refine g_aload_n (pc := 50) K 0 rfl rfl dX8_readLeaf_50 ?_
        replace h := Option.bind_eq_some_iff.mp h
        obtain ⟨r22, e23, h⟩ := h
        refine g_getR (pc := 51) K cl_8 hin_X8 (k := 23) (by decide) tb_541 rfl e23 dX8_readLeaf_51 ?_
        refine g_iload_n (pc := 54) K 1 rfl rfl dX8_readLeaf_54 ?_
        refine g_iload_n (pc := 55) K 2 rfl rfl dX8_readLeaf_55 ?_
        replace h := Option.bind_eq_some_iff.mp h
        obtain ⟨a24, rfl, h⟩ := h
        replace h := Option.bind_eq_some_iff.mp h
        obtain ⟨σ26, e25, h⟩ := h
        refine g_iast (pc := 56) K e25 dX8_readLeaf_56 ?_
        refine g_aload_n (pc := 57) K 0 rfl rfl dX8_readLeaf_57 ?_
        replace h := Option.bind_eq_some_iff.mp h
        obtain ⟨r27, e28, h⟩ := h
        refine g_getR (pc := 58) K cl_8 hin_X8 (k := 21) (by decide) tb_539 rfl e28 dX8_readLeaf_58 ?_
        refine g_iload_n (pc := 61) K 1 rfl rfl dX8_readLeaf_61 ?_
        refine g_iload_n (pc := 62) K 2 rfl rfl dX8_readLeaf_62 ?_
        refine g_if_le (pc := 63) K 78 dX8_readLeaf_63 (by decide) (fun c29 => ?_) (fun c29 => ?_)
        · replace h := (if_pos c29).symm.trans h
          refine g_iconst (pc := 78) (v := 0) K dX8_readLeaf_78 (by decide) ?_
          refine g_sub K [0, 2] rfl ?_
          exact w_X8_readLeaf_79 K hT  _ _ _ _ _ _ _ _ h (by omega) (by omega)
        · replace h := (if_neg c29).symm.trans h
          refine g_aload_n (pc := 66) K 0 rfl rfl dX8_readLeaf_66 ?_
          replace h := Option.bind_eq_some_iff.mp h
          obtain ⟨r30, e31, h⟩ := h
          refine g_getR (pc := 67) K cl_8 hin_X8 (k := 11) (by decide) tb_529 rfl e31 dX8_readLeaf_67 ?_
          refine g_aload_n (pc := 70) K 0 rfl rfl dX8_readLeaf_70 ?_
          replace h := Option.bind_eq_some_iff.mp h
          obtain ⟨x32, e33, h⟩ := h
          refine g_getI (pc := 71) K cl_8 hin_X8 (k := 26) (by decide) tb_544 rfl e33 dX8_readLeaf_71 ?_
          replace h := Option.bind_eq_some_iff.mp h
          obtain ⟨a34, rfl, h⟩ := h
          replace h := Option.bind_eq_some_iff.mp h
          obtain ⟨x36, e35, h⟩ := h
          refine g_iald (pc := 74) K e35 dX8_readLeaf_74 ?_
          refine g_goto (pc := 75) (tgt := 79) K dX8_readLeaf_75 (by decide) ?_
          refine g_sub K [0, 2] rfl ?_
          exact w_X8_readLeaf_79 K hT  _ _ _ _ _ _ _ _ h (by omega) (by omega)
def f_X8_readLeaf (p0 : Nat) (q1 : Int32) (q2 : Int32) (q3 : Int32) (σ : sw_S) : Option (Int32 × sw_S) :=
  (if q3 = 0 then
  b_X8_readLeaf_10 p0 q1 q2 1 q2 σ
  else
  b_X8_readLeaf_10 p0 q1 q2 0 q2 σ)
set_option maxHeartbeats 4000000 in
set_option maxRecDepth 100000 in
theorem c_X8_readLeaf  (l : Launch) (D : va_G) (cT : Nat → ClassId) (p0 : Nat) (q1 : Int32) (q2 : Int32) (q3 : Int32) (σ : sw_S) {r : Int32} {σ' : sw_S} (h : f_X8_readLeaf p0 q1 q2 q3 σ = some (r, σ')) : sw_M l D cT yX8_readLeaf cX8_readLeaf 6 (some .boolean) 1 22 0 0 σ [P_ (some p0), I_ q1, I_ q2, I_ q3] (some (I_ r)) σ' := by
  refine sw_met_z (by decide) (Nat.le_of_ble_eq_true rfl) (fun p e s m args below meth c A Q K hnm hT => ?_)
  have hce : 0 + 0 ≤ 0 := Nat.le_of_ble_eq_true rfl
  have hsl : 0 + 0 ≤ 0 := Nat.le_of_ble_eq_true rfl
  unfold f_X8_readLeaf at h
  change sw_G p l e (sw_R 1 0 0 22) s m args below meth c Q 6 A D cT σ 0 0 0 [(0, P_ (some p0)), (1, I_ q1), (2, I_ q2), (3, I_ q3)] []
  refine g_iload_n (pc := 0) K 2 rfl rfl dX8_readLeaf_0 ?_
  refine g_iload_n (pc := 1) K 3 rfl rfl dX8_readLeaf_1 ?_
  refine g_if_eq (pc := 2) K 9 dX8_readLeaf_2 (by decide) (fun c1 => ?_) (fun c1 => ?_)
  · replace h := (if_pos c1).symm.trans h
    refine g_iconst (pc := 9) (v := 1) K dX8_readLeaf_9 (by decide) ?_
    refine g_sub K [0, 1, 2] rfl ?_
    exact w_X8_readLeaf_10 K hT  _ _ _ _ _ _ _ _ h (by omega) (by omega)
  · replace h := (if_neg c1).symm.trans h
    refine g_iconst (pc := 5) (v := 0) K dX8_readLeaf_5 (by decide) ?_
    refine g_goto (pc := 6) (tgt := 10) K dX8_readLeaf_6 (by decide) ?_
    refine g_sub K [0, 1, 2] rfl ?_
    exact w_X8_readLeaf_10 K hT  _ _ _ _ _ _ _ _ h (by omega) (by omega)
