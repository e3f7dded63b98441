def B_X8_put_83 (rec83 : Nat → Int32 → Int32 → Int32 → Int32 → Int32 → sw_S → Option (Int32 × sw_S)) (v0 : Nat) (v1 : Int32) (v2 : Int32) (v4 : Int32) (v5 : Int32) (v6 : Int32) (σ : sw_S) : Option (Int32 × sw_S) :=
  (if v6 ≤ v4 then
  (sw_gR 8 v0 3 σ).bind fun r2 =>
  r2.bind fun a4 =>
  (sw_as 0 a4 v4 v1 σ).bind fun σ6 =>
  (sw_gR 8 v0 4 σ6).bind fun r7 =>
  r7.bind fun a9 =>
  (sw_as 0 a9 v4 v2 σ6).bind fun σ11 =>
  (sw_gI 8 v0 2 σ11).bind fun x12 =>
  (sw_pt 8 v0 2 (.int ((x12 + 1))) σ11).bind fun σ14 =>
  (sw_gR 8 v0 6 σ14).bind fun r16 =>
  r16.bind fun a18 =>
  (sw_al 0 a18 v5 σ14).bind fun x20 =>
  (sw_as 0 a18 v5 ((x20 + 1)) σ14).bind fun σ22 =>
  (sw_ob 8 v0 σ22).bind fun f23 =>
  (f_X8_splitUp v0 v5 σ22).bind fun σ26 =>
  (sw_ob 8 v0 σ26).bind fun f27 =>
  (f_X8_work v0 σ26).bind fun σ30 =>
  some (1, σ30)
  else
  (sw_gR 8 v0 3 σ).bind fun r31 =>
  (sw_gR 8 v0 3 σ).bind fun r33 =>
  r33.bind fun a35 =>
  (sw_al 0 a35 ((v6 - 1)) σ).bind fun x37 =>
  r31.bind fun a38 =>
  (sw_as 0 a38 v6 x37 σ).bind fun σ40 =>
  (sw_gR 8 v0 4 σ40).bind fun r41 =>
  (sw_gR 8 v0 4 σ40).bind fun r43 =>
  r43.bind fun a45 =>
  (sw_al 0 a45 ((v6 - 1)) σ40).bind fun x47 =>
  r41.bind fun a48 =>
  (sw_as 0 a48 v6 x47 σ40).bind fun σ50 =>
  rec83 v0 v1 v2 v4 v5 ((v6 + (-1))) σ50)
set_option maxHeartbeats 4000000 in
set_option maxRecDepth 100000 in
theorem wB_X8_put_83 {p : Program} {l : Launch} {e : Env} {s : State} {m : MethodId} {args : Array Value} {below : List Frame} {meth : Method} {c : Code} {Q : State → Prop} {A : Nat → Prop} {D : va_G} {cT : Nat → ClassId} {r : Int32}  {σ' : sw_S}  (K : sw_C p s m args c cX8_put 7 RX8 A D cT) (hT : sw_Ti cX8_put p l e (sw_R 3 0 0 72) s m args below meth c Q 7 A D cT 0 0 σ' r) {rec83 : Nat → Int32 → Int32 → Int32 → Int32 → Int32 → sw_S → Option (Int32 × sw_S)} (hrec83 : ∀ (v0 : Nat) (v1 : Int32) (v2 : Int32) (v4 : Int32) (v5 : Int32) (v6 : Int32) (σ : sw_S) (ce sl : Nat), rec83 v0 v1 v2 v4 v5 v6 σ = some (r, σ') → ce + (0) ≤ 0 → sl + (0) ≤ 0 → sw_G p l e (sw_R 3 0 0 72) s m args below meth c Q 7 A D cT σ ce sl 83 [(0, P_ (some v0)), (1, I_ v1), (2, I_ v2), (4, I_ v4), (5, I_ v5), (6, I_ v6)] []) (v0 : Nat) (v1 : Int32) (v2 : Int32) (v4 : Int32) (v5 : Int32) (v6 : Int32) (σ : sw_S)  (ce sl : Nat) (h : B_X8_put_83 rec83 v0 v1 v2 v4 v5 v6 σ = some (r, σ')) (hce : ce + (0) ≤ 0) (hsl : sl + (0) ≤ 0) : sw_G p l e (sw_R 3 0 0 72) s m args below meth c Q 7 A D cT σ ce sl 83 [(0, P_ (some v0)), (1, I_ v1), (2, I_ v2), (4, I_ v4), (5, I_ v5), (6, I_ v6)] [] := by
  unfold B_X8_put_83 at h
  refine g_iload (pc := 83) K 5 rfl dX8_put_83 ?_
  refine g_iload (pc := 85) K 3 rfl dX8_put_85 ?_
  refine g_icmp_le (pc := 87) K 128 dX8_put_87 (by decide) (fun c1 => ?_) (fun c1 => ?_)
  · replace h := (if_pos c1).symm.trans h
    refine g_aload_n (pc := 128) K 0 rfl rfl dX8_put_128 ?_
    replace h := Option.bind_eq_some_iff.mp h
    obtain ⟨r2, e3, h⟩ := h
    refine g_getR (pc := 129) K cl_8 hin_X8 (k := 3) (by decide) tb_521 rfl e3 dX8_put_129 ?_
    refine g_iload (pc := 132) K 3 rfl dX8_put_132 ?_
    refine g_iload_n (pc := 134) K 1 rfl rfl dX8_put_134 ?_
    replace h := Option.bind_eq_some_iff.mp h
    obtain ⟨a4, rfl, h⟩ := h
    replace h := Option.bind_eq_some_iff.mp h
    obtain ⟨σ6, e5, h⟩ := h
    refine g_iast (pc := 135) K e5 dX8_put_135 ?_
    refine g_aload_n (pc := 136) K 0 rfl rfl dX8_put_136 ?_
    replace h := Option.bind_eq_some_iff.mp h
    obtain ⟨r7, e8, h⟩ := h
    refine g_getR (pc := 137) K cl_8 hin_X8 (k := 4) (by decide) tb_522 rfl e8 dX8_put_137 ?_
    refine g_iload (pc := 140) K 3 rfl dX8_put_140 ?_
    refine g_iload_n (pc := 142) K 2 rfl rfl dX8_put_142 ?_
    replace h := Option.bind_eq_some_iff.mp h
    obtain ⟨a9, rfl, h⟩ := h
    replace h := Option.bind_eq_some_iff.mp h
    obtain ⟨σ11, e10, h⟩ := h
    refine g_iast (pc := 143) K e10 dX8_put_143 ?_
    refine g_aload_n (pc := 144) K 0 rfl rfl dX8_put_144 ?_
    refine g_dup (pc := 145) K rfl dX8_put_145 ?_
    replace h := Option.bind_eq_some_iff.mp h
    obtain ⟨x12, e13, h⟩ := h
    refine g_getI (pc := 146) K cl_8 hin_X8 (k := 2) (by decide) tb_520 rfl e13 dX8_put_146 ?_
    refine g_iconst (pc := 149) (v := 1) K dX8_put_149 (by decide) ?_
    refine g_iadd (pc := 150) K dX8_put_150 ?_
    replace h := Option.bind_eq_some_iff.mp h
    obtain ⟨σ14, e15, h⟩ := h
    refine g_put (pc := 151) K cl_8 hin_X8 (k := 2) (by decide) tb_520 rfl tyX8 tyX8_ok nmX8 (Or.inl rfl) rfl rfl e15 dX8_put_151 ?_
    refine g_aload_n (pc := 154) K 0 rfl rfl dX8_put_154 ?_
    replace h := Option.bind_eq_some_iff.mp h
    obtain ⟨r16, e17, h⟩ := h
    refine g_getR (pc := 155) K cl_8 hin_X8 (k := 6) (by decide) tb_524 rfl e17 dX8_put_155 ?_
    refine g_iload (pc := 158) K 4 rfl dX8_put_158 ?_
    refine g_dup2 (pc := 160) K rfl rfl dX8_put_160 ?_
    replace h := Option.bind_eq_some_iff.mp h
    obtain ⟨a18, rfl, h⟩ := h
    replace h := Option.bind_eq_some_iff.mp h
    obtain ⟨x20, e19, h⟩ := h
    refine g_iald (pc := 161) K e19 dX8_put_161 ?_
    refine g_iconst (pc := 162) (v := 1) K dX8_put_162 (by decide) ?_
    refine g_iadd (pc := 163) K dX8_put_163 ?_
    replace h := Option.bind_eq_some_iff.mp h
    obtain ⟨σ22, e21, h⟩ := h
    refine g_iast (pc := 164) K e21 dX8_put_164 ?_
    refine g_aload_n (pc := 165) K 0 rfl rfl dX8_put_165 ?_
    refine g_iload (pc := 166) K 4 rfl dX8_put_166 ?_
    replace h := Option.bind_eq_some_iff.mp h
    obtain ⟨f23, e24, h⟩ := h
    replace h := Option.bind_eq_some_iff.mp h
    obtain ⟨σ26, e25, h⟩ := h
    refine g_callV (pc := 168) (st := []) K [I_ v5] (c_X8_splitUp _ _ _ _ _ _ e25) e24 cl_8 rfl tb_635 tb_632 tb_7 tb_634 sl_31 hd_X8_splitUp ⟨Nat.le_of_ble_eq_true rfl, Nat.le_of_ble_eq_true rfl⟩ rfl (sw_rm (Nat.le_of_ble_eq_true rfl)) ⟨by show _ ≤ 0; omega, by show _ ≤ 0; omega⟩ dX8_put_168 ?_
    refine g_aload_n (pc := 171) K 0 rfl rfl dX8_put_171 ?_
    replace h := Option.bind_eq_some_iff.mp h
    obtain ⟨f27, e28, h⟩ := h
    replace h := Option.bind_eq_some_iff.mp h
    obtain ⟨σ30, e29, h⟩ := h
    refine g_callV (pc := 172) (st := []) K [] (c_X8_work _ _ _ _ _ e29) e28 cl_8 rfl tb_509 tb_506 tb_7 tb_508 sl_26 hd_X8_work ⟨Nat.le_of_ble_eq_true rfl, Nat.le_of_ble_eq_true rfl⟩ rfl (sw_rm (Nat.le_of_ble_eq_true rfl)) ⟨by show _ ≤ 0; omega, by show _ ≤ 0; omega⟩ dX8_put_172 ?_
    refine g_iconst (pc := 175) (v := 1) K dX8_put_175 (by decide) ?_
    cases h
    exact hT _ _ 176 _ (by omega) (by omega) dX8_put_176
  · replace h := (if_neg c1).symm.trans h
    refine g_aload_n (pc := 90) K 0 rfl rfl dX8_put_90 ?_
    replace h := Option.bind_eq_some_iff.mp h
    obtain ⟨r31, e32, h⟩ := h
    refine g_getR (pc := 91) K cl_8 hin_X8 (k := 3) (by decide) tb_521 rfl e32 dX8_put_91 ?_
    refine g_iload (pc := 94) K 5 rfl dX8_put_94 ?_
    refine g_aload_n (pc := 96) K 0 rfl rfl dX8_put_96 ?_
    replace h := Option.bind_eq_some_iff.mp h
    obtain ⟨r33, e34, h⟩ := h
    refine g_getR (pc := 97) K cl_8 hin_X8 (k := 3) (by decide) tb_521 rfl e34 dX8_put_97 ?_
    refine g_iload (pc := 100) K 5 rfl dX8_put_100 ?_
    refine g_iconst (pc := 102) (v := 1) K dX8_put_102 (by decide) ?_
    refine g_isub (pc := 103) K dX8_put_103 ?_
    replace h := Option.bind_eq_some_iff.mp h
    obtain ⟨a35, rfl, h⟩ := h
    replace h := Option.bind_eq_some_iff.mp h
    obtain ⟨x37, e36, h⟩ := h
    refine g_iald (pc := 104) K e36 dX8_put_104 ?_
    replace h := Option.bind_eq_some_iff.mp h
    obtain ⟨a38, rfl, h⟩ := h
    replace h := Option.bind_eq_some_iff.mp h
    obtain ⟨σ40, e39, h⟩ := h
    refine g_iast (pc := 105) K e39 dX8_put_105 ?_
    refine g_aload_n (pc := 106) K 0 rfl rfl dX8_put_106 ?_
    replace h := Option.bind_eq_some_iff.mp h
    obtain ⟨r41, e42, h⟩ := h
    refine g_getR (pc := 107) K cl_8 hin_X8 (k := 4) (by decide) tb_522 rfl e42 dX8_put_107 ?_
    refine g_iload (pc := 110) K 5 rfl dX8_put_110 ?_
    refine g_aload_n (pc := 112) K 0 rfl rfl dX8_put_112 ?_
    replace h := Option.bind_eq_some_iff.mp h
    obtain ⟨r43, e44, h⟩ := h
    refine g_getR (pc := 113) K cl_8 hin_X8 (k := 4) (by decide) tb_522 rfl e44 dX8_put_113 ?_
    refine g_iload (pc := 116) K 5 rfl dX8_put_116 ?_
    refine g_iconst (pc := 118) (v := 1) K dX8_put_118 (by decide) ?_
    refine g_isub (pc := 119) K dX8_put_119 ?_
    replace h := Option.bind_eq_some_iff.mp h
    obtain ⟨a45, rfl, h⟩ := h
    replace h := Option.bind_eq_some_iff.mp h
    obtain ⟨x47, e46, h⟩ := h
    refine g_iald (pc := 120) K e46 dX8_put_120 ?_
    replace h := Option.bind_eq_some_iff.mp h
    obtain ⟨a48, rfl, h⟩ := h
    replace h := Option.bind_eq_some_iff.mp h
    obtain ⟨σ50, e49, h⟩ := h
    refine g_iast (pc := 121) K e49 dX8_put_121 ?_
    refine g_iinc (pc := 122) K 5 (v6 + (-1)) [(6, I_ ((v6 + (-1)))), (0, P_ (some v0)), (1, I_ v1), (2, I_ v2), (4, I_ v4), (5, I_ v5)] rfl (congrArg (fun z => v6 + z) (by decide : Int32.ofInt (-1) = (-1))) (by decide) rfl dX8_put_122 ?_
    refine g_goto (pc := 125) (tgt := 83) K dX8_put_125 (by decide) ?_
    refine g_sub K [1, 2, 3, 4, 5, 0] rfl ?_
    exact hrec83 _ _ _ _ _ _ _ _ _ h (by omega) (by omega)
def b_X8_put_83  : Nat → Nat → Int32 → Int32 → Int32 → Int32 → Int32 → sw_S → Option (Int32 × sw_S)
  | 0 => fun _ _ _ _ _ _ _ => none
  | n + 1 => B_X8_put_83 (b_X8_put_83  n)
theorem wl_X8_put_83 {p : Program} {l : Launch} {e : Env} {s : State} {m : MethodId} {args : Array Value} {below : List Frame} {meth : Method} {c : Code} {Q : State → Prop} {A : Nat → Prop} {D : va_G} {cT : Nat → ClassId} {r : Int32}  {σ' : sw_S}  (K : sw_C p s m args c cX8_put 7 RX8 A D cT) (hT : sw_Ti cX8_put p l e (sw_R 3 0 0 72) s m args below meth c Q 7 A D cT 0 0 σ' r) : ∀ (n : Nat) (v0 : Nat) (v1 : Int32) (v2 : Int32) (v4 : Int32) (v5 : Int32) (v6 : Int32) (σ : sw_S) (ce sl : Nat), b_X8_put_83  n v0 v1 v2 v4 v5 v6 σ = some (r, σ') → ce + (0) ≤ 0 → sl + (0) ≤ 0 → sw_G p l e (sw_R 3 0 0 72) s m args below meth c Q 7 A D cT σ ce sl 83 [(0, P_ (some v0)), (1, I_ v1), (2, I_ v2), (4, I_ v4), (5, I_ v5), (6, I_ v6)] [] := by
  intro n
  induction n with
  | zero =>
    intro v0 v1 v2 v4 v5 v6 σ ce sl h
    exact absurd (show none = some (r, σ') from h) (by simp)
  | succ n ih =>
    intro v0 v1 v2 v4 v5 v6 σ ce sl h hce hsl
    exact wB_X8_put_83 K hT (fun _ _ _ _ _ _ _ _ _ h h1 h2 => ih _ _ _ _ _ _ _ _ _ h h1 h2) _ _ _ _ _ _ _ _ _ h hce hsl
def b_X8_put_72 (v0 : Nat) (v1 : Int32) (v2 : Int32) (v4 : Int32) (t0 : Int32) (t1 : Int32) (t2 : Nat) (σ : sw_S) : Option (Int32 × sw_S) :=
  (sw_ob 8 t2 σ).bind fun f1 =>
  (f_X8_holder t2 t1 t0 σ).bind fun x4 =>
  (sw_gI 8 v0 2 σ).bind fun x5 =>
  b_X8_put_83 1000 v0 v1 v2 v4 x4 x5 σ
set_option maxHeartbeats 4000000 in
set_option maxRecDepth 100000 in
theorem w_X8_put_72 {p : Program} {l : Launch} {e : Env} {s : State} {m : MethodId} {args : Array Value} {below : List Frame} {meth : Method} {c : Code} {Q : State → Prop} {A : Nat → Prop} {D : va_G} {cT : Nat → ClassId} {r : Int32}  {σ' : sw_S}  (K : sw_C p s m args c cX8_put 7 RX8 A D cT) (hT : sw_Ti cX8_put p l e (sw_R 3 0 0 72) s m args below meth c Q 7 A D cT 0 0 σ' r) (v0 : Nat) (v1 : Int32) (v2 : Int32) (v4 : Int32) (t0 : Int32) (t1 : Int32) (t2 : Nat) (σ : sw_S)  (ce sl : Nat) (h : b_X8_put_72 v0 v1 v2 v4 t0 t1 t2 σ = some (r, σ')) (hce : ce + (0) ≤ 0) (hsl : sl + (0) ≤ 0) : sw_G p l e (sw_R 3 0 0 72) s m args below meth c Q 7 A D cT σ ce sl 72 [(0, P_ (some v0)), (1, I_ v1), (2, I_ v2), (4, I_ v4)] [I_ t0, I_ t1, P_ (some t2)] := by
  unfold b_X8_put_72 at h
  replace h := Option.bind_eq_some_iff.mp h
  obtain ⟨f1, e2, h⟩ := h
  replace h := Option.bind_eq_some_iff.mp h
  obtain ⟨x4, e3, h⟩ := h
  refine g_callV (pc := 72) (st := []) K [I_ t1, I_ t0] (c_X8_holder _ _ _ _ _ _ _ e3) e2 cl_8 rfl tb_631 tb_628 tb_7 tb_630 sl_30 hd_X8_holder ⟨Nat.le_of_ble_eq_true rfl, Nat.le_of_ble_eq_true rfl⟩ rfl (sw_rm (Nat.le_of_ble_eq_true rfl)) ⟨by show _ ≤ 0; omega, by show _ ≤ 0; omega⟩ dX8_put_72 ?_
  refine g_istore (pc := 75) K [(5, I_ x4), (0, P_ (some v0)), (1, I_ v1), (2, I_ v2), (4, I_ v4)] (by decide) rfl dX8_put_75 ?_
  refine g_aload_n (pc := 77) K 1 rfl rfl dX8_put_77 ?_
  replace h := Option.bind_eq_some_iff.mp h
  obtain ⟨x5, e6, h⟩ := h
  refine g_getI (pc := 78) K cl_8 hin_X8 (k := 2) (by decide) tb_520 rfl e6 dX8_put_78 ?_
  refine g_istore (pc := 81) K [(6, I_ x5), (5, I_ x4), (0, P_ (some v0)), (1, I_ v1), (2, I_ v2), (4, I_ v4)] (by decide) rfl dX8_put_81 ?_
  refine g_sub K [2, 3, 4, 5, 1, 0] rfl ?_
  exact wl_X8_put_83 K hT  1000 _ _ _ _ _ _ _ _ _ h (by omega) (by omega)
def b_X8_put_14 (σ : sw_S) : Option (Int32 × sw_S) :=
  some (0, σ)
set_option maxHeartbeats 4000000 in
set_option maxRecDepth 100000 in
theorem w_X8_put_14 {p : Program} {l : Launch} {e : Env} {s : State} {m : MethodId} {args : Array Value} {below : List Frame} {meth : Method} {c : Code} {Q : State → Prop} {A : Nat → Prop} {D : va_G} {cT : Nat → ClassId} {r : Int32}  {σ' : sw_S}  (K : sw_C p s m args c cX8_put 7 RX8 A D cT) (hT : sw_Ti cX8_put p l e (sw_R 3 0 0 72) s m args below meth c Q 7 A D cT 0 0 σ' r) (σ : sw_S)  (ce sl : Nat) (h : b_X8_put_14  σ = some (r, σ')) (hce : ce + (0) ≤ 0) (hsl : sl + (0) ≤ 0) : sw_G p l e (sw_R 3 0 0 72) s m args below meth c Q 7 A D cT σ ce sl 14 [] [] := by
  unfold b_X8_put_14 at h
  refine g_iconst (pc := 14) (v := 0) K dX8_put_14 (by decide) ?_
  cases h
  exact hT _ _ 15 _ (by omega) (by omega) dX8_put_15
def f_X8_put (p0 : Nat) (q1 : Int32) (q2 : Int32) (σ : sw_S) : Option (Int32 × sw_S) :=
  (if q1 < ((-9999)) then
  b_X8_put_14 σ
  else
  (if q1 ≤ 9999 then
  (sw_ob 8 p0 σ).bind fun f3 =>
  (f_X8_find p0 q1 σ).bind fun x6 =>
  (if x6 < 0 then
  (sw_gI 8 p0 2 σ).bind fun x8 =>
  (if x8 = 60 then
  some (0, σ)
  else
  (sw_ob 8 p0 σ).bind fun f11 =>
  (f_X8_upTo p0 q1 σ).bind fun x14 =>
  (if x14 = 0 then
  b_X8_put_72 p0 q1 q2 x14 0 0 p0 σ
  else
  b_X8_put_72 p0 q1 q2 x14 ((x14 - 1)) 0 p0 σ))
  else
  (sw_gR 8 p0 4 σ).bind fun r16 =>
  r16.bind fun a18 =>
  (sw_as 0 a18 x6 q2 σ).bind fun σ20 =>
  (sw_ob 8 p0 σ20).bind fun f21 =>
  (f_X8_work p0 σ20).bind fun σ24 =>
  some (2, σ24))
  else
  b_X8_put_14 σ))
set_option maxHeartbeats 4000000 in
set_option maxRecDepth 100000 in
theorem c_X8_put  (l : Launch) (D : va_G) (cT : Nat → ClassId) (p0 : Nat) (q1 : Int32) (q2 : Int32) (σ : sw_S) {r : Int32} {σ' : sw_S} (h : f_X8_put p0 q1 q2 σ = some (r, σ')) : sw_M l D cT yX8_put cX8_put 7 (some .int) 3 72 0 0 σ [P_ (some p0), I_ q1, I_ q2] (some (I_ r)) σ' := by
  refine sw_met_i (by decide) (Nat.le_of_ble_eq_true rfl) (fun p e s m args below meth c A Q K hnm hT => ?_)
  have hce : 0 + 0 ≤ 0 := Nat.le_of_ble_eq_true rfl
  have hsl : 0 + 0 ≤ 0 := Nat.le_of_ble_eq_true rfl
  unfold f_X8_put at h
  change sw_G p l e (sw_R 3 0 0 72) s m args below meth c Q 7 A D cT σ 0 0 0 [(0, P_ (some p0)), (1, I_ q1), (2, I_ q2)] []
  refine g_iload_n (pc := 0) K 1 rfl rfl dX8_put_0 ?_
  refine g_sipush (pc := 1) (v := (-9999)) K dX8_put_1 (by decide) ?_
  refine g_icmp_lt (pc := 4) K 14 dX8_put_4 (by decide) (fun c1 => ?_) (fun c1 => ?_)
  · replace h := (if_pos c1).symm.trans h
    refine g_sub K [] rfl ?_
    exact w_X8_put_14 K hT   _ _ _ h (by omega) (by omega)
  · replace h := (if_neg c1).symm.trans h
    refine g_iload_n (pc := 7) K 1 rfl rfl dX8_put_7 ?_
    refine g_sipush (pc := 8) (v := 9999) K dX8_put_8 (by decide) ?_
    refine g_icmp_le (pc := 11) K 16 dX8_put_11 (by decide) (fun c2 => ?_) (fun c2 => ?_)
    · replace h := (if_pos c2).symm.trans h
      refine g_aload_n (pc := 16) K 0 rfl rfl dX8_put_16 ?_
      refine g_iload_n (pc := 17) K 1 rfl rfl dX8_put_17 ?_
      replace h := Option.bind_eq_some_iff.mp h
      obtain ⟨f3, e4, h⟩ := h
      replace h := Option.bind_eq_some_iff.mp h
      obtain ⟨x6, e5, h⟩ := h
      refine g_callV (pc := 18) (st := []) K [I_ q1] (c_X8_find _ _ _ _ _ _ e5) e4 cl_8 rfl tb_623 tb_620 tb_7 tb_622 sl_28 hd_X8_find ⟨Nat.le_of_ble_eq_true rfl, Nat.le_of_ble_eq_true rfl⟩ rfl (sw_rm (Nat.le_of_ble_eq_true rfl)) ⟨by show _ ≤ 0; omega, by show _ ≤ 0; omega⟩ dX8_put_18 ?_
      refine g_istore_n (pc := 21) K [(3, I_ x6), (0, P_ (some p0)), (1, I_ q1), (2, I_ q2)] rfl (by decide) rfl dX8_put_21 ?_
      refine g_iload_n (pc := 22) K 0 rfl rfl dX8_put_22 ?_
      refine g_if_lt (pc := 23) K 39 dX8_put_23 (by decide) (fun c7 => ?_) (fun c7 => ?_)
      · replace h := (if_pos c7).symm.trans h
        refine g_aload_n (pc := 39) K 1 rfl rfl dX8_put_39 ?_
        replace h := Option.bind_eq_some_iff.mp h
        obtain ⟨x8, e9, h⟩ := h
        refine g_getI (pc := 40) K cl_8 hin_X8 (k := 2) (by decide) tb_520 rfl e9 dX8_put_40 ?_
        refine g_bipush (pc := 43) (v := 60) K dX8_put_43 (by decide) ?_
        refine g_icmp_ne (pc := 45) K 50 dX8_put_45 (by decide) (fun c10 => ?_) (fun c10 => ?_)
        · replace h := (if_pos c10).symm.trans h
          refine g_iconst (pc := 48) (v := 0) K dX8_put_48 (by decide) ?_
          cases h
          exact hT _ _ 49 _ (by omega) (by omega) dX8_put_49
        · replace h := (if_neg c10).symm.trans h
          refine g_aload_n (pc := 50) K 1 rfl rfl dX8_put_50 ?_
          refine g_iload_n (pc := 51) K 2 rfl rfl dX8_put_51 ?_
          replace h := Option.bind_eq_some_iff.mp h
          obtain ⟨f11, e12, h⟩ := h
          replace h := Option.bind_eq_some_iff.mp h
          obtain ⟨x14, e13, h⟩ := h
          refine g_callV (pc := 52) (st := []) K [I_ q1] (c_X8_upTo _ _ _ _ _ _ e13) e12 cl_8 rfl tb_627 tb_624 tb_7 tb_626 sl_29 hd_X8_upTo ⟨Nat.le_of_ble_eq_true rfl, Nat.le_of_ble_eq_true rfl⟩ rfl (sw_rm (Nat.le_of_ble_eq_true rfl)) ⟨by show _ ≤ 0; omega, by show _ ≤ 0; omega⟩ dX8_put_52 ?_
          refine g_istore (pc := 55) K [(4, I_ x14), (3, I_ x6), (0, P_ (some p0)), (1, I_ q1), (2, I_ q2)] (by decide) rfl dX8_put_55 ?_
          refine g_aload_n (pc := 57) K 2 rfl rfl dX8_put_57 ?_
          refine g_iconst (pc := 58) (v := 0) K dX8_put_58 (by decide) ?_
          refine g_iload (pc := 59) K 0 rfl dX8_put_59 ?_
          refine g_if_ne (pc := 61) K 68 dX8_put_61 (by decide) (fun c15 => ?_) (fun c15 => ?_)
          · replace h := (if_pos c15).symm.trans h
            refine g_iconst (pc := 64) (v := 0) K dX8_put_64 (by decide) ?_
            refine g_goto (pc := 65) (tgt := 72) K dX8_put_65 (by decide) ?_
            refine g_sub K [2, 3, 4, 0] rfl ?_
            exact w_X8_put_72 K hT  _ _ _ _ _ _ _ _ _ _ h (by omega) (by omega)
          · replace h := (if_neg c15).symm.trans h
            refine g_iload (pc := 68) K 0 rfl dX8_put_68 ?_
            refine g_iconst (pc := 70) (v := 1) K dX8_put_70 (by decide) ?_
            refine g_isub (pc := 71) K dX8_put_71 ?_
            refine g_sub K [2, 3, 4, 0] rfl ?_
            exact w_X8_put_72 K hT  _ _ _ _ _ _ _ _ _ _ h (by omega) (by omega)
      · replace h := (if_neg c7).symm.trans h
        refine g_aload_n (pc := 26) K 1 rfl rfl dX8_put_26 ?_
        replace h := Option.bind_eq_some_iff.mp h
        obtain ⟨r16, e17, h⟩ := h
        refine g_getR (pc := 27) K cl_8 hin_X8 (k := 4) (by decide) tb_522 rfl e17 dX8_put_27 ?_
        refine g_iload_n (pc := 30) K 0 rfl rfl dX8_put_30 ?_
        refine g_iload_n (pc := 31) K 3 rfl rfl dX8_put_31 ?_
        replace h := Option.bind_eq_some_iff.mp h
        obtain ⟨a18, rfl, h⟩ := h
        replace h := Option.bind_eq_some_iff.mp h
        obtain ⟨σ20, e19, h⟩ := h
        refine g_iast (pc := 32) K e19 dX8_put_32 ?_
        refine g_aload_n (pc := 33) K 1 rfl rfl dX8_put_33 ?_
        replace h := Option.bind_eq_some_iff.mp h
        obtain ⟨f21, e22, h⟩ := h
        replace h := Option.bind_eq_some_iff.mp h
        obtain ⟨σ24, e23, h⟩ := h
        refine g_callV (pc := 34) (st := []) K [] (c_X8_work _ _ _ _ _ e23) e22 cl_8 rfl tb_509 tb_506 tb_7 tb_508 sl_26 hd_X8_work ⟨Nat.le_of_ble_eq_true rfl, Nat.le_of_ble_eq_true rfl⟩ rfl (sw_rm (Nat.le_of_ble_eq_true rfl)) ⟨by show _ ≤ 0; omega, by show _ ≤ 0; omega⟩ dX8_put_34 ?_
        refine g_iconst (pc := 37) (v := 2) K dX8_put_37 (by decide) ?_
        cases h
        exact hT _ _ 38 _ (by omega) (by omega) dX8_put_38
    · replace h := (if_neg c2).symm.trans h
      refine g_sub K [] rfl ?_
      exact w_X8_put_14 K hT   _ _ _ h (by omega) (by omega)

def b_X8_settle_162 (v0 : Nat) (v1 : Int32) (v3 : Int32) (t0 : Int32) (σ : sw_S) : Option (Int32 × sw_S) :=
  (sw_gR 8 v0 6 σ).bind fun r1 =>
  (sw_gR 8 v0 6 σ).bind fun r3 =>
  r3.bind fun a5 =>
  (sw_al 0 a5 ((((64 * v1)) + t0)) σ).bind fun x7 =>
  (sw_gR 8 v0 6 σ).bind fun r8 =>
  r8.bind fun a10 =>
  (sw_al 0 a10 ((((((64 * v1)) + t0)) + 1)) σ).bind fun x12 =>
  r1.bind fun a13 =>
  (sw_as 0 a13 ((((64 * v1)) + t0)) ((x7 + x12)) σ).bind fun σ15 =>
  (sw_ob 8 v0 σ15).bind fun f16 =>
  (f_X8_removeNode v0 v1 ((t0 + 1)) σ15).bind fun σ19 =>
  (sw_gR 8 v0 6 σ19).bind fun r20 =>
  r20.bind fun a22 =>
  (sw_al 0 a22 ((((64 * ((v1 + 1)))) + v3)) σ19).bind fun x24 =>
  (sw_as 0 a22 ((((64 * ((v1 + 1)))) + v3)) ((x24 - 1)) σ19).bind fun σ26 =>
  some (1, σ26)
set_option maxHeartbeats 4000000 in
set_option maxRecDepth 100000 in
theorem w_X8_settle_162 {p : Program} {l : Launch} {e : Env} {s : State} {m : MethodId} {args : Array Value} {below : List Frame} {meth : Method} {c : Code} {Q : State → Prop} {A : Nat → Prop} {D : va_G} {cT : Nat → ClassId} {r : Int32}  {σ' : sw_S}  (K : sw_C p s m args c cX8_settle 9 RX8 A D cT) (hT : sw_Tz cX8_settle p l e (sw_R 1 0 0 25) s m args below meth c Q 9 A D cT 0 0 σ' r) (v0 : Nat) (v1 : Int32) (v3 : Int32) (t0 : Int32) (σ : sw_S)  (ce sl : Nat) (h : b_X8_settle_162 v0 v1 v3 t0 σ = some (r, σ')) (hce : ce + (0) ≤ 0) (hsl : sl + (0) ≤ 0) : sw_G p l e (sw_R 1 0 0 25) s m args below meth c Q 9 A D cT σ ce sl 162 [(0, P_ (some v0)), (1, I_ v1), (3, I_ v3)] [I_ t0] := by
  unfold b_X8_settle_162 at h
  refine g_istore (pc := 162) K [(8, I_ t0), (0, P_ (some v0)), (1, I_ v1), (3, I_ v3)] (by decide) rfl dX8_settle_162 ?_
  refine g_aload_n (pc := 164) K 1 rfl rfl dX8_settle_164 ?_
  replace h := Option.bind_eq_some_iff.mp h
  obtain ⟨r1, e2, h⟩ := h
  refine g_getR (pc := 165) K cl_8 hin_X8 (k := 6) (by decide) tb_524 rfl e2 dX8_settle_165 ?_
  refine g_bipush (pc := 168) (v := 64) K dX8_settle_168 (by decide) ?_
  refine g_iload_n (pc := 170) K 2 rfl rfl dX8_settle_170 ?_
  refine g_imul (pc := 171) K dX8_settle_171 ?_
  refine g_iload (pc := 172) K 0 rfl dX8_settle_172 ?_
  refine g_iadd (pc := 174) K dX8_settle_174 ?_
  refine g_aload_n (pc := 175) K 1 rfl rfl dX8_settle_175 ?_
  replace h := Option.bind_eq_some_iff.mp h
  obtain ⟨r3, e4, h⟩ := h
  refine g_getR (pc := 176) K cl_8 hin_X8 (k := 6) (by decide) tb_524 rfl e4 dX8_settle_176 ?_
  refine g_bipush (pc := 179) (v := 64) K dX8_settle_179 (by decide) ?_
  refine g_iload_n (pc := 181) K 2 rfl rfl dX8_settle_181 ?_
  refine g_imul (pc := 182) K dX8_settle_182 ?_
  refine g_iload (pc := 183) K 0 rfl dX8_settle_183 ?_
  refine g_iadd (pc := 185) K dX8_settle_185 ?_
  replace h := Option.bind_eq_some_iff.mp h
  obtain ⟨a5, rfl, h⟩ := h
  replace h := Option.bind_eq_some_iff.mp h
  obtain ⟨x7, e6, h⟩ := h
  refine g_iald (pc := 186) K e6 dX8_settle_186 ?_
  refine g_aload_n (pc := 187) K 1 rfl rfl dX8_settle_187 ?_
  replace h := Option.bind_eq_some_iff.mp h
  obtain ⟨r8, e9, h⟩ := h
  refine g_getR (pc := 188) K cl_8 hin_X8 (k := 6) (by decide) tb_524 rfl e9 dX8_settle_188 ?_
  refine g_bipush (pc := 191) (v := 64) K dX8_settle_191 (by decide) ?_
  refine g_iload_n (pc := 193) K 2 rfl rfl dX8_settle_193 ?_
  refine g_imul (pc := 194) K dX8_settle_194 ?_
  refine g_iload (pc := 195) K 0 rfl dX8_settle_195 ?_
  refine g_iadd (pc := 197) K dX8_settle_197 ?_
  refine g_iconst (pc := 198) (v := 1) K dX8_settle_198 (by decide) ?_
  refine g_iadd (pc := 199) K dX8_settle_199 ?_
  replace h := Option.bind_eq_some_iff.mp h
  obtain ⟨a10, rfl, h⟩ := h
  replace h := Option.bind_eq_some_iff.mp h
  obtain ⟨x12, e11, h⟩ := h
  refine g_iald (pc := 200) K e11 dX8_settle_200 ?_
  refine g_iadd (pc := 201) K dX8_settle_201 ?_
  replace h := Option.bind_eq_some_iff.mp h
  obtain ⟨a13, rfl, h⟩ := h
  replace h := Option.bind_eq_some_iff.mp h
  obtain ⟨σ15, e14, h⟩ := h
  refine g_iast (pc := 202) K e14 dX8_settle_202 ?_
  refine g_aload_n (pc := 203) K 1 rfl rfl dX8_settle_203 ?_
  refine g_iload_n (pc := 204) K 2 rfl rfl dX8_settle_204 ?_
  refine g_iload (pc := 205) K 0 rfl dX8_settle_205 ?_
  refine g_iconst (pc := 207) (v := 1) K dX8_settle_207 (by decide) ?_
  refine g_iadd (pc := 208) K dX8_settle_208 ?_
  replace h := Option.bind_eq_some_iff.mp h
  obtain ⟨f16, e17, h⟩ := h
  replace h := Option.bind_eq_some_iff.mp h
  obtain ⟨σ19, e18, h⟩ := h
  refine g_callV (pc := 209) (st := []) K [I_ v1, I_ ((t0 + 1))] (c_X8_removeNode _ _ _ _ _ _ _ e18) e17 cl_8 rfl tb_655 tb_652 tb_7 tb_654 sl_35 hd_X8_removeNode ⟨Nat.le_of_ble_eq_true rfl, Nat.le_of_ble_eq_true rfl⟩ rfl (sw_rm (Nat.le_of_ble_eq_true rfl)) ⟨by show _ ≤ 0; omega, by show _ ≤ 0; omega⟩ dX8_settle_209 ?_
  refine g_aload_n (pc := 212) K 1 rfl rfl dX8_settle_212 ?_
  replace h := Option.bind_eq_some_iff.mp h
  obtain ⟨r20, e21, h⟩ := h
  refine g_getR (pc := 213) K cl_8 hin_X8 (k := 6) (by decide) tb_524 rfl e21 dX8_settle_213 ?_
  refine g_bipush (pc := 216) (v := 64) K dX8_settle_216 (by decide) ?_
  refine g_iload_n (pc := 218) K 2 rfl rfl dX8_settle_218 ?_
  refine g_iconst (pc := 219) (v := 1) K dX8_settle_219 (by decide) ?_
  refine g_iadd (pc := 220) K dX8_settle_220 ?_
  refine g_imul (pc := 221) K dX8_settle_221 ?_
  refine g_iload_n (pc := 222) K 3 rfl rfl dX8_settle_222 ?_
  refine g_iadd (pc := 223) K dX8_settle_223 ?_
  refine g_dup2 (pc := 224) K rfl rfl dX8_settle_224 ?_
  replace h := Option.bind_eq_some_iff.mp h
  obtain ⟨a22, rfl, h⟩ := h
  replace h := Option.bind_eq_some_iff.mp h
  obtain ⟨x24, e23, h⟩ := h
  refine g_iald (pc := 225) K e23 dX8_settle_225 ?_
  refine g_iconst (pc := 226) (v := 1) K dX8_settle_226 (by decide) ?_
  refine g_isub (pc := 227) K dX8_settle_227 ?_
  replace h := Option.bind_eq_some_iff.mp h
  obtain ⟨σ26, e25, h⟩ := h
  refine g_iast (pc := 228) K e25 dX8_settle_228 ?_
  refine g_iconst (pc := 229) (v := 1) K dX8_settle_229 (by decide) ?_
  cases h
  exact hT _ _ 230 _ (by omega) (by omega) rfl dX8_settle_230
def b_X8_settle_150 (v0 : Nat) (v1 : Int32) (v2 : Int32) (v3 : Int32) (v6 : Int32) (σ : sw_S) : Option (Int32 × sw_S) :=
  (if v6 = 0 then
  b_X8_settle_162 v0 v1 v3 v2 σ
  else
  b_X8_settle_162 v0 v1 v3 ((v2 - 1)) σ)
set_option maxHeartbeats 4000000 in
set_option maxRecDepth 100000 in
theorem w_X8_settle_150 {p : Program} {l : Launch} {e : Env} {s : State} {m : MethodId} {args : Array Value} {below : List Frame} {meth : Method} {c : Code} {Q : State → Prop} {A : Nat → Prop} {D : va_G} {cT : Nat → ClassId} {r : Int32}  {σ' : sw_S}  (K : sw_C p s m args c cX8_settle 9 RX8 A D cT) (hT : sw_Tz cX8_settle p l e (sw_R 1 0 0 25) s m args below meth c Q 9 A D cT 0 0 σ' r) (v0 : Nat) (v1 : Int32) (v2 : Int32) (v3 : Int32) (v6 : Int32) (σ : sw_S)  (ce sl : Nat) (h : b_X8_settle_150 v0 v1 v2 v3 v6 σ = some (r, σ')) (hce : ce + (0) ≤ 0) (hsl : sl + (0) ≤ 0) : sw_G p l e (sw_R 1 0 0 25) s m args below meth c Q 9 A D cT σ ce sl 150 [(0, P_ (some v0)), (1, I_ v1), (2, I_ v2), (3, I_ v3), (6, I_ v6)] [] := by
  unfold b_X8_settle_150 at h
  refine g_iload (pc := 150) K 4 rfl dX8_settle_150 ?_
  refine g_if_eq (pc := 152) K 161 dX8_settle_152 (by decide) (fun c1 => ?_) (fun c1 => ?_)
  · replace h := (if_pos c1).symm.trans h
    refine g_iload_n (pc := 161) K 2 rfl rfl dX8_settle_161 ?_
    refine g_sub K [0, 1, 3] rfl ?_
    exact w_X8_settle_162 K hT  _ _ _ _ _ _ _ h (by omega) (by omega)
  · replace h := (if_neg c1).symm.trans h
    refine g_iload_n (pc := 155) K 2 rfl rfl dX8_settle_155 ?_
    refine g_iconst (pc := 156) (v := 1) K dX8_settle_156 (by decide) ?_
    refine g_isub (pc := 157) K dX8_settle_157 ?_
    refine g_goto (pc := 158) (tgt := 162) K dX8_settle_158 (by decide) ?_
    refine g_sub K [0, 1, 3] rfl ?_
    exact w_X8_settle_162 K hT  _ _ _ _ _ _ _ h (by omega) (by omega)
def b_X8_settle_103 (v0 : Nat) (v1 : Int32) (v2 : Int32) (v3 : Int32) (v4 : Int32) (v6 : Int32) (v7 : Int32) (σ : sw_S) : Option (Int32 × sw_S) :=
  (if v7 = 0 then
  b_X8_settle_150 v0 v1 v2 v3 v6 σ
  else
  (sw_gR 8 v0 6 σ).bind fun r2 =>
  r2.bind fun a4 =>
  (sw_al 0 a4 ((v4 + 1)) σ).bind fun x6 =>
  (sw_gI 8 v0 1 σ).bind fun x7 =>
  (if x6 ≤ x7 then
  b_X8_settle_150 v0 v1 v2 v3 v6 σ
  else
  (sw_gR 8 v0 6 σ).bind fun r10 =>
  r10.bind fun a12 =>
  (sw_al 0 a12 ((v4 + 1)) σ).bind fun x14 =>
  (sw_as 0 a12 ((v4 + 1)) ((x14 - 1)) σ).bind fun σ16 =>
  (sw_gR 8 v0 6 σ16).bind fun r17 =>
  r17.bind fun a19 =>
  (sw_al 0 a19 v4 σ16).bind fun x21 =>
  (sw_as 0 a19 v4 ((x21 + 1)) σ16).bind fun σ23 =>
  some (0, σ23)))
set_option maxHeartbeats 4000000 in
set_option maxRecDepth 100000 in
theorem w_X8_settle_103 {p : Program} {l : Launch} {e : Env} {s : State} {m : MethodId} {args : Array Value} {below : List Frame} {meth : Method} {c : Code} {Q : State → Prop} {A : Nat → Prop} {D : va_G} {cT : Nat → ClassId} {r : Int32}  {σ' : sw_S}  (K : sw_C p s m args c cX8_settle 9 RX8 A D cT) (hT : sw_Tz cX8_settle p l e (sw_R 1 0 0 25) s m args below meth c Q 9 A D cT 0 0 σ' r) (v0 : Nat) (v1 : Int32) (v2 : Int32) (v3 : Int32) (v4 : Int32) (v6 : Int32) (v7 : Int32) (σ : sw_S)  (ce sl : Nat) (h : b_X8_settle_103 v0 v1 v2 v3 v4 v6 v7 σ = some (r, σ')) (hce : ce + (0) ≤ 0) (hsl : sl + (0) ≤ 0) : sw_G p l e (sw_R 1 0 0 25) s m args below meth c Q 9 A D cT σ ce sl 103 [(0, P_ (some v0)), (1, I_ v1), (2, I_ v2), (3, I_ v3), (4, I_ v4), (6, I_ v6), (7, I_ v7)] [] := by
  unfold b_X8_settle_103 at h
  refine g_iload (pc := 103) K 6 rfl dX8_settle_103 ?_
  refine g_if_eq (pc := 105) K 150 dX8_settle_105 (by decide) (fun c1 => ?_) (fun c1 => ?_)
  · replace h := (if_pos c1).symm.trans h
    refine g_sub K [0, 1, 2, 3, 5] rfl ?_
    exact w_X8_settle_150 K hT  _ _ _ _ _ _ _ _ h (by omega) (by omega)
  · replace h := (if_neg c1).symm.trans h
    refine g_aload_n (pc := 108) K 0 rfl rfl dX8_settle_108 ?_
    replace h := Option.bind_eq_some_iff.mp h
    obtain ⟨r2, e3, h⟩ := h
    refine g_getR (pc := 109) K cl_8 hin_X8 (k := 6) (by decide) tb_524 rfl e3 dX8_settle_109 ?_
    refine g_iload (pc := 112) K 4 rfl dX8_settle_112 ?_
    refine g_iconst (pc := 114) (v := 1) K dX8_settle_114 (by decide) ?_
    refine g_iadd (pc := 115) K dX8_settle_115 ?_
    replace h := Option.bind_eq_some_iff.mp h
    obtain ⟨a4, rfl, h⟩ := h
    replace h := Option.bind_eq_some_iff.mp h
    obtain ⟨x6, e5, h⟩ := h
    refine g_iald (pc := 116) K e5 dX8_settle_116 ?_
    refine g_aload_n (pc := 117) K 0 rfl rfl dX8_settle_117 ?_
    replace h := Option.bind_eq_some_iff.mp h
    obtain ⟨x7, e8, h⟩ := h
    refine g_getI (pc := 118) K cl_8 hin_X8 (k := 1) (by decide) tb_519 rfl e8 dX8_settle_118 ?_
    refine g_icmp_le (pc := 121) K 150 dX8_settle_121 (by decide) (fun c9 => ?_) (fun c9 => ?_)
    · replace h := (if_pos c9).symm.trans h
      refine g_sub K [0, 1, 2, 3, 5] rfl ?_
      exact w_X8_settle_150 K hT  _ _ _ _ _ _ _ _ h (by omega) (by omega)
    · replace h := (if_neg c9).symm.trans h
      refine g_aload_n (pc := 124) K 0 rfl rfl dX8_settle_124 ?_
      replace h := Option.bind_eq_some_iff.mp h
      obtain ⟨r10, e11, h⟩ := h
      refine g_getR (pc := 125) K cl_8 hin_X8 (k := 6) (by decide) tb_524 rfl e11 dX8_settle_125 ?_
      refine g_iload (pc := 128) K 4 rfl dX8_settle_128 ?_
      refine g_iconst (pc := 130) (v := 1) K dX8_settle_130 (by decide) ?_
      refine g_iadd (pc := 131) K dX8_settle_131 ?_
      refine g_dup2 (pc := 132) K rfl rfl dX8_settle_132 ?_
      replace h := Option.bind_eq_some_iff.mp h
      obtain ⟨a12, rfl, h⟩ := h
      replace h := Option.bind_eq_some_iff.mp h
      obtain ⟨x14, e13, h⟩ := h
      refine g_iald (pc := 133) K e13 dX8_settle_133 ?_
      refine g_iconst (pc := 134) (v := 1) K dX8_settle_134 (by decide) ?_
      refine g_isub (pc := 135) K dX8_settle_135 ?_
      replace h := Option.bind_eq_some_iff.mp h
      obtain ⟨σ16, e15, h⟩ := h
      refine g_iast (pc := 136) K e15 dX8_settle_136 ?_
      refine g_aload_n (pc := 137) K 0 rfl rfl dX8_settle_137 ?_
      replace h := Option.bind_eq_some_iff.mp h
      obtain ⟨r17, e18, h⟩ := h
      refine g_getR (pc := 138) K cl_8 hin_X8 (k := 6) (by decide) tb_524 rfl e18 dX8_settle_138 ?_
      refine g_iload (pc := 141) K 4 rfl dX8_settle_141 ?_
      refine g_dup2 (pc := 143) K rfl rfl dX8_settle_143 ?_
      replace h := Option.bind_eq_some_iff.mp h
      obtain ⟨a19, rfl, h⟩ := h
      replace h := Option.bind_eq_some_iff.mp h
      obtain ⟨x21, e20, h⟩ := h
      refine g_iald (pc := 144) K e20 dX8_settle_144 ?_
      refine g_iconst (pc := 145) (v := 1) K dX8_settle_145 (by decide) ?_
      refine g_iadd (pc := 146) K dX8_settle_146 ?_
      replace h := Option.bind_eq_some_iff.mp h
      obtain ⟨σ23, e22, h⟩ := h
      refine g_iast (pc := 147) K e22 dX8_settle_147 ?_
      refine g_iconst (pc := 148) (v := 0) K dX8_settle_148 (by decide) ?_
      cases h
      exact hT _ _ 149 _ (by omega) (by omega) rfl dX8_settle_149
def b_X8_settle_54 (v0 : Nat) (v1 : Int32) (v2 : Int32) (v3 : Int32) (v4 : Int32) (v6 : Int32) (t0 : Int32) (σ : sw_S) : Option (Int32 × sw_S) :=
  (if v6 = 0 then
  b_X8_settle_103 v0 v1 v2 v3 v4 v6 t0 σ
  else
  (sw_gR 8 v0 6 σ).bind fun r2 =>
  r2.bind fun a4 =>
  (sw_al 0 a4 ((v4 - 1)) σ).bind fun x6 =>
  (sw_gI 8 v0 1 σ).bind fun x7 =>
  (if x6 ≤ x7 then
  b_X8_settle_103 v0 v1 v2 v3 v4 v6 t0 σ
  else
  (sw_gR 8 v0 6 σ).bind fun r10 =>
  r10.bind fun a12 =>
  (sw_al 0 a12 ((v4 - 1)) σ).bind fun x14 =>
  (sw_as 0 a12 ((v4 - 1)) ((x14 - 1)) σ).bind fun σ16 =>
  (sw_gR 8 v0 6 σ16).bind fun r17 =>
  r17.bind fun a19 =>
  (sw_al 0 a19 v4 σ16).bind fun x21 =>
  (sw_as 0 a19 v4 ((x21 + 1)) σ16).bind fun σ23 =>
  some (0, σ23)))
set_option maxHeartbeats 4000000 in
set_option maxRecDepth 100000 in
theorem w_X8_settle_54 {p : Program} {l : Launch} {e : Env} {s : State} {m : MethodId} {args : Array Value} {below : List Frame} {meth : Method} {c : Code} {Q : State → Prop} {A : Nat → Prop} {D : va_G} {cT : Nat → ClassId} {r : Int32}  {σ' : sw_S}  (K : sw_C p s m args c cX8_settle 9 RX8 A D cT) (hT : sw_Tz cX8_settle p l e (sw_R 1 0 0 25) s m args below meth c Q 9 A D cT 0 0 σ' r) (v0 : Nat) (v1 : Int32) (v2 : Int32) (v3 : Int32) (v4 : Int32) (v6 : Int32) (t0 : Int32) (σ : sw_S)  (ce sl : Nat) (h : b_X8_settle_54 v0 v1 v2 v3 v4 v6 t0 σ = some (r, σ')) (hce : ce + (0) ≤ 0) (hsl : sl + (0) ≤ 0) : sw_G p l e (sw_R 1 0 0 25) s m args below meth c Q 9 A D cT σ ce sl 54 [(0, P_ (some v0)), (1, I_ v1), (2, I_ v2), (3, I_ v3), (4, I_ v4), (6, I_ v6)] [I_ t0] := by
  unfold b_X8_settle_54 at h
  refine g_istore (pc := 54) K [(7, I_ t0), (0, P_ (some v0)), (1, I_ v1), (2, I_ v2), (3, I_ v3), (4, I_ v4), (6, I_ v6)] (by decide) rfl dX8_settle_54 ?_
  refine g_iload (pc := 56) K 6 rfl dX8_settle_56 ?_
  refine g_if_eq (pc := 58) K 103 dX8_settle_58 (by decide) (fun c1 => ?_) (fun c1 => ?_)
  · replace h := (if_pos c1).symm.trans h
    refine g_sub K [1, 2, 3, 4, 5, 6, 0] rfl ?_
    exact w_X8_settle_103 K hT  _ _ _ _ _ _ _ _ _ _ h (by omega) (by omega)
  · replace h := (if_neg c1).symm.trans h
    refine g_aload_n (pc := 61) K 1 rfl rfl dX8_settle_61 ?_
    replace h := Option.bind_eq_some_iff.mp h
    obtain ⟨r2, e3, h⟩ := h
    refine g_getR (pc := 62) K cl_8 hin_X8 (k := 6) (by decide) tb_524 rfl e3 dX8_settle_62 ?_
    refine g_iload (pc := 65) K 5 rfl dX8_settle_65 ?_
    refine g_iconst (pc := 67) (v := 1) K dX8_settle_67 (by decide) ?_
    refine g_isub (pc := 68) K dX8_settle_68 ?_
    replace h := Option.bind_eq_some_iff.mp h
    obtain ⟨a4, rfl, h⟩ := h
    replace h := Option.bind_eq_some_iff.mp h
    obtain ⟨x6, e5, h⟩ := h
    refine g_iald (pc := 69) K e5 dX8_settle_69 ?_
    refine g_aload_n (pc := 70) K 1 rfl rfl dX8_settle_70 ?_
    replace h := Option.bind_eq_some_iff.mp h
    obtain ⟨x7, e8, h⟩ := h
    refine g_getI (pc := 71) K cl_8 hin_X8 (k := 1) (by decide) tb_519 rfl e8 dX8_settle_71 ?_
    refine g_icmp_le (pc := 74) K 103 dX8_settle_74 (by decide) (fun c9 => ?_) (fun c9 => ?_)
    · replace h := (if_pos c9).symm.trans h
      refine g_sub K [1, 2, 3, 4, 5, 6, 0] rfl ?_
      exact w_X8_settle_103 K hT  _ _ _ _ _ _ _ _ _ _ h (by omega) (by omega)
    · replace h := (if_neg c9).symm.trans h
      refine g_aload_n (pc := 77) K 1 rfl rfl dX8_settle_77 ?_
      replace h := Option.bind_eq_some_iff.mp h
      obtain ⟨r10, e11, h⟩ := h
      refine g_getR (pc := 78) K cl_8 hin_X8 (k := 6) (by decide) tb_524 rfl e11 dX8_settle_78 ?_
      refine g_iload (pc := 81) K 5 rfl dX8_settle_81 ?_
      refine g_iconst (pc := 83) (v := 1) K dX8_settle_83 (by decide) ?_
      refine g_isub (pc := 84) K dX8_settle_84 ?_
      refine g_dup2 (pc := 85) K rfl rfl dX8_settle_85 ?_
      replace h := Option.bind_eq_some_iff.mp h
      obtain ⟨a12, rfl, h⟩ := h
      replace h := Option.bind_eq_some_iff.mp h
      obtain ⟨x14, e13, h⟩ := h
      refine g_iald (pc := 86) K e13 dX8_settle_86 ?_
      refine g_iconst (pc := 87) (v := 1) K dX8_settle_87 (by decide) ?_
      refine g_isub (pc := 88) K dX8_settle_88 ?_
      replace h := Option.bind_eq_some_iff.mp h
      obtain ⟨σ16, e15, h⟩ := h
      refine g_iast (pc := 89) K e15 dX8_settle_89 ?_
      refine g_aload_n (pc := 90) K 1 rfl rfl dX8_settle_90 ?_
      replace h := Option.bind_eq_some_iff.mp h
      obtain ⟨r17, e18, h⟩ := h
      refine g_getR (pc := 91) K cl_8 hin_X8 (k := 6) (by decide) tb_524 rfl e18 dX8_settle_91 ?_
      refine g_iload (pc := 94) K 5 rfl dX8_settle_94 ?_
      refine g_dup2 (pc := 96) K rfl rfl dX8_settle_96 ?_
      replace h := Option.bind_eq_some_iff.mp h
      obtain ⟨a19, rfl, h⟩ := h
      replace h := Option.bind_eq_some_iff.mp h
      obtain ⟨x21, e20, h⟩ := h
      refine g_iald (pc := 97) K e20 dX8_settle_97 ?_
      refine g_iconst (pc := 98) (v := 1) K dX8_settle_98 (by decide) ?_
      refine g_iadd (pc := 99) K dX8_settle_99 ?_
      replace h := Option.bind_eq_some_iff.mp h
      obtain ⟨σ23, e22, h⟩ := h
      refine g_iast (pc := 100) K e22 dX8_settle_100 ?_
      refine g_iconst (pc := 101) (v := 0) K dX8_settle_101 (by decide) ?_
      cases h
      exact hT _ _ 102 _ (by omega) (by omega) rfl dX8_settle_102
def b_X8_settle_27 (v0 : Nat) (v1 : Int32) (v2 : Int32) (v3 : Int32) (v4 : Int32) (v5 : Int32) (t0 : Int32) (σ : sw_S) : Option (Int32 × sw_S) :=
  (sw_gR 8 v0 6 σ).bind fun r1 =>
  r1.bind fun a3 =>
  (sw_al 0 a3 ((((64 * ((v1 + 1)))) + v3)) σ).bind fun x5 =>
  (if ((x5 - 1)) ≤ v5 then
  b_X8_settle_54 v0 v1 v2 v3 v4 t0 0 σ
  else
  b_X8_settle_54 v0 v1 v2 v3 v4 t0 1 σ)
set_option maxHeartbeats 4000000 in
set_option maxRecDepth 100000 in
theorem w_X8_settle_27 {p : Program} {l : Launch} {e : Env} {s : State} {m : MethodId} {args : Array Value} {below : List Frame} {meth : Method} {c : Code} {Q : State → Prop} {A : Nat → Prop} {D : va_G} {cT : Nat → ClassId} {r : Int32}  {σ' : sw_S}  (K : sw_C p s m args c cX8_settle 9 RX8 A D cT) (hT : sw_Tz cX8_settle p l e (sw_R 1 0 0 25) s m args below meth c Q 9 A D cT 0 0 σ' r) (v0 : Nat) (v1 : Int32) (v2 : Int32) (v3 : Int32) (v4 : Int32) (v5 : Int32) (t0 : Int32) (σ : sw_S)  (ce sl : Nat) (h : b_X8_settle_27 v0 v1 v2 v3 v4 v5 t0 σ = some (r, σ')) (hce : ce + (0) ≤ 0) (hsl : sl + (0) ≤ 0) : sw_G p l e (sw_R 1 0 0 25) s m args below meth c Q 9 A D cT σ ce sl 27 [(0, P_ (some v0)), (1, I_ v1), (2, I_ v2), (3, I_ v3), (4, I_ v4), (5, I_ v5)] [I_ t0] := by
  unfold b_X8_settle_27 at h
  refine g_istore (pc := 27) K [(6, I_ t0), (0, P_ (some v0)), (1, I_ v1), (2, I_ v2), (3, I_ v3), (4, I_ v4), (5, I_ v5)] (by decide) rfl dX8_settle_27 ?_
  refine g_iload (pc := 29) K 6 rfl dX8_settle_29 ?_
  refine g_aload_n (pc := 31) K 1 rfl rfl dX8_settle_31 ?_
  replace h := Option.bind_eq_some_iff.mp h
  obtain ⟨r1, e2, h⟩ := h
  refine g_getR (pc := 32) K cl_8 hin_X8 (k := 6) (by decide) tb_524 rfl e2 dX8_settle_32 ?_
  refine g_bipush (pc := 35) (v := 64) K dX8_settle_35 (by decide) ?_
  refine g_iload_n (pc := 37) K 2 rfl rfl dX8_settle_37 ?_
  refine g_iconst (pc := 38) (v := 1) K dX8_settle_38 (by decide) ?_
  refine g_iadd (pc := 39) K dX8_settle_39 ?_
  refine g_imul (pc := 40) K dX8_settle_40 ?_
  refine g_iload_n (pc := 41) K 4 rfl rfl dX8_settle_41 ?_
  refine g_iadd (pc := 42) K dX8_settle_42 ?_
  replace h := Option.bind_eq_some_iff.mp h
  obtain ⟨a3, rfl, h⟩ := h
  replace h := Option.bind_eq_some_iff.mp h
  obtain ⟨x5, e4, h⟩ := h
  refine g_iald (pc := 43) K e4 dX8_settle_43 ?_
  refine g_iconst (pc := 44) (v := 1) K dX8_settle_44 (by decide) ?_
  refine g_isub (pc := 45) K dX8_settle_45 ?_
  refine g_icmp_ge (pc := 46) K 53 dX8_settle_46 (by decide) (fun c6 => ?_) (fun c6 => ?_)
  · replace h := (if_pos c6).symm.trans h
    refine g_iconst (pc := 53) (v := 0) K dX8_settle_53 (by decide) ?_
    refine g_sub K [1, 2, 3, 4, 5, 0] rfl ?_
    exact w_X8_settle_54 K hT  _ _ _ _ _ _ _ _ _ _ h (by omega) (by omega)
  · replace h := (if_neg c6).symm.trans h
    refine g_iconst (pc := 49) (v := 1) K dX8_settle_49 (by decide) ?_
    refine g_goto (pc := 50) (tgt := 54) K dX8_settle_50 (by decide) ?_
    refine g_sub K [1, 2, 3, 4, 5, 0] rfl ?_
    exact w_X8_settle_54 K hT  _ _ _ _ _ _ _ _ _ _ h (by omega) (by omega)
def f_X8_settle (p0 : Nat) (q1 : Int32) (q2 : Int32) (q3 : Int32) (σ : sw_S) : Option (Int32 × sw_S) :=
  (sw_ob 8 p0 σ).bind fun f1 =>
  (f_X8_placeIn p0 q1 q2 q3 σ).bind fun x4 =>
  (if x4 ≤ 0 then
  b_X8_settle_27 p0 q1 q2 q3 ((((64 * q1)) + q2)) x4 0 σ
  else
  b_X8_settle_27 p0 q1 q2 q3 ((((64 * q1)) + q2)) x4 1 σ)
set_option maxHeartbeats 4000000 in
set_option maxRecDepth 100000 in
theorem c_X8_settle  (l : Launch) (D : va_G) (cT : Nat → ClassId) (p0 : Nat) (q1 : Int32) (q2 : Int32) (q3 : Int32) (σ : sw_S) {r : Int32} {σ' : sw_S} (h : f_X8_settle p0 q1 q2 q3 σ = some (r, σ')) : sw_M l D cT yX8_settle cX8_settle 9 (some .boolean) 1 25 0 0 σ [P_ (some p0), I_ q1, I_ q2, I_ q3] (some (I_ r)) σ' := by
  refine sw_met_z (by decide) (Nat.le_of_ble_eq_true rfl) (fun p e s m args below meth c A Q K hnm hT => ?_)
  have hce : 0 + 0 ≤ 0 := Nat.le_of_ble_eq_true rfl
  have hsl : 0 + 0 ≤ 0 := Nat.le_of_ble_eq_true rfl
  unfold f_X8_settle at h
  change sw_G p l e (sw_R 1 0 0 25) s m args below meth c Q 9 A D cT σ 0 0 0 [(0, P_ (some p0)), (1, I_ q1), (2, I_ q2), (3, I_ q3)] []
  refine g_bipush (pc := 0) (v := 64) K dX8_settle_0 (by decide) ?_
  refine g_iload_n (pc := 2) K 1 rfl rfl dX8_settle_2 ?_
  refine g_imul (pc := 3) K dX8_settle_3 ?_
  refine g_iload_n (pc := 4) K 2 rfl rfl dX8_settle_4 ?_
  refine g_iadd (pc := 5) K dX8_settle_5 ?_
  refine g_istore (pc := 6) K [(4, I_ ((((64 * q1)) + q2))), (0, P_ (some p0)), (1, I_ q1), (2, I_ q2), (3, I_ q3)] (by decide) rfl dX8_settle_6 ?_
  refine g_aload_n (pc := 8) K 1 rfl rfl dX8_settle_8 ?_
  refine g_iload_n (pc := 9) K 2 rfl rfl dX8_settle_9 ?_
  refine g_iload_n (pc := 10) K 3 rfl rfl dX8_settle_10 ?_
  refine g_iload_n (pc := 11) K 4 rfl rfl dX8_settle_11 ?_
  replace h := Option.bind_eq_some_iff.mp h
  obtain ⟨f1, e2, h⟩ := h
  replace h := Option.bind_eq_some_iff.mp h
  obtain ⟨x4, e3, h⟩ := h
  refine g_callV (pc := 12) (st := []) K [I_ q1, I_ q2, I_ q3] (c_X8_placeIn _ _ _ _ _ _ _ _ e3) e2 cl_8 rfl tb_651 tb_648 tb_7 tb_650 sl_34 hd_X8_placeIn ⟨Nat.le_of_ble_eq_true rfl, Nat.le_of_ble_eq_true rfl⟩ rfl (sw_rm (Nat.le_of_ble_eq_true rfl)) ⟨by show _ ≤ 0; omega, by show _ ≤ 0; omega⟩ dX8_settle_12 ?_
  refine g_istore (pc := 15) K [(5, I_ x4), (4, I_ ((((64 * q1)) + q2))), (0, P_ (some p0)), (1, I_ q1), (2, I_ q2), (3, I_ q3)] (by decide) rfl dX8_settle_15 ?_
  refine g_iload (pc := 17) K 0 rfl dX8_settle_17 ?_
  refine g_if_le (pc := 19) K 26 dX8_settle_19 (by decide) (fun c5 => ?_) (fun c5 => ?_)
  · replace h := (if_pos c5).symm.trans h
    refine g_iconst (pc := 26) (v := 0) K dX8_settle_26 (by decide) ?_
    refine g_sub K [2, 3, 4, 5, 1, 0] rfl ?_
    exact w_X8_settle_27 K hT  _ _ _ _ _ _ _ _ _ _ h (by omega) (by omega)
  · replace h := (if_neg c5).symm.trans h
    refine g_iconst (pc := 22) (v := 1) K dX8_settle_22 (by decide) ?_
    refine g_goto (pc := 23) (tgt := 27) K dX8_settle_23 (by decide) ?_
    refine g_sub K [2, 3, 4, 5, 1, 0] rfl ?_
    exact w_X8_settle_27 K hT  _ _ _ _ _ _ _ _ _ _ h (by omega) (by omega)

def b_X8_remove_200 (v0 : Nat) (σ : sw_S) : Option (Int32 × sw_S) :=
  (sw_ob 8 v0 σ).bind fun f1 =>
  (f_X8_work v0 σ).bind fun σ4 =>
  some (1, σ4)
set_option maxHeartbeats 4000000 in
set_option maxRecDepth 100000 in
theorem w_X8_remove_200 {p : Program} {l : Launch} {e : Env} {s : State} {m : MethodId} {args : Array Value} {below : List Frame} {meth : Method} {c : Code} {Q : State → Prop} {A : Nat → Prop} {D : va_G} {cT : Nat → ClassId} {r : Int32}  {σ' : sw_S}  (K : sw_C p s m args c cX8_remove 7 RX8 A D cT) (hT : sw_Tz cX8_remove p l e (sw_R 3 0 0 72) s m args below meth c Q 7 A D cT 0 0 σ' r) (v0 : Nat) (σ : sw_S)  (ce sl : Nat) (h : b_X8_remove_200 v0 σ = some (r, σ')) (hce : ce + (0) ≤ 0) (hsl : sl + (0) ≤ 0) : sw_G p l e (sw_R 3 0 0 72) s m args below meth c Q 7 A D cT σ ce sl 200 [(0, P_ (some v0))] [] := by
  unfold b_X8_remove_200 at h
  refine g_aload_n (pc := 200) K 0 rfl rfl dX8_remove_200 ?_
  replace h := Option.bind_eq_some_iff.mp h
  obtain ⟨f1, e2, h⟩ := h
  replace h := Option.bind_eq_some_iff.mp h
  obtain ⟨σ4, e3, h⟩ := h
  refine g_callV (pc := 201) (st := []) K [] (c_X8_work _ _ _ _ _ e3) e2 cl_8 rfl tb_509 tb_506 tb_7 tb_508 sl_26 hd_X8_work ⟨Nat.le_of_ble_eq_true rfl, Nat.le_of_ble_eq_true rfl⟩ rfl (sw_rm (Nat.le_of_ble_eq_true rfl)) ⟨by show _ ≤ 0; omega, by show _ ≤ 0; omega⟩ dX8_remove_201 ?_
  refine g_iconst (pc := 204) (v := 1) K dX8_remove_204 (by decide) ?_
  cases h
  exact hT _ _ 205 _ (by omega) (by omega) rfl dX8_remove_205
def B_X8_remove_161 (rec161 : Nat → sw_S → Option (Int32 × sw_S)) (v0 : Nat) (σ : sw_S) : Option (Int32 × sw_S) :=
  (sw_gI 8 v0 5 σ).bind fun x1 =>
  (if x1 ≤ 1 then
  b_X8_remove_200 v0 σ
  else
  (sw_gR 8 v0 6 σ).bind fun r4 =>
  (sw_gI 8 v0 5 σ).bind fun x6 =>
  r4.bind fun a8 =>
  (sw_al 0 a8 ((64 * ((x6 - 1)))) σ).bind fun x10 =>
  (if x10 = 1 then
  (sw_gI 8 v0 5 σ).bind fun x12 =>
  (sw_pt 8 v0 5 (.int ((x12 - 1))) σ).bind fun σ14 =>
  rec161 v0 σ14
  else
  b_X8_remove_200 v0 σ))
set_option maxHeartbeats 4000000 in
set_option maxRecDepth 100000 in
theorem wB_X8_remove_161 {p : Program} {l : Launch} {e : Env} {s : State} {m : MethodId} {args : Array Value} {below : List Frame} {meth : Method} {c : Code} {Q : State → Prop} {A : Nat → Prop} {D : va_G} {cT : Nat → ClassId} {r : Int32}  {σ' : sw_S}  (K : sw_C p s m args c cX8_remove 7 RX8 A D cT) (hT : sw_Tz cX8_remove p l e (sw_R 3 0 0 72) s m args below meth c Q 7 A D cT 0 0 σ' r) {rec161 : Nat → sw_S → Option (Int32 × sw_S)} (hrec161 : ∀ (v0 : Nat) (σ : sw_S) (ce sl : Nat), rec161 v0 σ = some (r, σ') → ce + (0) ≤ 0 → sl + (0) ≤ 0 → sw_G p l e (sw_R 3 0 0 72) s m args below meth c Q 7 A D cT σ ce sl 161 [(0, P_ (some v0))] []) (v0 : Nat) (σ : sw_S)  (ce sl : Nat) (h : B_X8_remove_161 rec161 v0 σ = some (r, σ')) (hce : ce + (0) ≤ 0) (hsl : sl + (0) ≤ 0) : sw_G p l e (sw_R 3 0 0 72) s m args below meth c Q 7 A D cT σ ce sl 161 [(0, P_ (some v0))] [] := by
  unfold B_X8_remove_161 at h
  refine g_aload_n (pc := 161) K 0 rfl rfl dX8_remove_161 ?_
  replace h := Option.bind_eq_some_iff.mp h
  obtain ⟨x1, e2, h⟩ := h
  refine g_getI (pc := 162) K cl_8 hin_X8 (k := 5) (by decide) tb_523 rfl e2 dX8_remove_162 ?_
  refine g_iconst (pc := 165) (v := 1) K dX8_remove_165 (by decide) ?_
  refine g_icmp_le (pc := 166) K 200 dX8_remove_166 (by decide) (fun c3 => ?_) (fun c3 => ?_)
  · replace h := (if_pos c3).symm.trans h
    refine g_sub K [0] rfl ?_
    exact w_X8_remove_200 K hT  _ _ _ _ h (by omega) (by omega)
  · replace h := (if_neg c3).symm.trans h
    refine g_aload_n (pc := 169) K 0 rfl rfl dX8_remove_169 ?_
    replace h := Option.bind_eq_some_iff.mp h
    obtain ⟨r4, e5, h⟩ := h
    refine g_getR (pc := 170) K cl_8 hin_X8 (k := 6) (by decide) tb_524 rfl e5 dX8_remove_170 ?_
    refine g_bipush (pc := 173) (v := 64) K dX8_remove_173 (by decide) ?_
    refine g_aload_n (pc := 175) K 0 rfl rfl dX8_remove_175 ?_
    replace h := Option.bind_eq_some_iff.mp h
    obtain ⟨x6, e7, h⟩ := h
    refine g_getI (pc := 176) K cl_8 hin_X8 (k := 5) (by decide) tb_523 rfl e7 dX8_remove_176 ?_
    refine g_iconst (pc := 179) (v := 1) K dX8_remove_179 (by decide) ?_
    refine g_isub (pc := 180) K dX8_remove_180 ?_
    refine g_imul (pc := 181) K dX8_remove_181 ?_
    replace h := Option.bind_eq_some_iff.mp h
    obtain ⟨a8, rfl, h⟩ := h
    replace h := Option.bind_eq_some_iff.mp h
    obtain ⟨x10, e9, h⟩ := h
    refine g_iald (pc := 182) K e9 dX8_remove_182 ?_
    refine g_iconst (pc := 183) (v := 1) K dX8_remove_183 (by decide) ?_
    refine g_icmp_ne (pc := 184) K 200 dX8_remove_184 (by decide) (fun c11 => ?_) (fun c11 => ?_)
    · replace h := (if_pos c11).symm.trans h
      refine g_aload_n (pc := 187) K 0 rfl rfl dX8_remove_187 ?_
      refine g_dup (pc := 188) K rfl dX8_remove_188 ?_
      replace h := Option.bind_eq_some_iff.mp h
      obtain ⟨x12, e13, h⟩ := h
      refine g_getI (pc := 189) K cl_8 hin_X8 (k := 5) (by decide) tb_523 rfl e13 dX8_remove_189 ?_
      refine g_iconst (pc := 192) (v := 1) K dX8_remove_192 (by decide) ?_
      refine g_isub (pc := 193) K dX8_remove_193 ?_
      replace h := Option.bind_eq_some_iff.mp h
      obtain ⟨σ14, e15, h⟩ := h
      refine g_put (pc := 194) K cl_8 hin_X8 (k := 5) (by decide) tb_523 rfl tyX8 tyX8_ok nmX8 (Or.inl rfl) rfl rfl e15 dX8_remove_194 ?_
      refine g_goto (pc := 197) (tgt := 161) K dX8_remove_197 (by decide) ?_
      refine g_sub K [0] rfl ?_
      exact hrec161 _ _ _ _ h (by omega) (by omega)
    · replace h := (if_neg c11).symm.trans h
      refine g_sub K [0] rfl ?_
      exact w_X8_remove_200 K hT  _ _ _ _ h (by omega) (by omega)
def b_X8_remove_161  : Nat → Nat → sw_S → Option (Int32 × sw_S)
  | 0 => fun _ _ => none
  | n + 1 => B_X8_remove_161 (b_X8_remove_161  n)
theorem wl_X8_remove_161 {p : Program} {l : Launch} {e : Env} {s : State} {m : MethodId} {args : Array Value} {below : List Frame} {meth : Method} {c : Code} {Q : State → Prop} {A : Nat → Prop} {D : va_G} {cT : Nat → ClassId} {r : Int32}  {σ' : sw_S}  (K : sw_C p s m args c cX8_remove 7 RX8 A D cT) (hT : sw_Tz cX8_remove p l e (sw_R 3 0 0 72) s m args below meth c Q 7 A D cT 0 0 σ' r) : ∀ (n : Nat) (v0 : Nat) (σ : sw_S) (ce sl : Nat), b_X8_remove_161  n v0 σ = some (r, σ') → ce + (0) ≤ 0 → sl + (0) ≤ 0 → sw_G p l e (sw_R 3 0 0 72) s m args below meth c Q 7 A D cT σ ce sl 161 [(0, P_ (some v0))] [] := by
  intro n
  induction n with
  | zero =>
    intro v0 σ ce sl h
    exact absurd (show none = some (r, σ') from h) (by simp)
  | succ n ih =>
    intro v0 σ ce sl h hce hsl
    exact wB_X8_remove_161 K hT (fun _ _ _ _ h h1 h2 => ih _ _ _ _ h h1 h2) _ _ _ _ h hce hsl
def B_X8_remove_95 (rec95 : Nat → Int32 → Int32 → Int32 → sw_S → Option (Int32 × sw_S)) (v0 : Nat) (v3 : Int32) (v4 : Int32) (v5 : Int32) (σ : sw_S) : Option (Int32 × sw_S) :=
  (if v5 = 0 then
  b_X8_remove_161 1000 v0 σ
  else
  (sw_gI 8 v0 5 σ).bind fun x2 =>
  (if ((x2 - 1)) ≤ v4 then
  b_X8_remove_161 1000 v0 σ
  else
  (sw_gR 8 v0 6 σ).bind fun r5 =>
  r5.bind fun a7 =>
  (sw_al 0 a7 ((((64 * v4)) + v3)) σ).bind fun x9 =>
  (sw_gI 8 v0 1 σ).bind fun x10 =>
  (if x10 ≤ x9 then
  b_X8_remove_161 1000 v0 σ
  else
  (sw_ob 8 v0 σ).bind fun f13 =>
  (f_X8_holder v0 ((v4 + 1)) v3 σ).bind fun x16 =>
  (sw_ob 8 v0 σ).bind fun f17 =>
  sw_b2 (f_X8_settle v0 v4 v3 x16 σ) fun x20 σ21 =>
  rec95 v0 x16 ((v4 + 1)) x20 σ21)))
set_option maxHeartbeats 4000000 in
set_option maxRecDepth 100000 in
theorem wB_X8_remove_95 {p : Program} {l : Launch} {e : Env} {s : State} {m : MethodId} {args : Array Value} {below : List Frame} {meth : Method} {c : Code} {Q : State → Prop} {A : Nat → Prop} {D : va_G} {cT : Nat → ClassId} {r : Int32}  {σ' : sw_S}  (K : sw_C p s m args c cX8_remove 7 RX8 A D cT) (hT : sw_Tz cX8_remove p l e (sw_R 3 0 0 72) s m args below meth c Q 7 A D cT 0 0 σ' r) {rec95 : Nat → Int32 → Int32 → Int32 → sw_S → Option (Int32 × sw_S)} (hrec95 : ∀ (v0 : Nat) (v3 : Int32) (v4 : Int32) (v5 : Int32) (σ : sw_S) (ce sl : Nat), rec95 v0 v3 v4 v5 σ = some (r, σ') → ce + (0) ≤ 0 → sl + (0) ≤ 0 → sw_G p l e (sw_R 3 0 0 72) s m args below meth c Q 7 A D cT σ ce sl 95 [(0, P_ (some v0)), (3, I_ v3), (4, I_ v4), (5, I_ v5)] []) (v0 : Nat) (v3 : Int32) (v4 : Int32) (v5 : Int32) (σ : sw_S)  (ce sl : Nat) (h : B_X8_remove_95 rec95 v0 v3 v4 v5 σ = some (r, σ')) (hce : ce + (0) ≤ 0) (hsl : sl + (0) ≤ 0) : sw_G p l e (sw_R 3 0 0 72) s m args below meth c Q 7 A D cT σ ce sl 95 [(0, P_ (some v0)), (3, I_ v3), (4, I_ v4), (5, I_ v5)] [] := by
  unfold B_X8_remove_95 at h
  refine g_iload (pc := 95) K 3 rfl dX8_remove_95 ?_
  refine g_if_eq (pc := 97) K 161 dX8_remove_97 (by decide) (fun c1 => ?_) (fun c1 => ?_)
  · replace h := (if_pos c1).symm.trans h
    refine g_sub K [0] rfl ?_
    exact wl_X8_remove_161 K hT  1000 _ _ _ _ h (by omega) (by omega)
  · replace h := (if_neg c1).symm.trans h
    refine g_iload (pc := 100) K 2 rfl dX8_remove_100 ?_
    refine g_aload_n (pc := 102) K 0 rfl rfl dX8_remove_102 ?_
    replace h := Option.bind_eq_some_iff.mp h
    obtain ⟨x2, e3, h⟩ := h
    refine g_getI (pc := 103) K cl_8 hin_X8 (k := 5) (by decide) tb_523 rfl e3 dX8_remove_103 ?_
    refine g_iconst (pc := 106) (v := 1) K dX8_remove_106 (by decide) ?_
    refine g_isub (pc := 107) K dX8_remove_107 ?_
    refine g_icmp_ge (pc := 108) K 161 dX8_remove_108 (by decide) (fun c4 => ?_) (fun c4 => ?_)
    · replace h := (if_pos c4).symm.trans h
      refine g_sub K [0] rfl ?_
      exact wl_X8_remove_161 K hT  1000 _ _ _ _ h (by omega) (by omega)
    · replace h := (if_neg c4).symm.trans h
      refine g_aload_n (pc := 111) K 0 rfl rfl dX8_remove_111 ?_
      replace h := Option.bind_eq_some_iff.mp h
      obtain ⟨r5, e6, h⟩ := h
      refine g_getR (pc := 112) K cl_8 hin_X8 (k := 6) (by decide) tb_524 rfl e6 dX8_remove_112 ?_
      refine g_bipush (pc := 115) (v := 64) K dX8_remove_115 (by decide) ?_
      refine g_iload (pc := 117) K 2 rfl dX8_remove_117 ?_
      refine g_imul (pc := 119) K dX8_remove_119 ?_
      refine g_iload_n (pc := 120) K 1 rfl rfl dX8_remove_120 ?_
      refine g_iadd (pc := 121) K dX8_remove_121 ?_
      replace h := Option.bind_eq_some_iff.mp h
      obtain ⟨a7, rfl, h⟩ := h
      replace h := Option.bind_eq_some_iff.mp h
      obtain ⟨x9, e8, h⟩ := h
      refine g_iald (pc := 122) K e8 dX8_remove_122 ?_
      refine g_aload_n (pc := 123) K 0 rfl rfl dX8_remove_123 ?_
      replace h := Option.bind_eq_some_iff.mp h
      obtain ⟨x10, e11, h⟩ := h
      refine g_getI (pc := 124) K cl_8 hin_X8 (k := 1) (by decide) tb_519 rfl e11 dX8_remove_124 ?_
      refine g_icmp_ge (pc := 127) K 161 dX8_remove_127 (by decide) (fun c12 => ?_) (fun c12 => ?_)
      · replace h := (if_pos c12).symm.trans h
        refine g_sub K [0] rfl ?_
        exact wl_X8_remove_161 K hT  1000 _ _ _ _ h (by omega) (by omega)
      · replace h := (if_neg c12).symm.trans h
        refine g_aload_n (pc := 130) K 0 rfl rfl dX8_remove_130 ?_
        refine g_iload (pc := 131) K 2 rfl dX8_remove_131 ?_
        refine g_iconst (pc := 133) (v := 1) K dX8_remove_133 (by decide) ?_
        refine g_iadd (pc := 134) K dX8_remove_134 ?_
        refine g_iload_n (pc := 135) K 1 rfl rfl dX8_remove_135 ?_
        replace h := Option.bind_eq_some_iff.mp h
        obtain ⟨f13, e14, h⟩ := h
        replace h := Option.bind_eq_some_iff.mp h
        obtain ⟨x16, e15, h⟩ := h
        refine g_callV (pc := 136) (st := []) K [I_ ((v4 + 1)), I_ v3] (c_X8_holder _ _ _ _ _ _ _ e15) e14 cl_8 rfl tb_631 tb_628 tb_7 tb_630 sl_30 hd_X8_holder ⟨Nat.le_of_ble_eq_true rfl, Nat.le_of_ble_eq_true rfl⟩ rfl (sw_rm (Nat.le_of_ble_eq_true rfl)) ⟨by show _ ≤ 0; omega, by show _ ≤ 0; omega⟩ dX8_remove_136 ?_
        refine g_istore (pc := 139) K [(6, I_ x16), (0, P_ (some v0)), (3, I_ v3), (4, I_ v4), (5, I_ v5)] (by decide) rfl dX8_remove_139 ?_
        refine g_aload_n (pc := 141) K 1 rfl rfl dX8_remove_141 ?_
        refine g_iload (pc := 142) K 3 rfl dX8_remove_142 ?_
        refine g_iload_n (pc := 144) K 2 rfl rfl dX8_remove_144 ?_
        refine g_iload (pc := 145) K 0 rfl dX8_remove_145 ?_
        replace h := Option.bind_eq_some_iff.mp h
        obtain ⟨f17, e18, h⟩ := h
        replace h := sw_b2_eq h
        obtain ⟨x20, σ21, e19, h⟩ := h
        refine g_callV (pc := 147) (st := []) K [I_ v4, I_ v3, I_ x16] (c_X8_settle _ _ _ _ _ _ _ _ e19) e18 cl_8 rfl tb_647 tb_644 tb_7 tb_646 sl_33 hd_X8_settle ⟨Nat.le_of_ble_eq_true rfl, Nat.le_of_ble_eq_true rfl⟩ rfl (sw_rm (Nat.le_of_ble_eq_true rfl)) ⟨by show _ ≤ 0; omega, by show _ ≤ 0; omega⟩ dX8_remove_147 ?_
        refine g_istore (pc := 150) K [(5, I_ x20), (6, I_ x16), (0, P_ (some v0)), (3, I_ v3), (4, I_ v4)] (by decide) rfl dX8_remove_150 ?_
        refine g_iinc (pc := 152) K 4 (v4 + 1) [(4, I_ ((v4 + 1))), (5, I_ x20), (6, I_ x16), (0, P_ (some v0)), (3, I_ v3)] rfl rfl (by decide) rfl dX8_remove_152 ?_
        refine g_iload (pc := 155) K 2 rfl dX8_remove_155 ?_
        refine g_istore_n (pc := 157) K [(3, I_ x16), (4, I_ ((v4 + 1))), (5, I_ x20), (6, I_ x16), (0, P_ (some v0))] rfl (by decide) rfl dX8_remove_157 ?_
        refine g_goto (pc := 158) (tgt := 95) K dX8_remove_158 (by decide) ?_
        refine g_sub K [4, 0, 1, 2] rfl ?_
        exact hrec95 _ _ _ _ _ _ _ h (by omega) (by omega)
def b_X8_remove_95  : Nat → Nat → Int32 → Int32 → Int32 → sw_S → Option (Int32 × sw_S)
  | 0 => fun _ _ _ _ _ => none
  | n + 1 => B_X8_remove_95 (b_X8_remove_95  n)
theorem wl_X8_remove_95 {p : Program} {l : Launch} {e : Env} {s : State} {m : MethodId} {args : Array Value} {below : List Frame} {meth : Method} {c : Code} {Q : State → Prop} {A : Nat → Prop} {D : va_G} {cT : Nat → ClassId} {r : Int32}  {σ' : sw_S}  (K : sw_C p s m args c cX8_remove 7 RX8 A D cT) (hT : sw_Tz cX8_remove p l e (sw_R 3 0 0 72) s m args below meth c Q 7 A D cT 0 0 σ' r) : ∀ (n : Nat) (v0 : Nat) (v3 : Int32) (v4 : Int32) (v5 : Int32) (σ : sw_S) (ce sl : Nat), b_X8_remove_95  n v0 v3 v4 v5 σ = some (r, σ') → ce + (0) ≤ 0 → sl + (0) ≤ 0 → sw_G p l e (sw_R 3 0 0 72) s m args below meth c Q 7 A D cT σ ce sl 95 [(0, P_ (some v0)), (3, I_ v3), (4, I_ v4), (5, I_ v5)] [] := by
  intro n
  induction n with
  | zero =>
    intro v0 v3 v4 v5 σ ce sl h
    exact absurd (show none = some (r, σ') from h) (by simp)
  | succ n ih =>
    intro v0 v3 v4 v5 σ ce sl h hce hsl
    exact wB_X8_remove_95 K hT (fun _ _ _ _ _ _ _ h h1 h2 => ih _ _ _ _ _ _ _ h h1 h2) _ _ _ _ _ _ _ h hce hsl
def B_X8_remove_32 (rec32 : Nat → Int32 → Int32 → sw_S → Option (Int32 × sw_S)) (v0 : Nat) (v3 : Int32) (v4 : Int32) (σ : sw_S) : Option (Int32 × sw_S) :=
  (sw_gI 8 v0 2 σ).bind fun x1 =>
  (if x1 ≤ v4 then
  (sw_gR 8 v0 6 σ).bind fun r4 =>
  r4.bind fun a6 =>
  (sw_al 0 a6 v3 σ).bind fun x8 =>
  (sw_as 0 a6 v3 ((x8 - 1)) σ).bind fun σ10 =>
  b_X8_remove_95 1000 v0 v3 0 1 σ10
  else
  (sw_gR 8 v0 3 σ).bind fun r11 =>
  (sw_gR 8 v0 3 σ).bind fun r13 =>
  r13.bind fun a15 =>
  (sw_al 0 a15 ((v4 + 1)) σ).bind fun x17 =>
  r11.bind fun a18 =>
  (sw_as 0 a18 v4 x17 σ).bind fun σ20 =>
  (sw_gR 8 v0 4 σ20).bind fun r21 =>
  (sw_gR 8 v0 4 σ20).bind fun r23 =>
  r23.bind fun a25 =>
  (sw_al 0 a25 ((v4 + 1)) σ20).bind fun x27 =>
  r21.bind fun a28 =>
  (sw_as 0 a28 v4 x27 σ20).bind fun σ30 =>
  rec32 v0 v3 ((v4 + 1)) σ30)
set_option maxHeartbeats 4000000 in
set_option maxRecDepth 100000 in
theorem wB_X8_remove_32 {p : Program} {l : Launch} {e : Env} {s : State} {m : MethodId} {args : Array Value} {below : List Frame} {meth : Method} {c : Code} {Q : State → Prop} {A : Nat → Prop} {D : va_G} {cT : Nat → ClassId} {r : Int32}  {σ' : sw_S}  (K : sw_C p s m args c cX8_remove 7 RX8 A D cT) (hT : sw_Tz cX8_remove p l e (sw_R 3 0 0 72) s m args below meth c Q 7 A D cT 0 0 σ' r) {rec32 : Nat → Int32 → Int32 → sw_S → Option (Int32 × sw_S)} (hrec32 : ∀ (v0 : Nat) (v3 : Int32) (v4 : Int32) (σ : sw_S) (ce sl : Nat), rec32 v0 v3 v4 σ = some (r, σ') → ce + (0) ≤ 0 → sl + (0) ≤ 0 → sw_G p l e (sw_R 3 0 0 72) s m args below meth c Q 7 A D cT σ ce sl 32 [(0, P_ (some v0)), (3, I_ v3), (4, I_ v4)] []) (v0 : Nat) (v3 : Int32) (v4 : Int32) (σ : sw_S)  (ce sl : Nat) (h : B_X8_remove_32 rec32 v0 v3 v4 σ = some (r, σ')) (hce : ce + (0) ≤ 0) (hsl : sl + (0) ≤ 0) : sw_G p l e (sw_R 3 0 0 72) s m args below meth c Q 7 A D cT σ ce sl 32 [(0, P_ (some v0)), (3, I_ v3), (4, I_ v4)] [] := by
  unfold B_X8_remove_32 at h
  refine g_iload (pc := 32) K 2 rfl dX8_remove_32 ?_
  refine g_aload_n (pc := 34) K 0 rfl rfl dX8_remove_34 ?_
  replace h := Option.bind_eq_some_iff.mp h
  obtain ⟨x1, e2, h⟩ := h
  refine g_getI (pc := 35) K cl_8 hin_X8 (k := 2) (by decide) tb_520 rfl e2 dX8_remove_35 ?_
  refine g_icmp_ge (pc := 38) K 79 dX8_remove_38 (by decide) (fun c3 => ?_) (fun c3 => ?_)
  · replace h := (if_pos c3).symm.trans h
    refine g_aload_n (pc := 79) K 0 rfl rfl dX8_remove_79 ?_
    replace h := Option.bind_eq_some_iff.mp h
    obtain ⟨r4, e5, h⟩ := h
    refine g_getR (pc := 80) K cl_8 hin_X8 (k := 6) (by decide) tb_524 rfl e5 dX8_remove_80 ?_
    refine g_iload_n (pc := 83) K 1 rfl rfl dX8_remove_83 ?_
    refine g_dup2 (pc := 84) K rfl rfl dX8_remove_84 ?_
    replace h := Option.bind_eq_some_iff.mp h
    obtain ⟨a6, rfl, h⟩ := h
    replace h := Option.bind_eq_some_iff.mp h
    obtain ⟨x8, e7, h⟩ := h
    refine g_iald (pc := 85) K e7 dX8_remove_85 ?_
    refine g_iconst (pc := 86) (v := 1) K dX8_remove_86 (by decide) ?_
    refine g_isub (pc := 87) K dX8_remove_87 ?_
    replace h := Option.bind_eq_some_iff.mp h
    obtain ⟨σ10, e9, h⟩ := h
    refine g_iast (pc := 88) K e9 dX8_remove_88 ?_
    refine g_iconst (pc := 89) (v := 0) K dX8_remove_89 (by decide) ?_
    refine g_istore (pc := 90) K [(4, I_ 0), (0, P_ (some v0)), (3, I_ v3)] (by decide) rfl dX8_remove_90 ?_
    refine g_iconst (pc := 92) (v := 1) K dX8_remove_92 (by decide) ?_
    refine g_istore (pc := 93) K [(5, I_ 1), (4, I_ 0), (0, P_ (some v0)), (3, I_ v3)] (by decide) rfl dX8_remove_93 ?_
    refine g_sub K [2, 3, 1, 0] rfl ?_
    exact wl_X8_remove_95 K hT  1000 _ _ _ _ _ _ _ h (by omega) (by omega)
  · replace h := (if_neg c3).symm.trans h
    refine g_aload_n (pc := 41) K 0 rfl rfl dX8_remove_41 ?_
    replace h := Option.bind_eq_some_iff.mp h
    obtain ⟨r11, e12, h⟩ := h
    refine g_getR (pc := 42) K cl_8 hin_X8 (k := 3) (by decide) tb_521 rfl e12 dX8_remove_42 ?_
    refine g_iload (pc := 45) K 2 rfl dX8_remove_45 ?_
    refine g_aload_n (pc := 47) K 0 rfl rfl dX8_remove_47 ?_
    replace h := Option.bind_eq_some_iff.mp h
    obtain ⟨r13, e14, h⟩ := h
    refine g_getR (pc := 48) K cl_8 hin_X8 (k := 3) (by decide) tb_521 rfl e14 dX8_remove_48 ?_
    refine g_iload (pc := 51) K 2 rfl dX8_remove_51 ?_
    refine g_iconst (pc := 53) (v := 1) K dX8_remove_53 (by decide) ?_
    refine g_iadd (pc := 54) K dX8_remove_54 ?_
    replace h := Option.bind_eq_some_iff.mp h
    obtain ⟨a15, rfl, h⟩ := h
    replace h := Option.bind_eq_some_iff.mp h
    obtain ⟨x17, e16, h⟩ := h
    refine g_iald (pc := 55) K e16 dX8_remove_55 ?_
    replace h := Option.bind_eq_some_iff.mp h
    obtain ⟨a18, rfl, h⟩ := h
    replace h := Option.bind_eq_some_iff.mp h
    obtain ⟨σ20, e19, h⟩ := h
    refine g_iast (pc := 56) K e19 dX8_remove_56 ?_
    refine g_aload_n (pc := 57) K 0 rfl rfl dX8_remove_57 ?_
    replace h := Option.bind_eq_some_iff.mp h
    obtain ⟨r21, e22, h⟩ := h
    refine g_getR (pc := 58) K cl_8 hin_X8 (k := 4) (by decide) tb_522 rfl e22 dX8_remove_58 ?_
    refine g_iload (pc := 61) K 2 rfl dX8_remove_61 ?_
    refine g_aload_n (pc := 63) K 0 rfl rfl dX8_remove_63 ?_
    replace h := Option.bind_eq_some_iff.mp h
    obtain ⟨r23, e24, h⟩ := h
    refine g_getR (pc := 64) K cl_8 hin_X8 (k := 4) (by decide) tb_522 rfl e24 dX8_remove_64 ?_
    refine g_iload (pc := 67) K 2 rfl dX8_remove_67 ?_
    refine g_iconst (pc := 69) (v := 1) K dX8_remove_69 (by decide) ?_
    refine g_iadd (pc := 70) K dX8_remove_70 ?_
    replace h := Option.bind_eq_some_iff.mp h
    obtain ⟨a25, rfl, h⟩ := h
    replace h := Option.bind_eq_some_iff.mp h
    obtain ⟨x27, e26, h⟩ := h
    refine g_iald (pc := 71) K e26 dX8_remove_71 ?_
    replace h := Option.bind_eq_some_iff.mp h
    obtain ⟨a28, rfl, h⟩ := h
    replace h := Option.bind_eq_some_iff.mp h
    obtain ⟨σ30, e29, h⟩ := h
    refine g_iast (pc := 72) K e29 dX8_remove_72 ?_
    refine g_iinc (pc := 73) K 2 (v4 + 1) [(4, I_ ((v4 + 1))), (0, P_ (some v0)), (3, I_ v3)] rfl rfl (by decide) rfl dX8_remove_73 ?_
    refine g_goto (pc := 76) (tgt := 32) K dX8_remove_76 (by decide) ?_
    refine g_sub K [1, 2, 0] rfl ?_
    exact hrec32 _ _ _ _ _ _ h (by omega) (by omega)
def b_X8_remove_32  : Nat → Nat → Int32 → Int32 → sw_S → Option (Int32 × sw_S)
  | 0 => fun _ _ _ _ => none
  | n + 1 => B_X8_remove_32 (b_X8_remove_32  n)
theorem wl_X8_remove_32 {p : Program} {l : Launch} {e : Env} {s : State} {m : MethodId} {args : Array Value} {below : List Frame} {meth : Method} {c : Code} {Q : State → Prop} {A : Nat → Prop} {D : va_G} {cT : Nat → ClassId} {r : Int32}  {σ' : sw_S}  (K : sw_C p s m args c cX8_remove 7 RX8 A D cT) (hT : sw_Tz cX8_remove p l e (sw_R 3 0 0 72) s m args below meth c Q 7 A D cT 0 0 σ' r) : ∀ (n : Nat) (v0 : Nat) (v3 : Int32) (v4 : Int32) (σ : sw_S) (ce sl : Nat), b_X8_remove_32  n v0 v3 v4 σ = some (r, σ') → ce + (0) ≤ 0 → sl + (0) ≤ 0 → sw_G p l e (sw_R 3 0 0 72) s m args below meth c Q 7 A D cT σ ce sl 32 [(0, P_ (some v0)), (3, I_ v3), (4, I_ v4)] [] := by
  intro n
  induction n with
  | zero =>
    intro v0 v3 v4 σ ce sl h
    exact absurd (show none = some (r, σ') from h) (by simp)
  | succ n ih =>
    intro v0 v3 v4 σ ce sl h hce hsl
    exact wB_X8_remove_32 K hT (fun _ _ _ _ _ _ h h1 h2 => ih _ _ _ _ _ _ h h1 h2) _ _ _ _ _ _ h hce hsl
def f_X8_remove (p0 : Nat) (q1 : Int32) (σ : sw_S) : Option (Int32 × sw_S) :=
  (sw_ob 8 p0 σ).bind fun f1 =>
  (f_X8_find p0 q1 σ).bind fun x4 =>
  (if 0 ≤ x4 then
  (sw_ob 8 p0 σ).bind fun f6 =>
  (f_X8_holder p0 0 x4 σ).bind fun x9 =>
  (sw_gI 8 p0 2 σ).bind fun x10 =>
  (sw_pt 8 p0 2 (.int ((x10 - 1))) σ).bind fun σ12 =>
  b_X8_remove_32 1000 p0 x9 x4 σ12
  else
  some (0, σ))
set_option maxHeartbeats 4000000 in
set_option maxRecDepth 100000 in
theorem c_X8_remove  (l : Launch) (D : va_G) (cT : Nat → ClassId) (p0 : Nat) (q1 : Int32) (σ : sw_S) {r : Int32} {σ' : sw_S} (h : f_X8_remove p0 q1 σ = some (r, σ')) : sw_M l D cT yX8_remove cX8_remove 7 (some .boolean) 3 72 0 0 σ [P_ (some p0), I_ q1] (some (I_ r)) σ' := by
  refine sw_met_z (by decide) (Nat.le_of_ble_eq_true rfl) (fun p e s m args below meth c A Q K hnm hT => ?_)
  have hce : 0 + 0 ≤ 0 := Nat.le_of_ble_eq_true rfl
  have hsl : 0 + 0 ≤ 0 := Nat.le_of_ble_eq_true rfl
  unfold f_X8_remove at h
  change sw_G p l e (sw_R 3 0 0 72) s m args below meth c Q 7 A D cT σ 0 0 0 [(0, P_ (some p0)), (1, I_ q1)] []
  refine g_aload_n (pc := 0) K 0 rfl rfl dX8_remove_0 ?_
  refine g_iload_n (pc := 1) K 1 rfl rfl dX8_remove_1 ?_
  replace h := Option.bind_eq_some_iff.mp h
  obtain ⟨f1, e2, h⟩ := h
  replace h := Option.bind_eq_some_iff.mp h
  obtain ⟨x4, e3, h⟩ := h
  refine g_callV (pc := 2) (st := []) K [I_ q1] (c_X8_find _ _ _ _ _ _ e3) e2 cl_8 rfl tb_623 tb_620 tb_7 tb_622 sl_28 hd_X8_find ⟨Nat.le_of_ble_eq_true rfl, Nat.le_of_ble_eq_true rfl⟩ rfl (sw_rm (Nat.le_of_ble_eq_true rfl)) ⟨by show _ ≤ 0; omega, by show _ ≤ 0; omega⟩ dX8_remove_2 ?_
  refine g_istore_n (pc := 5) K [(2, I_ x4), (0, P_ (some p0)), (1, I_ q1)] rfl (by decide) rfl dX8_remove_5 ?_
  refine g_iload_n (pc := 6) K 0 rfl rfl dX8_remove_6 ?_
  refine g_if_ge (pc := 7) K 12 dX8_remove_7 (by decide) (fun c5 => ?_) (fun c5 => ?_)
  · replace h := (if_pos c5).symm.trans h
    refine g_aload_n (pc := 12) K 1 rfl rfl dX8_remove_12 ?_
    refine g_iconst (pc := 13) (v := 0) K dX8_remove_13 (by decide) ?_
    refine g_iload_n (pc := 14) K 0 rfl rfl dX8_remove_14 ?_
    replace h := Option.bind_eq_some_iff.mp h
    obtain ⟨f6, e7, h⟩ := h
    replace h := Option.bind_eq_some_iff.mp h
    obtain ⟨x9, e8, h⟩ := h
    refine g_callV (pc := 15) (st := []) K [I_ 0, I_ x4] (c_X8_holder _ _ _ _ _ _ _ e8) e7 cl_8 rfl tb_631 tb_628 tb_7 tb_630 sl_30 hd_X8_holder ⟨Nat.le_of_ble_eq_true rfl, Nat.le_of_ble_eq_true rfl⟩ rfl (sw_rm (Nat.le_of_ble_eq_true rfl)) ⟨by show _ ≤ 0; omega, by show _ ≤ 0; omega⟩ dX8_remove_15 ?_
    refine g_istore_n (pc := 18) K [(3, I_ x9), (2, I_ x4), (0, P_ (some p0)), (1, I_ q1)] rfl (by decide) rfl dX8_remove_18 ?_
    refine g_aload_n (pc := 19) K 2 rfl rfl dX8_remove_19 ?_
    refine g_dup (pc := 20) K rfl dX8_remove_20 ?_
    replace h := Option.bind_eq_some_iff.mp h
    obtain ⟨x10, e11, h⟩ := h
    refine g_getI (pc := 21) K cl_8 hin_X8 (k := 2) (by decide) tb_520 rfl e11 dX8_remove_21 ?_
    refine g_iconst (pc := 24) (v := 1) K dX8_remove_24 (by decide) ?_
    refine g_isub (pc := 25) K dX8_remove_25 ?_
    replace h := Option.bind_eq_some_iff.mp h
    obtain ⟨σ12, e13, h⟩ := h
    refine g_put (pc := 26) K cl_8 hin_X8 (k := 2) (by decide) tb_520 rfl tyX8 tyX8_ok nmX8 (Or.inl rfl) rfl rfl e13 dX8_remove_26 ?_
    refine g_iload_n (pc := 29) K 1 rfl rfl dX8_remove_29 ?_
    refine g_istore (pc := 30) K [(4, I_ x4), (3, I_ x9), (2, I_ x4), (0, P_ (some p0)), (1, I_ q1)] (by decide) rfl dX8_remove_30 ?_
    refine g_sub K [3, 1, 0] rfl ?_
    exact wl_X8_remove_32 K hT  1000 _ _ _ _ _ _ h (by omega) (by omega)
  · replace h := (if_neg c5).symm.trans h
    refine g_iconst (pc := 10) (v := 0) K dX8_remove_10 (by decide) ?_
    cases h
    exact hT _ _ 11 _ (by omega) (by omega) rfl dX8_remove_11
