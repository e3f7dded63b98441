def b_X6_refill_159 (σ : sw_S) : Option sw_S :=
  some σ
set_option maxHeartbeats 4000000 in
set_option maxRecDepth 100000 in
theorem w_X6_refill_159 {p : Program} {l : Launch} {e : Env} {s : State} {m : MethodId} {args : Array Value} {below : List Frame} {meth : Method} {c : Code} {Q : State → Prop} {A : Nat → Prop} {D : va_G} {cT : Nat → ClassId} {σ' : sw_S}  (K : sw_C p s m args c cX6_refill 6 RX6 A D cT) (hT : sw_Tv cX6_refill p l e (sw_R 3 0 0 69) s m args below meth c Q 6 A D cT 0 0 σ') (σ : sw_S)  (ce sl : Nat) (h : b_X6_refill_159  σ = some σ') (hce : ce + (0) ≤ 0) (hsl : sl + (0) ≤ 0) : sw_G p l e (sw_R 3 0 0 69) s m args below meth c Q 6 A D cT σ ce sl 159 [] [] := by
  unfold b_X6_refill_159 at h
  cases h
  exact hT _ _ 159 _ (by omega) (by omega) dX6_refill_159
def b_X6_refill_132 (v0 : Nat) (v1 : Nat) (v2 : Int32) (v4 : Option Nat) (v5 : Option Nat) (σ : sw_S) : Option sw_S :=
  (if v4 = none then
  (if v5 = none then
  b_X6_refill_159 σ
  else
  (sw_ob 6 v0 σ).bind fun f3 =>
  (f_X6_join v0 v1 v2 σ).bind fun σ6 =>
  b_X6_refill_159 σ6)
  else
  (sw_ob 6 v0 σ).bind fun f7 =>
  (f_X6_join v0 v1 ((v2 - 1)) σ).bind fun σ10 =>
  b_X6_refill_159 σ10)
set_option maxHeartbeats 4000000 in
set_option maxRecDepth 100000 in
theorem w_X6_refill_132 {p : Program} {l : Launch} {e : Env} {s : State} {m : MethodId} {args : Array Value} {below : List Frame} {meth : Method} {c : Code} {Q : State → Prop} {A : Nat → Prop} {D : va_G} {cT : Nat → ClassId} {σ' : sw_S}  (K : sw_C p s m args c cX6_refill 6 RX6 A D cT) (hT : sw_Tv cX6_refill p l e (sw_R 3 0 0 69) s m args below meth c Q 6 A D cT 0 0 σ') (v0 : Nat) (v1 : Nat) (v2 : Int32) (v4 : Option Nat) (v5 : Option Nat) (σ : sw_S)  (ce sl : Nat) (h : b_X6_refill_132 v0 v1 v2 v4 v5 σ = some σ') (hce : ce + (0) ≤ 0) (hsl : sl + (0) ≤ 0) : sw_G p l e (sw_R 3 0 0 69) s m args below meth c Q 6 A D cT σ ce sl 132 [(0, P_ (some v0)), (1, P_ (some v1)), (2, I_ v2), (4, P_ v4), (5, P_ v5)] [] := by
  unfold b_X6_refill_132 at h
  refine g_aload (pc := 132) K 3 rfl dX6_refill_132 ?_
  refine g_ifnull (pc := 134) K 148 dX6_refill_134 (by decide) (fun c1 => ?_) (fun c1 => ?_)
  · replace h := (if_pos c1).symm.trans h
    refine g_aload (pc := 148) K 4 rfl dX6_refill_148 ?_
    refine g_ifnull (pc := 150) K 159 dX6_refill_150 (by decide) (fun c2 => ?_) (fun c2 => ?_)
    · replace h := (if_pos c2).symm.trans h
      refine g_sub K [] rfl ?_
      exact w_X6_refill_159 K hT   _ _ _ h (by omega) (by omega)
    · replace h := (if_neg c2).symm.trans h
      refine g_aload_n (pc := 153) K 0 rfl rfl dX6_refill_153 ?_
      refine g_aload_n (pc := 154) K 1 rfl rfl dX6_refill_154 ?_
      refine g_iload_n (pc := 155) K 2 rfl rfl dX6_refill_155 ?_
      replace h := Option.bind_eq_some_iff.mp h
      obtain ⟨f3, e4, h⟩ := h
      replace h := Option.bind_eq_some_iff.mp h
      obtain ⟨σ6, e5, h⟩ := h
      refine g_callV (pc := 156) (st := []) K [P_ (some v1), I_ v2] (c_X6_join _ _ _ _ _ _ _ e5) e4 cl_6 rfl tb_277 tb_274 tb_2 tb_276 sl_6 hd_X6_join ⟨Nat.le_of_ble_eq_true rfl, Nat.le_of_ble_eq_true rfl⟩ rfl (sw_rm (Nat.le_of_ble_eq_true rfl)) ⟨by show _ ≤ 0; omega, by show _ ≤ 0; omega⟩ dX6_refill_156 ?_
      refine g_sub K [] rfl ?_
      exact w_X6_refill_159 K hT   _ _ _ h (by omega) (by omega)
  · replace h := (if_neg c1).symm.trans h
    refine g_aload_n (pc := 137) K 0 rfl rfl dX6_refill_137 ?_
    refine g_aload_n (pc := 138) K 1 rfl rfl dX6_refill_138 ?_
    refine g_iload_n (pc := 139) K 2 rfl rfl dX6_refill_139 ?_
    refine g_iconst (pc := 140) (v := 1) K dX6_refill_140 (by decide) ?_
    refine g_isub (pc := 141) K dX6_refill_141 ?_
    replace h := Option.bind_eq_some_iff.mp h
    obtain ⟨f7, e8, h⟩ := h
    replace h := Option.bind_eq_some_iff.mp h
    obtain ⟨σ10, e9, h⟩ := h
    refine g_callV (pc := 142) (st := []) K [P_ (some v1), I_ ((v2 - 1))] (c_X6_join _ _ _ _ _ _ _ e9) e8 cl_6 rfl tb_277 tb_274 tb_2 tb_276 sl_6 hd_X6_join ⟨Nat.le_of_ble_eq_true rfl, Nat.le_of_ble_eq_true rfl⟩ rfl (sw_rm (Nat.le_of_ble_eq_true rfl)) ⟨by show _ ≤ 0; omega, by show _ ≤ 0; omega⟩ dX6_refill_142 ?_
    refine g_goto (pc := 145) (tgt := 159) K dX6_refill_145 (by decide) ?_
    refine g_sub K [] rfl ?_
    exact w_X6_refill_159 K hT   _ _ _ h (by omega) (by omega)
def b_X6_refill_92 (v0 : Nat) (v1 : Nat) (v2 : Int32) (v3 : Option Nat) (v4 : Option Nat) (v5 : Option Nat) (σ : sw_S) : Option sw_S :=
  (if v5 = none then
  b_X6_refill_132 v0 v1 v2 v4 v5 σ
  else
  v5.bind fun a2 =>
  (sw_gI 1 a2 4 σ).bind fun x3 =>
  (sw_gI 6 v0 1 σ).bind fun x5 =>
  (if x3 ≤ x5 then
  b_X6_refill_132 v0 v1 v2 v4 (some a2) σ
  else
  v3.bind fun a8 =>
  (sw_gI 1 a8 4 σ).bind fun x9 =>
  (sw_ob 1 a2 σ).bind fun f11 =>
  (f_X1_moveSlot a2 0 a8 x9 σ).bind fun σ14 =>
  (sw_ob 1 a2 σ14).bind fun f15 =>
  (f_X1_renew a2 σ14).bind fun σ18 =>
  (sw_ob 1 a8 σ18).bind fun f19 =>
  (f_X1_renew a8 σ18).bind fun σ22 =>
  b_X6_refill_159 σ22))
set_option maxHeartbeats 4000000 in
set_option maxRecDepth 100000 in
theorem w_X6_refill_92 {p : Program} {l : Launch} {e : Env} {s : State} {m : MethodId} {args : Array Value} {below : List Frame} {meth : Method} {c : Code} {Q : State → Prop} {A : Nat → Prop} {D : va_G} {cT : Nat → ClassId} {σ' : sw_S}  (K : sw_C p s m args c cX6_refill 6 RX6 A D cT) (hT : sw_Tv cX6_refill p l e (sw_R 3 0 0 69) s m args below meth c Q 6 A D cT 0 0 σ') (v0 : Nat) (v1 : Nat) (v2 : Int32) (v3 : Option Nat) (v4 : Option Nat) (v5 : Option Nat) (σ : sw_S)  (ce sl : Nat) (h : b_X6_refill_92 v0 v1 v2 v3 v4 v5 σ = some σ') (hce : ce + (0) ≤ 0) (hsl : sl + (0) ≤ 0) : sw_G p l e (sw_R 3 0 0 69) s m args below meth c Q 6 A D cT σ ce sl 92 [(0, P_ (some v0)), (1, P_ (some v1)), (2, I_ v2), (3, P_ v3), (4, P_ v4), (5, P_ v5)] [] := by
  unfold b_X6_refill_92 at h
  refine g_aload (pc := 92) K 5 rfl dX6_refill_92 ?_
  refine g_ifnull (pc := 94) K 132 dX6_refill_94 (by decide) (fun c1 => ?_) (fun c1 => ?_)
  · replace h := (if_pos c1).symm.trans h
    refine g_sub K [0, 1, 2, 4, 5] rfl ?_
    exact w_X6_refill_132 K hT  _ _ _ _ _ _ _ _ h (by omega) (by omega)
  · replace h := (if_neg c1).symm.trans h
    refine g_aload (pc := 97) K 5 rfl dX6_refill_97 ?_
    replace h := Option.bind_eq_some_iff.mp h
    obtain ⟨a2, rfl, h⟩ := h
    replace h := Option.bind_eq_some_iff.mp h
    obtain ⟨x3, e4, h⟩ := h
    refine g_getI (pc := 99) K cl_1 hin_X1 (k := 4) (by decide) tb_46 rfl e4 dX6_refill_99 ?_
    refine g_aload_n (pc := 102) K 0 rfl rfl dX6_refill_102 ?_
    replace h := Option.bind_eq_some_iff.mp h
    obtain ⟨x5, e6, h⟩ := h
    refine g_getI (pc := 103) K cl_6 hin_X6 (k := 1) (by decide) tb_83 rfl e6 dX6_refill_103 ?_
    refine g_icmp_le (pc := 106) K 132 dX6_refill_106 (by decide) (fun c7 => ?_) (fun c7 => ?_)
    · replace h := (if_pos c7).symm.trans h
      refine g_sub K [0, 1, 2, 4, 5] rfl ?_
      exact w_X6_refill_132 K hT  _ _ _ _ _ _ _ _ h (by omega) (by omega)
    · replace h := (if_neg c7).symm.trans h
      refine g_aload (pc := 109) K 5 rfl dX6_refill_109 ?_
      refine g_iconst (pc := 111) (v := 0) K dX6_refill_111 (by decide) ?_
      refine g_aload_n (pc := 112) K 3 rfl rfl dX6_refill_112 ?_
      refine g_aload_n (pc := 113) K 3 rfl rfl dX6_refill_113 ?_
      replace h := Option.bind_eq_some_iff.mp h
      obtain ⟨a8, rfl, h⟩ := h
      replace h := Option.bind_eq_some_iff.mp h
      obtain ⟨x9, e10, h⟩ := h
      refine g_getI (pc := 114) K cl_1 hin_X1 (k := 4) (by decide) tb_46 rfl e10 dX6_refill_114 ?_
      replace h := Option.bind_eq_some_iff.mp h
      obtain ⟨f11, e12, h⟩ := h
      replace h := Option.bind_eq_some_iff.mp h
      obtain ⟨σ14, e13, h⟩ := h
      refine g_callV (pc := 117) (st := []) K [I_ 0, P_ (some a8), I_ x9] (c_X1_moveSlot _ _ _ _ _ _ _ _ e13) e12 cl_1 rfl tb_271 tb_268 tb_3 tb_269 tb_270 hd_X1_moveSlot ⟨Nat.le_of_ble_eq_true rfl, Nat.le_of_ble_eq_true rfl⟩ rfl (sw_rm (Nat.le_of_ble_eq_true rfl)) ⟨by show _ ≤ 0; omega, by show _ ≤ 0; omega⟩ dX6_refill_117 ?_
      refine g_aload (pc := 120) K 5 rfl dX6_refill_120 ?_
      replace h := Option.bind_eq_some_iff.mp h
      obtain ⟨f15, e16, h⟩ := h
      replace h := Option.bind_eq_some_iff.mp h
      obtain ⟨σ18, e17, h⟩ := h
      refine g_callV (pc := 122) (st := []) K [] (c_X1_renew _ _ _ _ _ e17) e16 cl_1 rfl tb_77 tb_74 tb_3 tb_75 tb_76 hd_X1_renew ⟨Nat.le_of_ble_eq_true rfl, Nat.le_of_ble_eq_true rfl⟩ rfl (sw_rm (Nat.le_of_ble_eq_true rfl)) ⟨by show _ ≤ 0; omega, by show _ ≤ 0; omega⟩ dX6_refill_122 ?_
      refine g_aload_n (pc := 125) K 3 rfl rfl dX6_refill_125 ?_
      replace h := Option.bind_eq_some_iff.mp h
      obtain ⟨f19, e20, h⟩ := h
      replace h := Option.bind_eq_some_iff.mp h
      obtain ⟨σ22, e21, h⟩ := h
      refine g_callV (pc := 126) (st := []) K [] (c_X1_renew _ _ _ _ _ e21) e20 cl_1 rfl tb_77 tb_74 tb_3 tb_75 tb_76 hd_X1_renew ⟨Nat.le_of_ble_eq_true rfl, Nat.le_of_ble_eq_true rfl⟩ rfl (sw_rm (Nat.le_of_ble_eq_true rfl)) ⟨by show _ ≤ 0; omega, by show _ ≤ 0; omega⟩ dX6_refill_126 ?_
      refine g_goto (pc := 129) (tgt := 159) K dX6_refill_129 (by decide) ?_
      refine g_sub K [] rfl ?_
      exact w_X6_refill_159 K hT   _ _ _ h (by omega) (by omega)
def b_X6_refill_47 (v0 : Nat) (v1 : Nat) (v2 : Int32) (v3 : Option Nat) (v4 : Option Nat) (t0 : Option Nat) (σ : sw_S) : Option sw_S :=
  (if v4 = none then
  b_X6_refill_92 v0 v1 v2 v3 v4 t0 σ
  else
  v4.bind fun a2 =>
  (sw_gI 1 a2 4 σ).bind fun x3 =>
  (sw_gI 6 v0 1 σ).bind fun x5 =>
  (if x3 ≤ x5 then
  b_X6_refill_92 v0 v1 v2 v3 (some a2) t0 σ
  else
  (sw_gI 1 a2 4 σ).bind fun x8 =>
  v3.bind fun a10 =>
  (sw_ob 1 a2 σ).bind fun f11 =>
  (f_X1_moveSlot a2 ((x8 - 1)) a10 0 σ).bind fun σ14 =>
  (sw_ob 1 a2 σ14).bind fun f15 =>
  (f_X1_renew a2 σ14).bind fun σ18 =>
  (sw_ob 1 a10 σ18).bind fun f19 =>
  (f_X1_renew a10 σ18).bind fun σ22 =>
  b_X6_refill_159 σ22))
set_option maxHeartbeats 4000000 in
set_option maxRecDepth 100000 in
theorem w_X6_refill_47 {p : Program} {l : Launch} {e : Env} {s : State} {m : MethodId} {args : Array Value} {below : List Frame} {meth : Method} {c : Code} {Q : State → Prop} {A : Nat → Prop} {D : va_G} {cT : Nat → ClassId} {σ' : sw_S}  (K : sw_C p s m args c cX6_refill 6 RX6 A D cT) (hT : sw_Tv cX6_refill p l e (sw_R 3 0 0 69) s m args below meth c Q 6 A D cT 0 0 σ') (v0 : Nat) (v1 : Nat) (v2 : Int32) (v3 : Option Nat) (v4 : Option Nat) (t0 : Option Nat) (σ : sw_S)  (ce sl : Nat) (h : b_X6_refill_47 v0 v1 v2 v3 v4 t0 σ = some σ') (hce : ce + (0) ≤ 0) (hsl : sl + (0) ≤ 0) : sw_G p l e (sw_R 3 0 0 69) s m args below meth c Q 6 A D cT σ ce sl 47 [(0, P_ (some v0)), (1, P_ (some v1)), (2, I_ v2), (3, P_ v3), (4, P_ v4)] [P_ t0] := by
  unfold b_X6_refill_47 at h
  refine g_astore (pc := 47) K [(5, P_ t0), (0, P_ (some v0)), (1, P_ (some v1)), (2, I_ v2), (3, P_ v3), (4, P_ v4)] (by decide) rfl dX6_refill_47 ?_
  refine g_aload (pc := 49) K 5 rfl dX6_refill_49 ?_
  refine g_ifnull (pc := 51) K 92 dX6_refill_51 (by decide) (fun c1 => ?_) (fun c1 => ?_)
  · replace h := (if_pos c1).symm.trans h
    refine g_sub K [1, 2, 3, 4, 5, 0] rfl ?_
    exact w_X6_refill_92 K hT  _ _ _ _ _ _ _ _ _ h (by omega) (by omega)
  · replace h := (if_neg c1).symm.trans h
    refine g_aload (pc := 54) K 5 rfl dX6_refill_54 ?_
    replace h := Option.bind_eq_some_iff.mp h
    obtain ⟨a2, rfl, h⟩ := h
    replace h := Option.bind_eq_some_iff.mp h
    obtain ⟨x3, e4, h⟩ := h
    refine g_getI (pc := 56) K cl_1 hin_X1 (k := 4) (by decide) tb_46 rfl e4 dX6_refill_56 ?_
    refine g_aload_n (pc := 59) K 1 rfl rfl dX6_refill_59 ?_
    replace h := Option.bind_eq_some_iff.mp h
    obtain ⟨x5, e6, h⟩ := h
    refine g_getI (pc := 60) K cl_6 hin_X6 (k := 1) (by decide) tb_83 rfl e6 dX6_refill_60 ?_
    refine g_icmp_le (pc := 63) K 92 dX6_refill_63 (by decide) (fun c7 => ?_) (fun c7 => ?_)
    · replace h := (if_pos c7).symm.trans h
      refine g_sub K [1, 2, 3, 4, 5, 0] rfl ?_
      exact w_X6_refill_92 K hT  _ _ _ _ _ _ _ _ _ h (by omega) (by omega)
    · replace h := (if_neg c7).symm.trans h
      refine g_aload (pc := 66) K 5 rfl dX6_refill_66 ?_
      refine g_aload (pc := 68) K 5 rfl dX6_refill_68 ?_
      replace h := Option.bind_eq_some_iff.mp h
      obtain ⟨x8, e9, h⟩ := h
      refine g_getI (pc := 70) K cl_1 hin_X1 (k := 4) (by decide) tb_46 rfl e9 dX6_refill_70 ?_
      refine g_iconst (pc := 73) (v := 1) K dX6_refill_73 (by decide) ?_
      refine g_isub (pc := 74) K dX6_refill_74 ?_
      refine g_aload_n (pc := 75) K 4 rfl rfl dX6_refill_75 ?_
      refine g_iconst (pc := 76) (v := 0) K dX6_refill_76 (by decide) ?_
      replace h := Option.bind_eq_some_iff.mp h
      obtain ⟨a10, rfl, h⟩ := h
      replace h := Option.bind_eq_some_iff.mp h
      obtain ⟨f11, e12, h⟩ := h
      replace h := Option.bind_eq_some_iff.mp h
      obtain ⟨σ14, e13, h⟩ := h
      refine g_callV (pc := 77) (st := []) K [I_ ((x8 - 1)), P_ (some a10), I_ 0] (c_X1_moveSlot _ _ _ _ _ _ _ _ e13) e12 cl_1 rfl tb_271 tb_268 tb_3 tb_269 tb_270 hd_X1_moveSlot ⟨Nat.le_of_ble_eq_true rfl, Nat.le_of_ble_eq_true rfl⟩ rfl (sw_rm (Nat.le_of_ble_eq_true rfl)) ⟨by show _ ≤ 0; omega, by show _ ≤ 0; omega⟩ dX6_refill_77 ?_
      refine g_aload (pc := 80) K 5 rfl dX6_refill_80 ?_
      replace h := Option.bind_eq_some_iff.mp h
      obtain ⟨f15, e16, h⟩ := h
      replace h := Option.bind_eq_some_iff.mp h
      obtain ⟨σ18, e17, h⟩ := h
      refine g_callV (pc := 82) (st := []) K [] (c_X1_renew _ _ _ _ _ e17) e16 cl_1 rfl tb_77 tb_74 tb_3 tb_75 tb_76 hd_X1_renew ⟨Nat.le_of_ble_eq_true rfl, Nat.le_of_ble_eq_true rfl⟩ rfl (sw_rm (Nat.le_of_ble_eq_true rfl)) ⟨by show _ ≤ 0; omega, by show _ ≤ 0; omega⟩ dX6_refill_82 ?_
      refine g_aload_n (pc := 85) K 4 rfl rfl dX6_refill_85 ?_
      replace h := Option.bind_eq_some_iff.mp h
      obtain ⟨f19, e20, h⟩ := h
      replace h := Option.bind_eq_some_iff.mp h
      obtain ⟨σ22, e21, h⟩ := h
      refine g_callV (pc := 86) (st := []) K [] (c_X1_renew _ _ _ _ _ e21) e20 cl_1 rfl tb_77 tb_74 tb_3 tb_75 tb_76 hd_X1_renew ⟨Nat.le_of_ble_eq_true rfl, Nat.le_of_ble_eq_true rfl⟩ rfl (sw_rm (Nat.le_of_ble_eq_true rfl)) ⟨by show _ ≤ 0; omega, by show _ ≤ 0; omega⟩ dX6_refill_86 ?_
      refine g_goto (pc := 89) (tgt := 159) K dX6_refill_89 (by decide) ?_
      refine g_sub K [] rfl ?_
      exact w_X6_refill_159 K hT   _ _ _ h (by omega) (by omega)
def b_X6_refill_23 (v0 : Nat) (v1 : Nat) (v2 : Int32) (v3 : Option Nat) (t0 : Option Nat) (σ : sw_S) : Option sw_S :=
  (sw_gI 1 v1 4 σ).bind fun x1 =>
  (if x1 ≤ ((v2 + 1)) then
  b_X6_refill_47 v0 v1 v2 v3 t0 none σ
  else
  (sw_gR 1 v1 3 σ).bind fun r4 =>
  r4.bind fun a6 =>
  (sw_ql a6 ((v2 + 1)) σ).bind fun r8 =>
  b_X6_refill_47 v0 v1 v2 v3 t0 r8 σ)
set_option maxHeartbeats 4000000 in
set_option maxRecDepth 100000 in
theorem w_X6_refill_23 {p : Program} {l : Launch} {e : Env} {s : State} {m : MethodId} {args : Array Value} {below : List Frame} {meth : Method} {c : Code} {Q : State → Prop} {A : Nat → Prop} {D : va_G} {cT : Nat → ClassId} {σ' : sw_S}  (K : sw_C p s m args c cX6_refill 6 RX6 A D cT) (hT : sw_Tv cX6_refill p l e (sw_R 3 0 0 69) s m args below meth c Q 6 A D cT 0 0 σ') (v0 : Nat) (v1 : Nat) (v2 : Int32) (v3 : Option Nat) (t0 : Option Nat) (σ : sw_S)  (ce sl : Nat) (h : b_X6_refill_23 v0 v1 v2 v3 t0 σ = some σ') (hce : ce + (0) ≤ 0) (hsl : sl + (0) ≤ 0) : sw_G p l e (sw_R 3 0 0 69) s m args below meth c Q 6 A D cT σ ce sl 23 [(0, P_ (some v0)), (1, P_ (some v1)), (2, I_ v2), (3, P_ v3)] [P_ t0] := by
  unfold b_X6_refill_23 at h
  refine g_astore (pc := 23) K [(4, P_ t0), (0, P_ (some v0)), (1, P_ (some v1)), (2, I_ v2), (3, P_ v3)] (by decide) rfl dX6_refill_23 ?_
  refine g_iload_n (pc := 25) K 3 rfl rfl dX6_refill_25 ?_
  refine g_iconst (pc := 26) (v := 1) K dX6_refill_26 (by decide) ?_
  refine g_iadd (pc := 27) K dX6_refill_27 ?_
  refine g_aload_n (pc := 28) K 2 rfl rfl dX6_refill_28 ?_
  replace h := Option.bind_eq_some_iff.mp h
  obtain ⟨x1, e2, h⟩ := h
  refine g_getI (pc := 29) K cl_1 hin_X1 (k := 4) (by decide) tb_46 rfl e2 dX6_refill_29 ?_
  refine g_icmp_ge (pc := 32) K 46 dX6_refill_32 (by decide) (fun c3 => ?_) (fun c3 => ?_)
  · replace h := (if_pos c3).symm.trans h
    refine g_null (pc := 46) K dX6_refill_46 ?_
    refine g_sub K [1, 2, 3, 4, 0] rfl ?_
    exact w_X6_refill_47 K hT  _ _ _ _ _ _ _ _ _ h (by omega) (by omega)
  · replace h := (if_neg c3).symm.trans h
    refine g_aload_n (pc := 35) K 2 rfl rfl dX6_refill_35 ?_
    replace h := Option.bind_eq_some_iff.mp h
    obtain ⟨r4, e5, h⟩ := h
    refine g_getR (pc := 36) K cl_1 hin_X1 (k := 3) (by decide) tb_43 rfl e5 dX6_refill_36 ?_
    refine g_iload_n (pc := 39) K 3 rfl rfl dX6_refill_39 ?_
    refine g_iconst (pc := 40) (v := 1) K dX6_refill_40 (by decide) ?_
    refine g_iadd (pc := 41) K dX6_refill_41 ?_
    replace h := Option.bind_eq_some_iff.mp h
    obtain ⟨a6, rfl, h⟩ := h
    replace h := Option.bind_eq_some_iff.mp h
    obtain ⟨r8, e7, h⟩ := h
    refine g_qald (pc := 42) K e7 dX6_refill_42 ?_
    refine g_goto (pc := 43) (tgt := 47) K dX6_refill_43 (by decide) ?_
    refine g_sub K [1, 2, 3, 4, 0] rfl ?_
    exact w_X6_refill_47 K hT  _ _ _ _ _ _ _ _ _ h (by omega) (by omega)
def f_X6_refill (p0 : Nat) (q1 : Nat) (q2 : Int32) (σ : sw_S) : Option sw_S :=
  (sw_gR 1 q1 3 σ).bind fun r1 =>
  r1.bind fun a3 =>
  (sw_ql a3 q2 σ).bind fun r5 =>
  (if q2 ≤ 0 then
  b_X6_refill_23 p0 q1 q2 r5 none σ
  else
  (sw_gR 1 q1 3 σ).bind fun r7 =>
  r7.bind fun a9 =>
  (sw_ql a9 ((q2 - 1)) σ).bind fun r11 =>
  b_X6_refill_23 p0 q1 q2 r5 r11 σ)
set_option maxHeartbeats 4000000 in
set_option maxRecDepth 100000 in
theorem c_X6_refill  (l : Launch) (D : va_G) (cT : Nat → ClassId) (p0 : Nat) (q1 : Nat) (q2 : Int32) (σ : sw_S) {σ' : sw_S} (h : f_X6_refill p0 q1 q2 σ = some σ') : sw_M l D cT yX6_refill cX6_refill 6 none 3 69 0 0 σ [P_ (some p0), P_ (some q1), I_ q2] none σ' := by
  refine sw_met_v (by decide) (Nat.le_of_ble_eq_true rfl) (fun p e s m args below meth c A Q K hnm hT => ?_)
  have hce : 0 + 0 ≤ 0 := Nat.le_of_ble_eq_true rfl
  have hsl : 0 + 0 ≤ 0 := Nat.le_of_ble_eq_true rfl
  unfold f_X6_refill at h
  change sw_G p l e (sw_R 3 0 0 69) s m args below meth c Q 6 A D cT σ 0 0 0 [(0, P_ (some p0)), (1, P_ (some q1)), (2, I_ q2)] []
  refine g_aload_n (pc := 0) K 1 rfl rfl dX6_refill_0 ?_
  replace h := Option.bind_eq_some_iff.mp h
  obtain ⟨r1, e2, h⟩ := h
  refine g_getR (pc := 1) K cl_1 hin_X1 (k := 3) (by decide) tb_43 rfl e2 dX6_refill_1 ?_
  refine g_iload_n (pc := 4) K 2 rfl rfl dX6_refill_4 ?_
  replace h := Option.bind_eq_some_iff.mp h
  obtain ⟨a3, rfl, h⟩ := h
  replace h := Option.bind_eq_some_iff.mp h
  obtain ⟨r5, e4, h⟩ := h
  refine g_qald (pc := 5) K e4 dX6_refill_5 ?_
  refine g_astore_n (pc := 6) K [(3, P_ r5), (0, P_ (some p0)), (1, P_ (some q1)), (2, I_ q2)] rfl (by decide) rfl dX6_refill_6 ?_
  refine g_iload_n (pc := 7) K 3 rfl rfl dX6_refill_7 ?_
  refine g_if_le (pc := 8) K 22 dX6_refill_8 (by decide) (fun c6 => ?_) (fun c6 => ?_)
  · replace h := (if_pos c6).symm.trans h
    refine g_null (pc := 22) K dX6_refill_22 ?_
    refine g_sub K [1, 2, 3, 0] rfl ?_
    exact w_X6_refill_23 K hT  _ _ _ _ _ _ _ _ h (by omega) (by omega)
  · replace h := (if_neg c6).symm.trans h
    refine g_aload_n (pc := 11) K 2 rfl rfl dX6_refill_11 ?_
    replace h := Option.bind_eq_some_iff.mp h
    obtain ⟨r7, e8, h⟩ := h
    refine g_getR (pc := 12) K cl_1 hin_X1 (k := 3) (by decide) tb_43 rfl e8 dX6_refill_12 ?_
    refine g_iload_n (pc := 15) K 3 rfl rfl dX6_refill_15 ?_
    refine g_iconst (pc := 16) (v := 1) K dX6_refill_16 (by decide) ?_
    refine g_isub (pc := 17) K dX6_refill_17 ?_
    replace h := Option.bind_eq_some_iff.mp h
    obtain ⟨a9, rfl, h⟩ := h
    replace h := Option.bind_eq_some_iff.mp h
    obtain ⟨r11, e10, h⟩ := h
    refine g_qald (pc := 18) K e10 dX6_refill_18 ?_
    refine g_goto (pc := 19) (tgt := 23) K dX6_refill_19 (by decide) ?_
    refine g_sub K [1, 2, 3, 0] rfl ?_
    exact w_X6_refill_23 K hT  _ _ _ _ _ _ _ _ h (by omega) (by omega)

def b_X6_refillUpwards_113 (σ : sw_S) : Option sw_S :=
  some σ
set_option maxHeartbeats 4000000 in
set_option maxRecDepth 100000 in
theorem w_X6_refillUpwards_113 {p : Program} {l : Launch} {e : Env} {s : State} {m : MethodId} {args : Array Value} {below : List Frame} {meth : Method} {c : Code} {Q : State → Prop} {A : Nat → Prop} {D : va_G} {cT : Nat → ClassId} {σ' : sw_S}  (K : sw_C p s m args c cX6_refillUpwards 2 RX6 A D cT) (hT : sw_Tv cX6_refillUpwards p l e (sw_R 4 0 0 94) s m args below meth c Q 2 A D cT 0 0 σ') (σ : sw_S)  (ce sl : Nat) (h : b_X6_refillUpwards_113  σ = some σ') (hce : ce + (0) ≤ 0) (hsl : sl + (0) ≤ 0) : sw_G p l e (sw_R 4 0 0 94) s m args below meth c Q 2 A D cT σ ce sl 113 [] [] := by
  unfold b_X6_refillUpwards_113 at h
  cases h
  exact hT _ _ 113 _ (by omega) (by omega) dX6_refillUpwards_113
def b_X6_refillUpwards_56 (rec7 : Nat → Int32 → sw_S → Option sw_S) (v0 : Nat) (v1 : Int32) (σ : sw_S) : Option sw_S :=
  rec7 v0 ((v1 + (-1))) σ
set_option maxHeartbeats 4000000 in
set_option maxRecDepth 100000 in
theorem w_X6_refillUpwards_56 {p : Program} {l : Launch} {e : Env} {s : State} {m : MethodId} {args : Array Value} {below : List Frame} {meth : Method} {c : Code} {Q : State → Prop} {A : Nat → Prop} {D : va_G} {cT : Nat → ClassId} {σ' : sw_S}  (K : sw_C p s m args c cX6_refillUpwards 2 RX6 A D cT) (hT : sw_Tv cX6_refillUpwards p l e (sw_R 4 0 0 94) s m args below meth c Q 2 A D cT 0 0 σ') {rec7 : Nat → Int32 → sw_S → Option sw_S} (hrec7 : ∀ (v0 : Nat) (v1 : Int32) (σ : sw_S) (ce sl : Nat), rec7 v0 v1 σ = some σ' → ce + (0) ≤ 0 → sl + (0) ≤ 0 → sw_G p l e (sw_R 4 0 0 94) s m args below meth c Q 2 A D cT σ ce sl 7 [(0, P_ (some v0)), (1, I_ v1)] []) (v0 : Nat) (v1 : Int32) (σ : sw_S)  (ce sl : Nat) (h : b_X6_refillUpwards_56 rec7 v0 v1 σ = some σ') (hce : ce + (0) ≤ 0) (hsl : sl + (0) ≤ 0) : sw_G p l e (sw_R 4 0 0 94) s m args below meth c Q 2 A D cT σ ce sl 56 [(0, P_ (some v0)), (1, I_ v1)] [] := by
  unfold b_X6_refillUpwards_56 at h
  refine g_iinc (pc := 56) K 1 (v1 + (-1)) [(1, I_ ((v1 + (-1)))), (0, P_ (some v0))] rfl (congrArg (fun z => v1 + z) (by decide : Int32.ofInt (-1) = (-1))) (by decide) rfl dX6_refillUpwards_56 ?_
  refine g_goto (pc := 59) (tgt := 7) K dX6_refillUpwards_59 (by decide) ?_
  refine g_sub K [1, 0] rfl ?_
  exact hrec7 _ _ _ _ _ h (by omega) (by omega)
def B_X6_refillUpwards_7 (rec7 : Nat → Int32 → sw_S → Option sw_S) (v0 : Nat) (v1 : Int32) (σ : sw_S) : Option sw_S :=
  (if v1 ≤ 0 then
  (sw_gR 6 v0 4 σ).bind fun r2 =>
  r2.bind fun a4 =>
  (sw_ob 1 a4 σ).bind fun f5 =>
  (f_X1_renew a4 σ).bind fun σ8 =>
  (sw_gR 6 v0 4 σ8).bind fun r9 =>
  r9.bind fun a11 =>
  (sw_gI 1 a11 0 σ8).bind fun x12 =>
  (if x12 = 0 then
  (sw_gR 6 v0 4 σ8).bind fun r15 =>
  r15.bind fun a17 =>
  (sw_gI 1 a17 4 σ8).bind fun x18 =>
  (if x18 = 1 then
  (sw_gR 6 v0 4 σ8).bind fun r21 =>
  r21.bind fun a23 =>
  (sw_gR 1 a23 3 σ8).bind fun r24 =>
  r24.bind fun a26 =>
  (sw_ql a26 0 σ8).bind fun r28 =>
  (sw_pt 6 v0 4 (va_rf r28) σ8).bind fun σ29 =>
  (sw_gI 6 v0 5 σ29).bind fun x31 =>
  (sw_pt 6 v0 5 (.int ((x31 - 1))) σ29).bind fun σ33 =>
  b_X6_refillUpwards_113 σ33
  else
  b_X6_refillUpwards_113 σ8)
  else
  b_X6_refillUpwards_113 σ8)
  else
  (sw_gR 6 v0 2 σ).bind fun r35 =>
  r35.bind fun a37 =>
  (sw_ql a37 v1 σ).bind fun r39 =>
  r39.bind fun a40 =>
  (sw_ob 1 a40 σ).bind fun f41 =>
  (f_X1_renew a40 σ).bind fun σ44 =>
  (sw_gR 6 v0 2 σ44).bind fun r45 =>
  r45.bind fun a47 =>
  (sw_ql a47 v1 σ44).bind fun r49 =>
  r49.bind fun a50 =>
  (sw_gI 1 a50 4 σ44).bind fun x51 =>
  (sw_gI 6 v0 1 σ44).bind fun x53 =>
  (if x53 ≤ x51 then
  b_X6_refillUpwards_56 rec7 v0 v1 σ44
  else
  (sw_gR 6 v0 2 σ44).bind fun r56 =>
  r56.bind fun a58 =>
  (sw_ql a58 ((v1 - 1)) σ44).bind fun r60 =>
  (sw_gR 6 v0 3 σ44).bind fun r61 =>
  r61.bind fun a63 =>
  (sw_al 0 a63 ((v1 - 1)) σ44).bind fun x65 =>
  r60.bind fun a66 =>
  (sw_ob 6 v0 σ44).bind fun f67 =>
  (f_X6_refill v0 a66 x65 σ44).bind fun σ70 =>
  b_X6_refillUpwards_56 rec7 v0 v1 σ70))
set_option maxHeartbeats 4000000 in
set_option maxRecDepth 100000 in
theorem wB_X6_refillUpwards_7 {p : Program} {l : Launch} {e : Env} {s : State} {m : MethodId} {args : Array Value} {below : List Frame} {meth : Method} {c : Code} {Q : State → Prop} {A : Nat → Prop} {D : va_G} {cT : Nat → ClassId} {σ' : sw_S}  (K : sw_C p s m args c cX6_refillUpwards 2 RX6 A D cT) (hT : sw_Tv cX6_refillUpwards p l e (sw_R 4 0 0 94) s m args below meth c Q 2 A D cT 0 0 σ') {rec7 : Nat → Int32 → sw_S → Option sw_S} (hrec7 : ∀ (v0 : Nat) (v1 : Int32) (σ : sw_S) (ce sl : Nat), rec7 v0 v1 σ = some σ' → ce + (0) ≤ 0 → sl + (0) ≤ 0 → sw_G p l e (sw_R 4 0 0 94) s m args below meth c Q 2 A D cT σ ce sl 7 [(0, P_ (some v0)), (1, I_ v1)] []) (v0 : Nat) (v1 : Int32) (σ : sw_S)  (ce sl : Nat) (h : B_X6_refillUpwards_7 rec7 v0 v1 σ = some σ') (hce : ce + (0) ≤ 0) (hsl : sl + (0) ≤ 0) : sw_G p l e (sw_R 4 0 0 94) s m args below meth c Q 2 A D cT σ ce sl 7 [(0, P_ (some v0)), (1, I_ v1)] [] := by
  unfold B_X6_refillUpwards_7 at h
  refine g_iload_n (pc := 7) K 1 rfl rfl dX6_refillUpwards_7 ?_
  refine g_if_le (pc := 8) K 62 dX6_refillUpwards_8 (by decide) (fun c1 => ?_) (fun c1 => ?_)
  · replace h := (if_pos c1).symm.trans h
    refine g_aload_n (pc := 62) K 0 rfl rfl dX6_refillUpwards_62 ?_
    replace h := Option.bind_eq_some_iff.mp h
    obtain ⟨r2, e3, h⟩ := h
    refine g_getR (pc := 63) K cl_6 hin_X6 (k := 4) (by decide) tb_86 rfl e3 dX6_refillUpwards_63 ?_
    replace h := Option.bind_eq_some_iff.mp h
    obtain ⟨a4, rfl, h⟩ := h
    replace h := Option.bind_eq_some_iff.mp h
    obtain ⟨f5, e6, h⟩ := h
    replace h := Option.bind_eq_some_iff.mp h
    obtain ⟨σ8, e7, h⟩ := h
    refine g_callV (pc := 66) (st := []) K [] (c_X1_renew _ _ _ _ _ e7) e6 cl_1 rfl tb_77 tb_74 tb_3 tb_75 tb_76 hd_X1_renew ⟨Nat.le_of_ble_eq_true rfl, Nat.le_of_ble_eq_true rfl⟩ rfl (sw_rm (Nat.le_of_ble_eq_true rfl)) ⟨by show _ ≤ 0; omega, by show _ ≤ 0; omega⟩ dX6_refillUpwards_66 ?_
    refine g_aload_n (pc := 69) K 0 rfl rfl dX6_refillUpwards_69 ?_
    replace h := Option.bind_eq_some_iff.mp h
    obtain ⟨r9, e10, h⟩ := h
    refine g_getR (pc := 70) K cl_6 hin_X6 (k := 4) (by decide) tb_86 rfl e10 dX6_refillUpwards_70 ?_
    replace h := Option.bind_eq_some_iff.mp h
    obtain ⟨a11, rfl, h⟩ := h
    replace h := Option.bind_eq_some_iff.mp h
    obtain ⟨x12, e13, h⟩ := h
    refine g_getI (pc := 73) K cl_1 hin_X1 (k := 0) (by decide) tb_34 rfl e13 dX6_refillUpwards_73 ?_
    refine g_if_ne (pc := 76) K 113 dX6_refillUpwards_76 (by decide) (fun c14 => ?_) (fun c14 => ?_)
    · replace h := (if_pos c14).symm.trans h
      refine g_aload_n (pc := 79) K 0 rfl rfl dX6_refillUpwards_79 ?_
      replace h := Option.bind_eq_some_iff.mp h
      obtain ⟨r15, e16, h⟩ := h
      refine g_getR (pc := 80) K cl_6 hin_X6 (k := 4) (by decide) tb_86 rfl e16 dX6_refillUpwards_80 ?_
      replace h := Option.bind_eq_some_iff.mp h
      obtain ⟨a17, rfl, h⟩ := h
      replace h := Option.bind_eq_some_iff.mp h
      obtain ⟨x18, e19, h⟩ := h
      refine g_getI (pc := 83) K cl_1 hin_X1 (k := 4) (by decide) tb_46 rfl e19 dX6_refillUpwards_83 ?_
      refine g_iconst (pc := 86) (v := 1) K dX6_refillUpwards_86 (by decide) ?_
      refine g_icmp_ne (pc := 87) K 113 dX6_refillUpwards_87 (by decide) (fun c20 => ?_) (fun c20 => ?_)
      · replace h := (if_pos c20).symm.trans h
        refine g_aload_n (pc := 90) K 0 rfl rfl dX6_refillUpwards_90 ?_
        refine g_aload_n (pc := 91) K 0 rfl rfl dX6_refillUpwards_91 ?_
        replace h := Option.bind_eq_some_iff.mp h
        obtain ⟨r21, e22, h⟩ := h
        refine g_getR (pc := 92) K cl_6 hin_X6 (k := 4) (by decide) tb_86 rfl e22 dX6_refillUpwards_92 ?_
        replace h := Option.bind_eq_some_iff.mp h
        obtain ⟨a23, rfl, h⟩ := h
        replace h := Option.bind_eq_some_iff.mp h
        obtain ⟨r24, e25, h⟩ := h
        refine g_getR (pc := 95) K cl_1 hin_X1 (k := 3) (by decide) tb_43 rfl e25 dX6_refillUpwards_95 ?_
        refine g_iconst (pc := 98) (v := 0) K dX6_refillUpwards_98 (by decide) ?_
        replace h := Option.bind_eq_some_iff.mp h
        obtain ⟨a26, rfl, h⟩ := h
        replace h := Option.bind_eq_some_iff.mp h
        obtain ⟨r28, e27, h⟩ := h
        refine g_qald (pc := 99) K e27 dX6_refillUpwards_99 ?_
        replace h := Option.bind_eq_some_iff.mp h
        obtain ⟨σ29, e30, h⟩ := h
        refine g_put (pc := 100) K cl_6 hin_X6 (k := 4) (by decide) tb_86 rfl tyX6 tyX6_ok nmX6 (Or.inl rfl) (sw_nr (tyX6 4) rfl _) (sw_fr (tyX6 4) rfl _) e30 dX6_refillUpwards_100 ?_
        refine g_aload_n (pc := 103) K 0 rfl rfl dX6_refillUpwards_103 ?_
        refine g_dup (pc := 104) K rfl dX6_refillUpwards_104 ?_
        replace h := Option.bind_eq_some_iff.mp h
        obtain ⟨x31, e32, h⟩ := h
        refine g_getI (pc := 105) K cl_6 hin_X6 (k := 5) (by decide) tb_88 rfl e32 dX6_refillUpwards_105 ?_
        refine g_iconst (pc := 108) (v := 1) K dX6_refillUpwards_108 (by decide) ?_
        refine g_isub (pc := 109) K dX6_refillUpwards_109 ?_
        replace h := Option.bind_eq_some_iff.mp h
        obtain ⟨σ33, e34, h⟩ := h
        refine g_put (pc := 110) K cl_6 hin_X6 (k := 5) (by decide) tb_88 rfl tyX6 tyX6_ok nmX6 (Or.inl rfl) rfl rfl e34 dX6_refillUpwards_110 ?_
        refine g_sub K [] rfl ?_
        exact w_X6_refillUpwards_113 K hT   _ _ _ h (by omega) (by omega)
      · replace h := (if_neg c20).symm.trans h
        refine g_sub K [] rfl ?_
        exact w_X6_refillUpwards_113 K hT   _ _ _ h (by omega) (by omega)
    · replace h := (if_neg c14).symm.trans h
      refine g_sub K [] rfl ?_
      exact w_X6_refillUpwards_113 K hT   _ _ _ h (by omega) (by omega)
  · replace h := (if_neg c1).symm.trans h
    refine g_aload_n (pc := 11) K 0 rfl rfl dX6_refillUpwards_11 ?_
    replace h := Option.bind_eq_some_iff.mp h
    obtain ⟨r35, e36, h⟩ := h
    refine g_getR (pc := 12) K cl_6 hin_X6 (k := 2) (by decide) tb_84 rfl e36 dX6_refillUpwards_12 ?_
    refine g_iload_n (pc := 15) K 1 rfl rfl dX6_refillUpwards_15 ?_
    replace h := Option.bind_eq_some_iff.mp h
    obtain ⟨a37, rfl, h⟩ := h
    replace h := Option.bind_eq_some_iff.mp h
    obtain ⟨r39, e38, h⟩ := h
    refine g_qald (pc := 16) K e38 dX6_refillUpwards_16 ?_
    replace h := Option.bind_eq_some_iff.mp h
    obtain ⟨a40, rfl, h⟩ := h
    replace h := Option.bind_eq_some_iff.mp h
    obtain ⟨f41, e42, h⟩ := h
    replace h := Option.bind_eq_some_iff.mp h
    obtain ⟨σ44, e43, h⟩ := h
    refine g_callV (pc := 17) (st := []) K [] (c_X1_renew _ _ _ _ _ e43) e42 cl_1 rfl tb_77 tb_74 tb_3 tb_75 tb_76 hd_X1_renew ⟨Nat.le_of_ble_eq_true rfl, Nat.le_of_ble_eq_true rfl⟩ rfl (sw_rm (Nat.le_of_ble_eq_true rfl)) ⟨by show _ ≤ 0; omega, by show _ ≤ 0; omega⟩ dX6_refillUpwards_17 ?_
    refine g_aload_n (pc := 20) K 0 rfl rfl dX6_refillUpwards_20 ?_
    replace h := Option.bind_eq_some_iff.mp h
    obtain ⟨r45, e46, h⟩ := h
    refine g_getR (pc := 21) K cl_6 hin_X6 (k := 2) (by decide) tb_84 rfl e46 dX6_refillUpwards_21 ?_
    refine g_iload_n (pc := 24) K 1 rfl rfl dX6_refillUpwards_24 ?_
    replace h := Option.bind_eq_some_iff.mp h
    obtain ⟨a47, rfl, h⟩ := h
    replace h := Option.bind_eq_some_iff.mp h
    obtain ⟨r49, e48, h⟩ := h
    refine g_qald (pc := 25) K e48 dX6_refillUpwards_25 ?_
    replace h := Option.bind_eq_some_iff.mp h
    obtain ⟨a50, rfl, h⟩ := h
    replace h := Option.bind_eq_some_iff.mp h
    obtain ⟨x51, e52, h⟩ := h
    refine g_getI (pc := 26) K cl_1 hin_X1 (k := 4) (by decide) tb_46 rfl e52 dX6_refillUpwards_26 ?_
    refine g_aload_n (pc := 29) K 0 rfl rfl dX6_refillUpwards_29 ?_
    replace h := Option.bind_eq_some_iff.mp h
    obtain ⟨x53, e54, h⟩ := h
    refine g_getI (pc := 30) K cl_6 hin_X6 (k := 1) (by decide) tb_83 rfl e54 dX6_refillUpwards_30 ?_
    refine g_icmp_ge (pc := 33) K 56 dX6_refillUpwards_33 (by decide) (fun c55 => ?_) (fun c55 => ?_)
    · replace h := (if_pos c55).symm.trans h
      refine g_sub K [0, 1] rfl ?_
      exact w_X6_refillUpwards_56 K hT hrec7  _ _ _ _ _ h (by omega) (by omega)
    · replace h := (if_neg c55).symm.trans h
      refine g_aload_n (pc := 36) K 0 rfl rfl dX6_refillUpwards_36 ?_
      refine g_aload_n (pc := 37) K 0 rfl rfl dX6_refillUpwards_37 ?_
      replace h := Option.bind_eq_some_iff.mp h
      obtain ⟨r56, e57, h⟩ := h
      refine g_getR (pc := 38) K cl_6 hin_X6 (k := 2) (by decide) tb_84 rfl e57 dX6_refillUpwards_38 ?_
      refine g_iload_n (pc := 41) K 1 rfl rfl dX6_refillUpwards_41 ?_
      refine g_iconst (pc := 42) (v := 1) K dX6_refillUpwards_42 (by decide) ?_
      refine g_isub (pc := 43) K dX6_refillUpwards_43 ?_
      replace h := Option.bind_eq_some_iff.mp h
      obtain ⟨a58, rfl, h⟩ := h
      replace h := Option.bind_eq_some_iff.mp h
      obtain ⟨r60, e59, h⟩ := h
      refine g_qald (pc := 44) K e59 dX6_refillUpwards_44 ?_
      refine g_aload_n (pc := 45) K 0 rfl rfl dX6_refillUpwards_45 ?_
      replace h := Option.bind_eq_some_iff.mp h
      obtain ⟨r61, e62, h⟩ := h
      refine g_getR (pc := 46) K cl_6 hin_X6 (k := 3) (by decide) tb_85 rfl e62 dX6_refillUpwards_46 ?_
      refine g_iload_n (pc := 49) K 1 rfl rfl dX6_refillUpwards_49 ?_
      refine g_iconst (pc := 50) (v := 1) K dX6_refillUpwards_50 (by decide) ?_
      refine g_isub (pc := 51) K dX6_refillUpwards_51 ?_
      replace h := Option.bind_eq_some_iff.mp h
      obtain ⟨a63, rfl, h⟩ := h
      replace h := Option.bind_eq_some_iff.mp h
      obtain ⟨x65, e64, h⟩ := h
      refine g_iald (pc := 52) K e64 dX6_refillUpwards_52 ?_
      replace h := Option.bind_eq_some_iff.mp h
      obtain ⟨a66, rfl, h⟩ := h
      replace h := Option.bind_eq_some_iff.mp h
      obtain ⟨f67, e68, h⟩ := h
      replace h := Option.bind_eq_some_iff.mp h
      obtain ⟨σ70, e69, h⟩ := h
      refine g_callV (pc := 53) (st := []) K [P_ (some a66), I_ x65] (c_X6_refill _ _ _ _ _ _ _ e69) e68 cl_6 rfl tb_267 tb_264 tb_2 tb_266 sl_5 hd_X6_refill ⟨Nat.le_of_ble_eq_true rfl, Nat.le_of_ble_eq_true rfl⟩ rfl (sw_rm (Nat.le_of_ble_eq_true rfl)) ⟨by show _ ≤ 0; omega, by show _ ≤ 0; omega⟩ dX6_refillUpwards_53 ?_
      refine g_sub K [0, 1] rfl ?_
      exact w_X6_refillUpwards_56 K hT hrec7  _ _ _ _ _ h (by omega) (by omega)
def b_X6_refillUpwards_7  : Nat → Nat → Int32 → sw_S → Option sw_S
  | 0 => fun _ _ _ => none
  | n + 1 => B_X6_refillUpwards_7 (b_X6_refillUpwards_7  n)
theorem wl_X6_refillUpwards_7 {p : Program} {l : Launch} {e : Env} {s : State} {m : MethodId} {args : Array Value} {below : List Frame} {meth : Method} {c : Code} {Q : State → Prop} {A : Nat → Prop} {D : va_G} {cT : Nat → ClassId} {σ' : sw_S}  (K : sw_C p s m args c cX6_refillUpwards 2 RX6 A D cT) (hT : sw_Tv cX6_refillUpwards p l e (sw_R 4 0 0 94) s m args below meth c Q 2 A D cT 0 0 σ') : ∀ (n : Nat) (v0 : Nat) (v1 : Int32) (σ : sw_S) (ce sl : Nat), b_X6_refillUpwards_7  n v0 v1 σ = some σ' → ce + (0) ≤ 0 → sl + (0) ≤ 0 → sw_G p l e (sw_R 4 0 0 94) s m args below meth c Q 2 A D cT σ ce sl 7 [(0, P_ (some v0)), (1, I_ v1)] [] := by
  intro n
  induction n with
  | zero =>
    intro v0 v1 σ ce sl h
    exact absurd (show none = some σ' from h) (by simp)
  | succ n ih =>
    intro v0 v1 σ ce sl h hce hsl
    exact wB_X6_refillUpwards_7 K hT (fun _ _ _ _ _ h h1 h2 => ih _ _ _ _ _ h h1 h2) _ _ _ _ _ h hce hsl
def f_X6_refillUpwards (p0 : Nat) (σ : sw_S) : Option sw_S :=
  (sw_gI 6 p0 5 σ).bind fun x1 =>
  b_X6_refillUpwards_7 1000 p0 ((x1 - 1)) σ
set_option maxHeartbeats 4000000 in
set_option maxRecDepth 100000 in
theorem c_X6_refillUpwards  (l : Launch) (D : va_G) (cT : Nat → ClassId) (p0 : Nat) (σ : sw_S) {σ' : sw_S} (h : f_X6_refillUpwards p0 σ = some σ') : sw_M l D cT yX6_refillUpwards cX6_refillUpwards 2 none 4 94 0 0 σ [P_ (some p0)] none σ' := by
  refine sw_met_v (by decide) (Nat.le_of_ble_eq_true rfl) (fun p e s m args below meth c A Q K hnm hT => ?_)
  have hce : 0 + 0 ≤ 0 := Nat.le_of_ble_eq_true rfl
  have hsl : 0 + 0 ≤ 0 := Nat.le_of_ble_eq_true rfl
  unfold f_X6_refillUpwards at h
  change sw_G p l e (sw_R 4 0 0 94) s m args below meth c Q 2 A D cT σ 0 0 0 [(0, P_ (some p0))] []
  refine g_aload_n (pc := 0) K 0 rfl rfl dX6_refillUpwards_0 ?_
  replace h := Option.bind_eq_some_iff.mp h
  obtain ⟨x1, e2, h⟩ := h
  refine g_getI (pc := 1) K cl_6 hin_X6 (k := 5) (by decide) tb_88 rfl e2 dX6_refillUpwards_1 ?_
  refine g_iconst (pc := 4) (v := 1) K dX6_refillUpwards_4 (by decide) ?_
  refine g_isub (pc := 5) K dX6_refillUpwards_5 ?_
  refine g_istore_n (pc := 6) K [(1, I_ ((x1 - 1))), (0, P_ (some p0))] rfl (by decide) rfl dX6_refillUpwards_6 ?_
  refine g_sub K [1, 0] rfl ?_
  exact wl_X6_refillUpwards_7 K hT  1000 _ _ _ _ _ h (by omega) (by omega)

def f_X6_drop (p0 : Nat) (q1 : Int32) (σ : sw_S) : Option (Int32 × sw_S) :=
  (sw_ob 6 p0 σ).bind fun f1 =>
  sw_b2 (f_X6_leafFor p0 q1 σ) fun r4 σ5 =>
  r4.bind fun a6 =>
  (sw_ob 1 a6 σ5).bind fun f7 =>
  (f_X1_slotOf a6 q1 σ5).bind fun x10 =>
  (sw_ob 1 a6 σ5).bind fun f11 =>
  (f_X1_hasAt a6 x10 q1 σ5).bind fun x14 =>
  (if x14 = 0 then
  some (0, σ5)
  else
  (sw_ob 1 a6 σ5).bind fun f16 =>
  (f_X1_closeSlot a6 x10 σ5).bind fun σ19 =>
  (sw_ob 6 p0 σ19).bind fun f20 =>
  (f_X6_refillUpwards p0 σ19).bind fun σ23 =>
  some (1, σ23))
set_option maxHeartbeats 4000000 in
set_option maxRecDepth 100000 in
theorem c_X6_drop  (l : Launch) (D : va_G) (cT : Nat → ClassId) (p0 : Nat) (q1 : Int32) (σ : sw_S) {r : Int32} {σ' : sw_S} (h : f_X6_drop p0 q1 σ = some (r, σ')) : sw_M l D cT yX6_drop cX6_drop 4 (some .boolean) 5 115 0 0 σ [P_ (some p0), I_ q1] (some (I_ r)) σ' := by
  refine sw_met_z (by decide) (Nat.le_of_ble_eq_true rfl) (fun p e s m args below meth c A Q K hnm hT => ?_)
  have hce : 0 + 0 ≤ 0 := Nat.le_of_ble_eq_true rfl
  have hsl : 0 + 0 ≤ 0 := Nat.le_of_ble_eq_true rfl
  unfold f_X6_drop at h
  change sw_G p l e (sw_R 5 0 0 115) s m args below meth c Q 4 A D cT σ 0 0 0 [(0, P_ (some p0)), (1, I_ q1)] []
  refine g_aload_n (pc := 0) K 0 rfl rfl dX6_drop_0 ?_
  refine g_iload_n (pc := 1) K 1 rfl rfl dX6_drop_1 ?_
  replace h := Option.bind_eq_some_iff.mp h
  obtain ⟨f1, e2, h⟩ := h
  replace h := sw_b2_eq h
  obtain ⟨r4, σ5, e3, h⟩ := h
  refine g_callV (pc := 2) (st := []) K [I_ q1] (c_X6_leafFor _ _ _ _ _ _ e3) e2 cl_6 rfl tb_211 tb_208 tb_2 tb_210 sl_0 hd_X6_leafFor ⟨Nat.le_of_ble_eq_true rfl, Nat.le_of_ble_eq_true rfl⟩ rfl (sw_rm (Nat.le_of_ble_eq_true rfl)) ⟨by show _ ≤ 0; omega, by show _ ≤ 0; omega⟩ dX6_drop_2 ?_
  refine g_astore_n (pc := 5) K [(2, P_ r4), (0, P_ (some p0)), (1, I_ q1)] rfl (by decide) rfl dX6_drop_5 ?_
  refine g_aload_n (pc := 6) K 0 rfl rfl dX6_drop_6 ?_
  refine g_iload_n (pc := 7) K 2 rfl rfl dX6_drop_7 ?_
  replace h := Option.bind_eq_some_iff.mp h
  obtain ⟨a6, rfl, h⟩ := h
  replace h := Option.bind_eq_some_iff.mp h
  obtain ⟨f7, e8, h⟩ := h
  replace h := Option.bind_eq_some_iff.mp h
  obtain ⟨x10, e9, h⟩ := h
  refine g_callV (pc := 8) (st := []) K [I_ q1] (c_X1_slotOf _ _ _ _ _ _ e9) e8 cl_1 rfl tb_219 tb_216 tb_3 tb_217 tb_218 hd_X1_slotOf ⟨Nat.le_of_ble_eq_true rfl, Nat.le_of_ble_eq_true rfl⟩ rfl (sw_rm (Nat.le_of_ble_eq_true rfl)) ⟨by show _ ≤ 0; omega, by show _ ≤ 0; omega⟩ dX6_drop_8 ?_
  refine g_istore_n (pc := 11) K [(3, I_ x10), (2, P_ (some a6)), (0, P_ (some p0)), (1, I_ q1)] rfl (by decide) rfl dX6_drop_11 ?_
  refine g_aload_n (pc := 12) K 1 rfl rfl dX6_drop_12 ?_
  refine g_iload_n (pc := 13) K 0 rfl rfl dX6_drop_13 ?_
  refine g_iload_n (pc := 14) K 3 rfl rfl dX6_drop_14 ?_
  replace h := Option.bind_eq_some_iff.mp h
  obtain ⟨f11, e12, h⟩ := h
  replace h := Option.bind_eq_some_iff.mp h
  obtain ⟨x14, e13, h⟩ := h
  refine g_callV (pc := 15) (st := []) K [I_ x10, I_ q1] (c_X1_hasAt _ _ _ _ _ _ _ e13) e12 cl_1 rfl tb_223 tb_220 tb_3 tb_221 tb_222 hd_X1_hasAt ⟨Nat.le_of_ble_eq_true rfl, Nat.le_of_ble_eq_true rfl⟩ rfl (sw_rm (Nat.le_of_ble_eq_true rfl)) ⟨by show _ ≤ 0; omega, by show _ ≤ 0; omega⟩ dX6_drop_15 ?_
  refine g_if_ne (pc := 18) K 23 dX6_drop_18 (by decide) (fun c15 => ?_) (fun c15 => ?_)
  · replace h := (if_pos c15).symm.trans h
    refine g_iconst (pc := 21) (v := 0) K dX6_drop_21 (by decide) ?_
    cases h
    exact hT _ _ 22 _ (by omega) (by omega) rfl dX6_drop_22
  · replace h := (if_neg c15).symm.trans h
    refine g_aload_n (pc := 23) K 1 rfl rfl dX6_drop_23 ?_
    refine g_iload_n (pc := 24) K 0 rfl rfl dX6_drop_24 ?_
    replace h := Option.bind_eq_some_iff.mp h
    obtain ⟨f16, e17, h⟩ := h
    replace h := Option.bind_eq_some_iff.mp h
    obtain ⟨σ19, e18, h⟩ := h
    refine g_callV (pc := 25) (st := []) K [I_ x10] (c_X1_closeSlot _ _ _ _ _ _ e18) e17 cl_1 rfl tb_259 tb_256 tb_3 tb_257 tb_258 hd_X1_closeSlot ⟨Nat.le_of_ble_eq_true rfl, Nat.le_of_ble_eq_true rfl⟩ rfl (sw_rm (Nat.le_of_ble_eq_true rfl)) ⟨by show _ ≤ 0; omega, by show _ ≤ 0; omega⟩ dX6_drop_25 ?_
    refine g_aload_n (pc := 28) K 2 rfl rfl dX6_drop_28 ?_
    replace h := Option.bind_eq_some_iff.mp h
    obtain ⟨f20, e21, h⟩ := h
    replace h := Option.bind_eq_some_iff.mp h
    obtain ⟨σ23, e22, h⟩ := h
    refine g_callV (pc := 29) (st := []) K [] (c_X6_refillUpwards _ _ _ _ _ e22) e21 cl_6 rfl tb_263 tb_260 tb_2 tb_262 sl_4 hd_X6_refillUpwards ⟨Nat.le_of_ble_eq_true rfl, Nat.le_of_ble_eq_true rfl⟩ rfl (sw_rm (Nat.le_of_ble_eq_true rfl)) ⟨by show _ ≤ 0; omega, by show _ ≤ 0; omega⟩ dX6_drop_29 ?_
    refine g_iconst (pc := 32) (v := 1) K dX6_drop_32 (by decide) ?_
    cases h
    exact hT _ _ 33 _ (by omega) (by omega) rfl dX6_drop_33

def b_X6_entriesBelow_85 (recm : Nat → Nat → Int32 → Int32 → Int32 → sw_S → Option Int32) (v5 : Int32) (σ : sw_S) : Option Int32 :=
  some v5
set_option maxHeartbeats 4000000 in
set_option maxRecDepth 100000 in
theorem w_X6_entriesBelow_85 {p : Program} {l : Launch} {e : Env} {s : State} {m : MethodId} {args : Array Value} {below : List Frame} {meth : Method} {c : Code} {Q : State → Prop} {A : Nat → Prop} {D : va_G} {cT : Nat → ClassId} {σ : sw_S}  {r : Int32}  {recm : Nat → Nat → Int32 → Int32 → Int32 → sw_S → Option Int32} {fr0 lo0 : Nat} (hm : ∀ (p0 : Nat) (q1 : Nat) (q2 : Int32) (q3 : Int32) (q4 : Int32) (σ : sw_S) {r : Int32}, recm p0 q1 q2 q3 q4 σ = some r → sw_M l D cT yX6_entriesBelow cX6_entriesBelow 7 (some .int) fr0 lo0 0 0 σ [P_ (some p0), P_ (some q1), I_ q2, I_ q3, I_ q4] (some (I_ r)) σ)  (K : sw_C p s m args c cX6_entriesBelow 7 RX6 A D cT) (hT : sw_Ti cX6_entriesBelow p l e (sw_R (fr0 + 1) 0 0 (lo0 + 26)) s m args below meth c Q 7 A D cT 0 0 σ r) (v5 : Int32) (ce sl : Nat) (h : b_X6_entriesBelow_85 recm v5 σ = some r) (hce : ce + (0) ≤ 0) (hsl : sl + (0) ≤ 0) : sw_G p l e (sw_R (fr0 + 1) 0 0 (lo0 + 26)) s m args below meth c Q 7 A D cT σ ce sl 85 [(5, I_ v5)] [] := by
  unfold b_X6_entriesBelow_85 at h
  refine g_iload (pc := 85) K 0 rfl dX6_entriesBelow_85 ?_
  cases h
  exact hT _ _ 87 _ (by omega) (by omega) dX6_entriesBelow_87
def b_X6_entriesBelow_79 (recm : Nat → Nat → Int32 → Int32 → Int32 → sw_S → Option Int32) (rec6 : Nat → Nat → Int32 → Int32 → Int32 → Int32 → Int32 → sw_S → Option Int32) (v0 : Nat) (v1 : Nat) (v2 : Int32) (v3 : Int32) (v4 : Int32) (v5 : Int32) (v6 : Int32) (σ : sw_S) : Option Int32 :=
  rec6 v0 v1 v2 v3 v4 v5 ((v6 + 1)) σ
set_option maxHeartbeats 4000000 in
set_option maxRecDepth 100000 in
theorem w_X6_entriesBelow_79 {p : Program} {l : Launch} {e : Env} {s : State} {m : MethodId} {args : Array Value} {below : List Frame} {meth : Method} {c : Code} {Q : State → Prop} {A : Nat → Prop} {D : va_G} {cT : Nat → ClassId} {σ : sw_S}  {r : Int32}  {recm : Nat → Nat → Int32 → Int32 → Int32 → sw_S → Option Int32} {fr0 lo0 : Nat} (hm : ∀ (p0 : Nat) (q1 : Nat) (q2 : Int32) (q3 : Int32) (q4 : Int32) (σ : sw_S) {r : Int32}, recm p0 q1 q2 q3 q4 σ = some r → sw_M l D cT yX6_entriesBelow cX6_entriesBelow 7 (some .int) fr0 lo0 0 0 σ [P_ (some p0), P_ (some q1), I_ q2, I_ q3, I_ q4] (some (I_ r)) σ)  (K : sw_C p s m args c cX6_entriesBelow 7 RX6 A D cT) (hT : sw_Ti cX6_entriesBelow p l e (sw_R (fr0 + 1) 0 0 (lo0 + 26)) s m args below meth c Q 7 A D cT 0 0 σ r) {rec6 : Nat → Nat → Int32 → Int32 → Int32 → Int32 → Int32 → sw_S → Option Int32} (hrec6 : ∀ (v0 : Nat) (v1 : Nat) (v2 : Int32) (v3 : Int32) (v4 : Int32) (v5 : Int32) (v6 : Int32) (ce sl : Nat), rec6 v0 v1 v2 v3 v4 v5 v6 σ = some r → ce + (0) ≤ 0 → sl + (0) ≤ 0 → sw_G p l e (sw_R (fr0 + 1) 0 0 (lo0 + 26)) s m args below meth c Q 7 A D cT σ ce sl 6 [(0, P_ (some v0)), (1, P_ (some v1)), (2, I_ v2), (3, I_ v3), (4, I_ v4), (5, I_ v5), (6, I_ v6)] []) (v0 : Nat) (v1 : Nat) (v2 : Int32) (v3 : Int32) (v4 : Int32) (v5 : Int32) (v6 : Int32) (ce sl : Nat) (h : b_X6_entriesBelow_79 recm rec6 v0 v1 v2 v3 v4 v5 v6 σ = some r) (hce : ce + (0) ≤ 0) (hsl : sl + (0) ≤ 0) : sw_G p l e (sw_R (fr0 + 1) 0 0 (lo0 + 26)) s m args below meth c Q 7 A D cT σ ce sl 79 [(0, P_ (some v0)), (1, P_ (some v1)), (2, I_ v2), (3, I_ v3), (4, I_ v4), (5, I_ v5), (6, I_ v6)] [] := by
  unfold b_X6_entriesBelow_79 at h
  refine g_iinc (pc := 79) K 6 (v6 + 1) [(6, I_ ((v6 + 1))), (0, P_ (some v0)), (1, P_ (some v1)), (2, I_ v2), (3, I_ v3), (4, I_ v4), (5, I_ v5)] rfl rfl (by decide) rfl dX6_entriesBelow_79 ?_
  refine g_goto (pc := 82) (tgt := 6) K dX6_entriesBelow_82 (by decide) ?_
  refine g_sub K [1, 2, 3, 4, 5, 6, 0] rfl ?_
  exact hrec6 _ _ _ _ _ _ _ _ _ h (by omega) (by omega)
def B_X6_entriesBelow_6 (recm : Nat → Nat → Int32 → Int32 → Int32 → sw_S → Option Int32) (rec6 : Nat → Nat → Int32 → Int32 → Int32 → Int32 → Int32 → sw_S → Option Int32) (v0 : Nat) (v1 : Nat) (v2 : Int32) (v3 : Int32) (v4 : Int32) (v5 : Int32) (v6 : Int32) (σ : sw_S) : Option Int32 :=
  (sw_gI 1 v1 4 σ).bind fun x1 =>
  (if x1 ≤ v6 then
  b_X6_entriesBelow_85 recm v5 σ
  else
  (if 6 < v4 then
  b_X6_entriesBelow_85 recm v5 σ
  else
  (sw_gI 1 v1 0 σ).bind fun x5 =>
  (if x5 = 0 then
  (sw_gR 1 v1 3 σ).bind fun r8 =>
  r8.bind fun a10 =>
  (sw_ql a10 v6 σ).bind fun r12 =>
  r12.bind fun a13 =>
  (sw_ob 6 v0 σ).bind fun f14 =>
  (recm v0 a13 v2 v3 ((v4 + 1)) σ).bind fun x17 =>
  b_X6_entriesBelow_79 recm rec6 v0 v1 v2 v3 v4 ((v5 + x17)) v6 σ
  else
  (sw_gR 1 v1 1 σ).bind fun r18 =>
  r18.bind fun a20 =>
  (sw_al 0 a20 v6 σ).bind fun x22 =>
  (if x22 < v2 then
  b_X6_entriesBelow_79 recm rec6 v0 v1 v2 v3 v4 v5 v6 σ
  else
  (sw_gR 1 v1 1 σ).bind fun r24 =>
  r24.bind fun a26 =>
  (sw_al 0 a26 v6 σ).bind fun x28 =>
  (if v3 < x28 then
  b_X6_entriesBelow_79 recm rec6 v0 v1 v2 v3 v4 v5 v6 σ
  else
  b_X6_entriesBelow_79 recm rec6 v0 v1 v2 v3 v4 ((v5 + 1)) v6 σ)))))
set_option maxHeartbeats 4000000 in
set_option maxRecDepth 100000 in
theorem wB_X6_entriesBelow_6 {p : Program} {l : Launch} {e : Env} {s : State} {m : MethodId} {args : Array Value} {below : List Frame} {meth : Method} {c : Code} {Q : State → Prop} {A : Nat → Prop} {D : va_G} {cT : Nat → ClassId} {σ : sw_S}  {r : Int32}  {recm : Nat → Nat → Int32 → Int32 → Int32 → sw_S → Option Int32} {fr0 lo0 : Nat} (hm : ∀ (p0 : Nat) (q1 : Nat) (q2 : Int32) (q3 : Int32) (q4 : Int32) (σ : sw_S) {r : Int32}, recm p0 q1 q2 q3 q4 σ = some r → sw_M l D cT yX6_entriesBelow cX6_entriesBelow 7 (some .int) fr0 lo0 0 0 σ [P_ (some p0), P_ (some q1), I_ q2, I_ q3, I_ q4] (some (I_ r)) σ)  (K : sw_C p s m args c cX6_entriesBelow 7 RX6 A D cT) (hT : sw_Ti cX6_entriesBelow p l e (sw_R (fr0 + 1) 0 0 (lo0 + 26)) s m args below meth c Q 7 A D cT 0 0 σ r) {rec6 : Nat → Nat → Int32 → Int32 → Int32 → Int32 → Int32 → sw_S → Option Int32} (hrec6 : ∀ (v0 : Nat) (v1 : Nat) (v2 : Int32) (v3 : Int32) (v4 : Int32) (v5 : Int32) (v6 : Int32) (ce sl : Nat), rec6 v0 v1 v2 v3 v4 v5 v6 σ = some r → ce + (0) ≤ 0 → sl + (0) ≤ 0 → sw_G p l e (sw_R (fr0 + 1) 0 0 (lo0 + 26)) s m args below meth c Q 7 A D cT σ ce sl 6 [(0, P_ (some v0)), (1, P_ (some v1)), (2, I_ v2), (3, I_ v3), (4, I_ v4), (5, I_ v5), (6, I_ v6)] []) (v0 : Nat) (v1 : Nat) (v2 : Int32) (v3 : Int32) (v4 : Int32) (v5 : Int32) (v6 : Int32) (ce sl : Nat) (h : B_X6_entriesBelow_6 recm rec6 v0 v1 v2 v3 v4 v5 v6 σ = some r) (hce : ce + (0) ≤ 0) (hsl : sl + (0) ≤ 0) : sw_G p l e (sw_R (fr0 + 1) 0 0 (lo0 + 26)) s m args below meth c Q 7 A D cT σ ce sl 6 [(0, P_ (some v0)), (1, P_ (some v1)), (2, I_ v2), (3, I_ v3), (4, I_ v4), (5, I_ v5), (6, I_ v6)] [] := by
  unfold B_X6_entriesBelow_6 at h
  refine g_iload (pc := 6) K 6 rfl dX6_entriesBelow_6 ?_
  refine g_aload_n (pc := 8) K 1 rfl rfl dX6_entriesBelow_8 ?_
  replace h := Option.bind_eq_some_iff.mp h
  obtain ⟨x1, e2, h⟩ := h
  refine g_getI (pc := 9) K cl_1 hin_X1 (k := 4) (by decide) tb_46 rfl e2 dX6_entriesBelow_9 ?_
  refine g_icmp_ge (pc := 12) K 85 dX6_entriesBelow_12 (by decide) (fun c3 => ?_) (fun c3 => ?_)
  · replace h := (if_pos c3).symm.trans h
    refine g_sub K [5] rfl ?_
    exact w_X6_entriesBelow_85 hm K hT  _ _ _ h (by omega) (by omega)
  · replace h := (if_neg c3).symm.trans h
    refine g_iload (pc := 15) K 4 rfl dX6_entriesBelow_15 ?_
    refine g_bipush (pc := 17) (v := 6) K dX6_entriesBelow_17 (by decide) ?_
    refine g_icmp_gt (pc := 19) K 85 dX6_entriesBelow_19 (by decide) (fun c4 => ?_) (fun c4 => ?_)
    · replace h := (if_pos c4).symm.trans h
      refine g_sub K [5] rfl ?_
      exact w_X6_entriesBelow_85 hm K hT  _ _ _ h (by omega) (by omega)
    · replace h := (if_neg c4).symm.trans h
      refine g_aload_n (pc := 22) K 1 rfl rfl dX6_entriesBelow_22 ?_
      replace h := Option.bind_eq_some_iff.mp h
      obtain ⟨x5, e6, h⟩ := h
      refine g_getI (pc := 23) K cl_1 hin_X1 (k := 0) (by decide) tb_34 rfl e6 dX6_entriesBelow_23 ?_
      refine g_if_ne (pc := 26) K 54 dX6_entriesBelow_26 (by decide) (fun c7 => ?_) (fun c7 => ?_)
      · replace h := (if_pos c7).symm.trans h
        refine g_iload (pc := 29) K 5 rfl dX6_entriesBelow_29 ?_
        refine g_aload_n (pc := 31) K 0 rfl rfl dX6_entriesBelow_31 ?_
        refine g_aload_n (pc := 32) K 1 rfl rfl dX6_entriesBelow_32 ?_
        replace h := Option.bind_eq_some_iff.mp h
        obtain ⟨r8, e9, h⟩ := h
        refine g_getR (pc := 33) K cl_1 hin_X1 (k := 3) (by decide) tb_43 rfl e9 dX6_entriesBelow_33 ?_
        refine g_iload (pc := 36) K 6 rfl dX6_entriesBelow_36 ?_
        replace h := Option.bind_eq_some_iff.mp h
        obtain ⟨a10, rfl, h⟩ := h
        replace h := Option.bind_eq_some_iff.mp h
        obtain ⟨r12, e11, h⟩ := h
        refine g_qald (pc := 38) K e11 dX6_entriesBelow_38 ?_
        refine g_iload_n (pc := 39) K 2 rfl rfl dX6_entriesBelow_39 ?_
        refine g_iload_n (pc := 40) K 3 rfl rfl dX6_entriesBelow_40 ?_
        refine g_iload (pc := 41) K 4 rfl dX6_entriesBelow_41 ?_
        refine g_iconst (pc := 43) (v := 1) K dX6_entriesBelow_43 (by decide) ?_
        refine g_iadd (pc := 44) K dX6_entriesBelow_44 ?_
        replace h := Option.bind_eq_some_iff.mp h
        obtain ⟨a13, rfl, h⟩ := h
        replace h := Option.bind_eq_some_iff.mp h
        obtain ⟨f14, e15, h⟩ := h
        replace h := Option.bind_eq_some_iff.mp h
        obtain ⟨x17, e16, h⟩ := h
        refine g_callV (pc := 45) (st := [I_ v5]) K [P_ (some a13), I_ v2, I_ v3, I_ ((v4 + 1))] (hm _ _ _ _ _ _ e16) e15 cl_6 rfl tb_309 tb_306 tb_2 tb_308 sl_7 hd_X6_entriesBelow ⟨by show _ ≤ fr0 + 1; omega, by show _ ≤ lo0 + 26; omega⟩ rfl (sw_rm (Nat.le_of_ble_eq_true rfl)) ⟨by show _ ≤ 0; omega, by show _ ≤ 0; omega⟩ dX6_entriesBelow_45 ?_
        refine g_iadd (pc := 48) K dX6_entriesBelow_48 ?_
        refine g_istore (pc := 49) K [(5, I_ ((v5 + x17))), (0, P_ (some v0)), (1, P_ (some v1)), (2, I_ v2), (3, I_ v3), (4, I_ v4), (6, I_ v6)] (by decide) rfl dX6_entriesBelow_49 ?_
        refine g_goto (pc := 51) (tgt := 79) K dX6_entriesBelow_51 (by decide) ?_
        refine g_sub K [1, 2, 3, 4, 5, 0, 6] rfl ?_
        exact w_X6_entriesBelow_79 hm K hT hrec6  _ _ _ _ _ _ _ _ _ h (by omega) (by omega)
      · replace h := (if_neg c7).symm.trans h
        refine g_aload_n (pc := 54) K 1 rfl rfl dX6_entriesBelow_54 ?_
        replace h := Option.bind_eq_some_iff.mp h
        obtain ⟨r18, e19, h⟩ := h
        refine g_getR (pc := 55) K cl_1 hin_X1 (k := 1) (by decide) tb_37 rfl e19 dX6_entriesBelow_55 ?_
        refine g_iload (pc := 58) K 6 rfl dX6_entriesBelow_58 ?_
        replace h := Option.bind_eq_some_iff.mp h
        obtain ⟨a20, rfl, h⟩ := h
        replace h := Option.bind_eq_some_iff.mp h
        obtain ⟨x22, e21, h⟩ := h
        refine g_iald (pc := 60) K e21 dX6_entriesBelow_60 ?_
        refine g_iload_n (pc := 61) K 2 rfl rfl dX6_entriesBelow_61 ?_
        refine g_icmp_lt (pc := 62) K 79 dX6_entriesBelow_62 (by decide) (fun c23 => ?_) (fun c23 => ?_)
        · replace h := (if_pos c23).symm.trans h
          refine g_sub K [0, 1, 2, 3, 4, 5, 6] rfl ?_
          exact w_X6_entriesBelow_79 hm K hT hrec6  _ _ _ _ _ _ _ _ _ h (by omega) (by omega)
        · replace h := (if_neg c23).symm.trans h
          refine g_aload_n (pc := 65) K 1 rfl rfl dX6_entriesBelow_65 ?_
          replace h := Option.bind_eq_some_iff.mp h
          obtain ⟨r24, e25, h⟩ := h
          refine g_getR (pc := 66) K cl_1 hin_X1 (k := 1) (by decide) tb_37 rfl e25 dX6_entriesBelow_66 ?_
          refine g_iload (pc := 69) K 6 rfl dX6_entriesBelow_69 ?_
          replace h := Option.bind_eq_some_iff.mp h
          obtain ⟨a26, rfl, h⟩ := h
          replace h := Option.bind_eq_some_iff.mp h
          obtain ⟨x28, e27, h⟩ := h
          refine g_iald (pc := 71) K e27 dX6_entriesBelow_71 ?_
          refine g_iload_n (pc := 72) K 3 rfl rfl dX6_entriesBelow_72 ?_
          refine g_icmp_gt (pc := 73) K 79 dX6_entriesBelow_73 (by decide) (fun c29 => ?_) (fun c29 => ?_)
          · replace h := (if_pos c29).symm.trans h
            refine g_sub K [0, 1, 2, 3, 4, 5, 6] rfl ?_
            exact w_X6_entriesBelow_79 hm K hT hrec6  _ _ _ _ _ _ _ _ _ h (by omega) (by omega)
          · replace h := (if_neg c29).symm.trans h
            refine g_iinc (pc := 76) K 5 (v5 + 1) [(5, I_ ((v5 + 1))), (0, P_ (some v0)), (1, P_ (some v1)), (2, I_ v2), (3, I_ v3), (4, I_ v4), (6, I_ v6)] rfl rfl (by decide) rfl dX6_entriesBelow_76 ?_
            refine g_sub K [1, 2, 3, 4, 5, 0, 6] rfl ?_
            exact w_X6_entriesBelow_79 hm K hT hrec6  _ _ _ _ _ _ _ _ _ h (by omega) (by omega)
def b_X6_entriesBelow_6 (recm : Nat → Nat → Int32 → Int32 → Int32 → sw_S → Option Int32) : Nat → Nat → Nat → Int32 → Int32 → Int32 → Int32 → Int32 → sw_S → Option Int32
  | 0 => fun _ _ _ _ _ _ _ _ => none
  | n + 1 => B_X6_entriesBelow_6 recm (b_X6_entriesBelow_6 recm n)
theorem wl_X6_entriesBelow_6 {p : Program} {l : Launch} {e : Env} {s : State} {m : MethodId} {args : Array Value} {below : List Frame} {meth : Method} {c : Code} {Q : State → Prop} {A : Nat → Prop} {D : va_G} {cT : Nat → ClassId} {σ : sw_S}  {r : Int32}  {recm : Nat → Nat → Int32 → Int32 → Int32 → sw_S → Option Int32} {fr0 lo0 : Nat} (hm : ∀ (p0 : Nat) (q1 : Nat) (q2 : Int32) (q3 : Int32) (q4 : Int32) (σ : sw_S) {r : Int32}, recm p0 q1 q2 q3 q4 σ = some r → sw_M l D cT yX6_entriesBelow cX6_entriesBelow 7 (some .int) fr0 lo0 0 0 σ [P_ (some p0), P_ (some q1), I_ q2, I_ q3, I_ q4] (some (I_ r)) σ)  (K : sw_C p s m args c cX6_entriesBelow 7 RX6 A D cT) (hT : sw_Ti cX6_entriesBelow p l e (sw_R (fr0 + 1) 0 0 (lo0 + 26)) s m args below meth c Q 7 A D cT 0 0 σ r) : ∀ (n : Nat) (v0 : Nat) (v1 : Nat) (v2 : Int32) (v3 : Int32) (v4 : Int32) (v5 : Int32) (v6 : Int32) (ce sl : Nat), b_X6_entriesBelow_6 recm n v0 v1 v2 v3 v4 v5 v6 σ = some r → ce + (0) ≤ 0 → sl + (0) ≤ 0 → sw_G p l e (sw_R (fr0 + 1) 0 0 (lo0 + 26)) s m args below meth c Q 7 A D cT σ ce sl 6 [(0, P_ (some v0)), (1, P_ (some v1)), (2, I_ v2), (3, I_ v3), (4, I_ v4), (5, I_ v5), (6, I_ v6)] [] := by
  intro n
  induction n with
  | zero =>
    intro v0 v1 v2 v3 v4 v5 v6 ce sl h
    exact absurd (show none = some r from h) (by simp)
  | succ n ih =>
    intro v0 v1 v2 v3 v4 v5 v6 ce sl h hce hsl
    exact wB_X6_entriesBelow_6 hm K hT (fun _ _ _ _ _ _ _ _ _ h h1 h2 => ih _ _ _ _ _ _ _ _ _ h h1 h2) _ _ _ _ _ _ _ _ _ h hce hsl
def fr_X6_entriesBelow (recm : Nat → Nat → Int32 → Int32 → Int32 → sw_S → Option Int32) (p0 : Nat) (q1 : Nat) (q2 : Int32) (q3 : Int32) (q4 : Int32) (σ : sw_S) : Option Int32 :=
  b_X6_entriesBelow_6 recm 1000 p0 q1 q2 q3 q4 0 0 σ
set_option maxHeartbeats 4000000 in
set_option maxRecDepth 100000 in
theorem cr_X6_entriesBelow {l : Launch} {D : va_G} {cT : Nat → ClassId} (recm : Nat → Nat → Int32 → Int32 → Int32 → sw_S → Option Int32) {fr0 lo0 : Nat} (hm : ∀ (p0 : Nat) (q1 : Nat) (q2 : Int32) (q3 : Int32) (q4 : Int32) (σ : sw_S) {r : Int32}, recm p0 q1 q2 q3 q4 σ = some r → sw_M l D cT yX6_entriesBelow cX6_entriesBelow 7 (some .int) fr0 lo0 0 0 σ [P_ (some p0), P_ (some q1), I_ q2, I_ q3, I_ q4] (some (I_ r)) σ) (p0 : Nat) (q1 : Nat) (q2 : Int32) (q3 : Int32) (q4 : Int32) (σ : sw_S) {r : Int32} (h : fr_X6_entriesBelow recm p0 q1 q2 q3 q4 σ = some r) : sw_M l D cT yX6_entriesBelow cX6_entriesBelow 7 (some .int) (fr0 + 1) (lo0 + 26) 0 0 σ [P_ (some p0), P_ (some q1), I_ q2, I_ q3, I_ q4] (some (I_ r)) σ := by
  refine sw_met_i (by decide) (Nat.le_of_ble_eq_true rfl) (fun p e s m args below meth c A Q K hnm hT => ?_)
  have hce : 0 + 0 ≤ 0 := Nat.le_of_ble_eq_true rfl
  have hsl : 0 + 0 ≤ 0 := Nat.le_of_ble_eq_true rfl
  unfold fr_X6_entriesBelow at h
  change sw_G p l e (sw_R (fr0 + 1) 0 0 (lo0 + 26)) s m args below meth c Q 7 A D cT σ 0 0 0 [(0, P_ (some p0)), (1, P_ (some q1)), (2, I_ q2), (3, I_ q3), (4, I_ q4)] []
  refine g_iconst (pc := 0) (v := 0) K dX6_entriesBelow_0 (by decide) ?_
  refine g_istore (pc := 1) K [(5, I_ 0), (0, P_ (some p0)), (1, P_ (some q1)), (2, I_ q2), (3, I_ q3), (4, I_ q4)] (by decide) rfl dX6_entriesBelow_1 ?_
  refine g_iconst (pc := 3) (v := 0) K dX6_entriesBelow_3 (by decide) ?_
  refine g_istore (pc := 4) K [(6, I_ 0), (5, I_ 0), (0, P_ (some p0)), (1, P_ (some q1)), (2, I_ q2), (3, I_ q3), (4, I_ q4)] (by decide) rfl dX6_entriesBelow_4 ?_
  refine g_sub K [2, 3, 4, 5, 6, 1, 0] rfl ?_
  exact wl_X6_entriesBelow_6 hm K hT  1000 _ _ _ _ _ _ _ _ _ h (by omega) (by omega)

def f_X6_entriesBelow : Nat → Nat → Nat → Int32 → Int32 → Int32 → sw_S → Option Int32
  | 0 => fun _ _ _ _ _ _ => none
  | d + 1 => fr_X6_entriesBelow (f_X6_entriesBelow d)
theorem c_X6_entriesBelow (l : Launch) (D : va_G) (cT : Nat → ClassId) : ∀ (d : Nat) (p0 : Nat) (q1 : Nat) (q2 : Int32) (q3 : Int32) (q4 : Int32) (σ : sw_S) {r : Int32}, f_X6_entriesBelow d p0 q1 q2 q3 q4 σ = some r → sw_M l D cT yX6_entriesBelow cX6_entriesBelow 7 (some .int) (d * 1) (d * 26) 0 0 σ [P_ (some p0), P_ (some q1), I_ q2, I_ q3, I_ q4] (some (I_ r)) σ := by
  intro d
  induction d with
  | zero =>
    intro p0 q1 q2 q3 q4 σ r h
    exact absurd (show none = _ from h) (by simp)
  | succ d ih =>
    intro p0 q1 q2 q3 q4 σ r h
    have hq := cr_X6_entriesBelow (f_X6_entriesBelow d) (fun p0 q1 q2 q3 q4 σ r h => ih p0 q1 q2 q3 q4 σ h) p0 q1 q2 q3 q4 σ h
    rw [show d * 1 + 1 = (d + 1) * 1 by omega, show d * 26 + 26 = (d + 1) * 26 by omega] at hq
    exact hq

def f_X6_entriesFromTo (p0 : Nat) (q1 : Int32) (q2 : Int32) (σ : sw_S) : Option Int32 :=
  (sw_gR 6 p0 4 σ).bind fun r1 =>
  r1.bind fun a3 =>
  (sw_ob 6 p0 σ).bind fun f4 =>
  (f_X6_entriesBelow 8 p0 a3 q1 q2 1 σ).bind fun x7 =>
  some x7
set_option maxHeartbeats 4000000 in
set_option maxRecDepth 100000 in
theorem c_X6_entriesFromTo  (l : Launch) (D : va_G) (cT : Nat → ClassId) (p0 : Nat) (q1 : Int32) (q2 : Int32) (σ : sw_S) {r : Int32} (h : f_X6_entriesFromTo p0 q1 q2 σ = some r) : sw_M l D cT yX6_entriesFromTo cX6_entriesFromTo 3 (some .int) 9 234 0 0 σ [P_ (some p0), I_ q1, I_ q2] (some (I_ r)) σ := by
  refine sw_met_i (by decide) (Nat.le_of_ble_eq_true rfl) (fun p e s m args below meth c A Q K hnm hT => ?_)
  have hce : 0 + 0 ≤ 0 := Nat.le_of_ble_eq_true rfl
  have hsl : 0 + 0 ≤ 0 := Nat.le_of_ble_eq_true rfl
  unfold f_X6_entriesFromTo at h
  change sw_G p l e (sw_R 9 0 0 234) s m args below meth c Q 3 A D cT σ 0 0 0 [(0, P_ (some p0)), (1, I_ q1), (2, I_ q2)] []
  refine g_aload_n (pc := 0) K 0 rfl rfl dX6_entriesFromTo_0 ?_
  refine g_aload_n (pc := 1) K 0 rfl rfl dX6_entriesFromTo_1 ?_
  replace h := Option.bind_eq_some_iff.mp h
  obtain ⟨r1, e2, h⟩ := h
  refine g_getR (pc := 2) K cl_6 hin_X6 (k := 4) (by decide) tb_86 rfl e2 dX6_entriesFromTo_2 ?_
  refine g_iload_n (pc := 5) K 1 rfl rfl dX6_entriesFromTo_5 ?_
  refine g_iload_n (pc := 6) K 2 rfl rfl dX6_entriesFromTo_6 ?_
  refine g_iconst (pc := 7) (v := 1) K dX6_entriesFromTo_7 (by decide) ?_
  replace h := Option.bind_eq_some_iff.mp h
  obtain ⟨a3, rfl, h⟩ := h
  replace h := Option.bind_eq_some_iff.mp h
  obtain ⟨f4, e5, h⟩ := h
  replace h := Option.bind_eq_some_iff.mp h
  obtain ⟨x7, e6, h⟩ := h
  refine g_callV (pc := 8) (st := []) K [P_ (some a3), I_ q1, I_ q2, I_ 1] (c_X6_entriesBelow _ _ _ 8 _ _ _ _ _ _ e6) e5 cl_6 rfl tb_309 tb_306 tb_2 tb_308 sl_7 hd_X6_entriesBelow ⟨Nat.le_of_ble_eq_true rfl, Nat.le_of_ble_eq_true rfl⟩ rfl (sw_rm (Nat.le_of_ble_eq_true rfl)) ⟨by show _ ≤ 0; omega, by show _ ≤ 0; omega⟩ dX6_entriesFromTo_8 ?_
  cases h
  exact hT _ _ 11 _ (by omega) (by omega) dX6_entriesFromTo_11
