def b_X8_isRight_100 (rec42 : Nat → Int32 → Int32 → Int32 → Int32 → Int32 → sw_S → Option (Int32 × sw_S)) (v0 : Nat) (v2 : Int32) (v3 : Int32) (v4 : Int32) (v6 : Int32) (t0 : Int32) (σ : sw_S) : Option (Int32 × sw_S) :=
  rec42 v0 v2 v3 v4 t0 ((v6 + 1)) σ
set_option maxHeartbeats 4000000 in
set_option maxRecDepth 100000 in
theorem w_X8_isRight_100 {p : Program} {l : Launch} {e : Env} {s : State} {m : MethodId} {args : Array Value} {below : List Frame} {meth : Method} {c : Code} {Q : State → Prop} {A : Nat → Prop} {D : va_G} {cT : Nat → ClassId} {r : Int32}  {σ' : sw_S}  (K : sw_C p s m args c cX8_isRight 7 RX8 A D cT) (hT : sw_Tz cX8_isRight p l e (sw_R 4 0 0 92) s m args below meth c Q 7 A D cT 0 0 σ' r) {rec42 : Nat → Int32 → Int32 → Int32 → Int32 → Int32 → sw_S → Option (Int32 × sw_S)} (hrec42 : ∀ (v0 : Nat) (v2 : Int32) (v3 : Int32) (v4 : Int32) (v5 : Int32) (v6 : Int32) (σ : sw_S) (ce sl : Nat), rec42 v0 v2 v3 v4 v5 v6 σ = some (r, σ') → ce + (0) ≤ 0 → sl + (0) ≤ 0 → sw_G p l e (sw_R 4 0 0 92) s m args below meth c Q 7 A D cT σ ce sl 42 [(0, P_ (some v0)), (2, I_ v2), (3, I_ v3), (4, I_ v4), (5, I_ v5), (6, I_ v6)] []) (v0 : Nat) (v2 : Int32) (v3 : Int32) (v4 : Int32) (v6 : Int32) (t0 : Int32) (σ : sw_S)  (ce sl : Nat) (h : b_X8_isRight_100 rec42 v0 v2 v3 v4 v6 t0 σ = some (r, σ')) (hce : ce + (0) ≤ 0) (hsl : sl + (0) ≤ 0) : sw_G p l e (sw_R 4 0 0 92) s m args below meth c Q 7 A D cT σ ce sl 100 [(0, P_ (some v0)), (2, I_ v2), (3, I_ v3), (4, I_ v4), (6, I_ v6)] [I_ t0] := by
  unfold b_X8_isRight_100 at h
  refine g_istore (pc := 100) K [(5, I_ t0), (0, P_ (some v0)), (2, I_ v2), (3, I_ v3), (4, I_ v4), (6, I_ v6)] (by decide) rfl dX8_isRight_100 ?_
  refine g_iinc (pc := 102) K 5 (v6 + 1) [(6, I_ ((v6 + 1))), (5, I_ t0), (0, P_ (some v0)), (2, I_ v2), (3, I_ v3), (4, I_ v4)] rfl rfl (by decide) rfl dX8_isRight_102 ?_
  refine g_goto (pc := 105) (tgt := 42) K dX8_isRight_105 (by decide) ?_
  refine g_sub K [2, 3, 4, 5, 1, 0] rfl ?_
  exact hrec42 _ _ _ _ _ _ _ _ _ h (by omega) (by omega)
def b_X8_isRight_99 (rec42 : Nat → Int32 → Int32 → Int32 → Int32 → Int32 → sw_S → Option (Int32 × sw_S)) (v0 : Nat) (v2 : Int32) (v3 : Int32) (v4 : Int32) (v6 : Int32) (σ : sw_S) : Option (Int32 × sw_S) :=
  b_X8_isRight_100 rec42 v0 v2 v3 v4 v6 0 σ
set_option maxHeartbeats 4000000 in
set_option maxRecDepth 100000 in
theorem w_X8_isRight_99 {p : Program} {l : Launch} {e : Env} {s : State} {m : MethodId} {args : Array Value} {below : List Frame} {meth : Method} {c : Code} {Q : State → Prop} {A : Nat → Prop} {D : va_G} {cT : Nat → ClassId} {r : Int32}  {σ' : sw_S}  (K : sw_C p s m args c cX8_isRight 7 RX8 A D cT) (hT : sw_Tz cX8_isRight p l e (sw_R 4 0 0 92) s m args below meth c Q 7 A D cT 0 0 σ' r) {rec42 : Nat → Int32 → Int32 → Int32 → Int32 → Int32 → sw_S → Option (Int32 × sw_S)} (hrec42 : ∀ (v0 : Nat) (v2 : Int32) (v3 : Int32) (v4 : Int32) (v5 : Int32) (v6 : Int32) (σ : sw_S) (ce sl : Nat), rec42 v0 v2 v3 v4 v5 v6 σ = some (r, σ') → ce + (0) ≤ 0 → sl + (0) ≤ 0 → sw_G p l e (sw_R 4 0 0 92) s m args below meth c Q 7 A D cT σ ce sl 42 [(0, P_ (some v0)), (2, I_ v2), (3, I_ v3), (4, I_ v4), (5, I_ v5), (6, I_ v6)] []) (v0 : Nat) (v2 : Int32) (v3 : Int32) (v4 : Int32) (v6 : Int32) (σ : sw_S)  (ce sl : Nat) (h : b_X8_isRight_99 rec42 v0 v2 v3 v4 v6 σ = some (r, σ')) (hce : ce + (0) ≤ 0) (hsl : sl + (0) ≤ 0) : sw_G p l e (sw_R 4 0 0 92) s m args below meth c Q 7 A D cT σ ce sl 99 [(0, P_ (some v0)), (2, I_ v2), (3, I_ v3), (4, I_ v4), (6, I_ v6)] [] := by
  unfold b_X8_isRight_99 at h
  refine g_iconst (pc := 99) (v := 0) K dX8_isRight_99 (by decide) ?_
  refine g_sub K [0, 1, 2, 3, 4] rfl ?_
  exact w_X8_isRight_100 K hT hrec42  _ _ _ _ _ _ _ _ _ h (by omega) (by omega)
def b_X8_isRight_71 (rec42 : Nat → Int32 → Int32 → Int32 → Int32 → Int32 → sw_S → Option (Int32 × sw_S)) (v0 : Nat) (v2 : Int32) (v3 : Int32) (v4 : Int32) (v6 : Int32) (t0 : Int32) (σ : sw_S) : Option (Int32 × sw_S) :=
  (sw_gR 8 v0 24 σ).bind fun r1 =>
  r1.bind fun a3 =>
  (sw_jl a3 v6 σ).bind fun x5 =>
  (sw_gR 8 v0 25 σ).bind fun r6 =>
  r6.bind fun a8 =>
  (sw_jl a8 v6 σ).bind fun x10 =>
  (f_X8_isLeft x5 x10 v2 v3 v4 σ).bind fun x12 =>
  (if t0 = x12 then
  b_X8_isRight_100 rec42 v0 v2 v3 v4 v6 1 σ
  else
  b_X8_isRight_99 rec42 v0 v2 v3 v4 v6 σ)
set_option maxHeartbeats 4000000 in
set_option maxRecDepth 100000 in
theorem w_X8_isRight_71 {p : Program} {l : Launch} {e : Env} {s : State} {m : MethodId} {args : Array Value} {below : List Frame} {meth : Method} {c : Code} {Q : State → Prop} {A : Nat → Prop} {D : va_G} {cT : Nat → ClassId} {r : Int32}  {σ' : sw_S}  (K : sw_C p s m args c cX8_isRight 7 RX8 A D cT) (hT : sw_Tz cX8_isRight p l e (sw_R 4 0 0 92) s m args below meth c Q 7 A D cT 0 0 σ' r) {rec42 : Nat → Int32 → Int32 → Int32 → Int32 → Int32 → sw_S → Option (Int32 × sw_S)} (hrec42 : ∀ (v0 : Nat) (v2 : Int32) (v3 : Int32) (v4 : Int32) (v5 : Int32) (v6 : Int32) (σ : sw_S) (ce sl : Nat), rec42 v0 v2 v3 v4 v5 v6 σ = some (r, σ') → ce + (0) ≤ 0 → sl + (0) ≤ 0 → sw_G p l e (sw_R 4 0 0 92) s m args below meth c Q 7 A D cT σ ce sl 42 [(0, P_ (some v0)), (2, I_ v2), (3, I_ v3), (4, I_ v4), (5, I_ v5), (6, I_ v6)] []) (v0 : Nat) (v2 : Int32) (v3 : Int32) (v4 : Int32) (v6 : Int32) (t0 : Int32) (σ : sw_S)  (ce sl : Nat) (h : b_X8_isRight_71 rec42 v0 v2 v3 v4 v6 t0 σ = some (r, σ')) (hce : ce + (0) ≤ 0) (hsl : sl + (0) ≤ 0) : sw_G p l e (sw_R 4 0 0 92) s m args below meth c Q 7 A D cT σ ce sl 71 [(0, P_ (some v0)), (2, I_ v2), (3, I_ v3), (4, I_ v4), (6, I_ v6)] [I_ t0] := by
  unfold b_X8_isRight_71 at h
  refine g_aload_n (pc := 71) K 0 rfl rfl dX8_isRight_71 ?_
  replace h := Option.bind_eq_some_iff.mp h
  obtain ⟨r1, e2, h⟩ := h
  refine g_getR (pc := 72) K cl_8 hin_X8 (k := 24) (by decide) tb_542 rfl e2 dX8_isRight_72 ?_
  refine g_iload (pc := 75) K 4 rfl dX8_isRight_75 ?_
  replace h := Option.bind_eq_some_iff.mp h
  obtain ⟨a3, rfl, h⟩ := h
  replace h := Option.bind_eq_some_iff.mp h
  obtain ⟨x5, e4, h⟩ := h
  refine g_jald (pc := 77) K e4 dX8_isRight_77 ?_
  refine g_aload_n (pc := 78) K 0 rfl rfl dX8_isRight_78 ?_
  replace h := Option.bind_eq_some_iff.mp h
  obtain ⟨r6, e7, h⟩ := h
  refine g_getR (pc := 79) K cl_8 hin_X8 (k := 25) (by decide) tb_543 rfl e7 dX8_isRight_79 ?_
  refine g_iload (pc := 82) K 4 rfl dX8_isRight_82 ?_
  replace h := Option.bind_eq_some_iff.mp h
  obtain ⟨a8, rfl, h⟩ := h
  replace h := Option.bind_eq_some_iff.mp h
  obtain ⟨x10, e9, h⟩ := h
  refine g_jald (pc := 84) K e9 dX8_isRight_84 ?_
  refine g_iload_n (pc := 85) K 1 rfl rfl dX8_isRight_85 ?_
  refine g_iload_n (pc := 86) K 2 rfl rfl dX8_isRight_86 ?_
  refine g_iload (pc := 87) K 3 rfl dX8_isRight_87 ?_
  replace h := Option.bind_eq_some_iff.mp h
  obtain ⟨x12, e11, h⟩ := h
  refine g_callS (pc := 89) (st := [I_ t0]) K [J_ x5, J_ x10, I_ v2, I_ v3, I_ v4] (c_X8_isLeft _ _ _ _ _ _ _ _ _ e11) tb_688 tb_686 tb_7 tb_687 hd_X8_isLeft ⟨Nat.le_of_ble_eq_true rfl, Nat.le_of_ble_eq_true rfl⟩ rfl (sw_rm (Nat.le_of_ble_eq_true rfl)) ⟨by show _ ≤ 0; omega, by show _ ≤ 0; omega⟩ dX8_isRight_89 ?_
  refine g_icmp_ne (pc := 92) K 99 dX8_isRight_92 (by decide) (fun c13 => ?_) (fun c13 => ?_)
  · replace h := (if_pos c13).symm.trans h
    refine g_iconst (pc := 95) (v := 1) K dX8_isRight_95 (by decide) ?_
    refine g_goto (pc := 96) (tgt := 100) K dX8_isRight_96 (by decide) ?_
    refine g_sub K [0, 1, 2, 3, 4] rfl ?_
    exact w_X8_isRight_100 K hT hrec42  _ _ _ _ _ _ _ _ _ h (by omega) (by omega)
  · replace h := (if_neg c13).symm.trans h
    refine g_sub K [0, 1, 2, 3, 4] rfl ?_
    exact w_X8_isRight_99 K hT hrec42  _ _ _ _ _ _ _ _ h (by omega) (by omega)
def B_X8_isRight_42 (rec42 : Nat → Int32 → Int32 → Int32 → Int32 → Int32 → sw_S → Option (Int32 × sw_S)) (v0 : Nat) (v2 : Int32) (v3 : Int32) (v4 : Int32) (v5 : Int32) (v6 : Int32) (σ : sw_S) : Option (Int32 × sw_S) :=
  (sw_gI 8 v0 16 σ).bind fun x1 =>
  (if x1 ≤ v6 then
  (sw_z v5).bind fun z4 =>
  some (z4, σ)
  else
  (if v5 = 0 then
  b_X8_isRight_99 rec42 v0 v2 v3 v4 v6 σ
  else
  (sw_gR 8 v0 17 σ).bind fun r8 =>
  r8.bind fun a10 =>
  (sw_al 0 a10 v6 σ).bind fun x12 =>
  (if x12 = 0 then
  b_X8_isRight_71 rec42 v0 v2 v3 v4 v6 1 σ
  else
  b_X8_isRight_71 rec42 v0 v2 v3 v4 v6 0 σ)))
set_option maxHeartbeats 4000000 in
set_option maxRecDepth 100000 in
theorem wB_X8_isRight_42 {p : Program} {l : Launch} {e : Env} {s : State} {m : MethodId} {args : Array Value} {below : List Frame} {meth : Method} {c : Code} {Q : State → Prop} {A : Nat → Prop} {D : va_G} {cT : Nat → ClassId} {r : Int32}  {σ' : sw_S}  (K : sw_C p s m args c cX8_isRight 7 RX8 A D cT) (hT : sw_Tz cX8_isRight p l e (sw_R 4 0 0 92) s m args below meth c Q 7 A D cT 0 0 σ' r) {rec42 : Nat → Int32 → Int32 → Int32 → Int32 → Int32 → sw_S → Option (Int32 × sw_S)} (hrec42 : ∀ (v0 : Nat) (v2 : Int32) (v3 : Int32) (v4 : Int32) (v5 : Int32) (v6 : Int32) (σ : sw_S) (ce sl : Nat), rec42 v0 v2 v3 v4 v5 v6 σ = some (r, σ') → ce + (0) ≤ 0 → sl + (0) ≤ 0 → sw_G p l e (sw_R 4 0 0 92) s m args below meth c Q 7 A D cT σ ce sl 42 [(0, P_ (some v0)), (2, I_ v2), (3, I_ v3), (4, I_ v4), (5, I_ v5), (6, I_ v6)] []) (v0 : Nat) (v2 : Int32) (v3 : Int32) (v4 : Int32) (v5 : Int32) (v6 : Int32) (σ : sw_S)  (ce sl : Nat) (h : B_X8_isRight_42 rec42 v0 v2 v3 v4 v5 v6 σ = some (r, σ')) (hce : ce + (0) ≤ 0) (hsl : sl + (0) ≤ 0) : sw_G p l e (sw_R 4 0 0 92) s m args below meth c Q 7 A D cT σ ce sl 42 [(0, P_ (some v0)), (2, I_ v2), (3, I_ v3), (4, I_ v4), (5, I_ v5), (6, I_ v6)] [] := by
  unfold B_X8_isRight_42 at h
  refine g_iload (pc := 42) K 5 rfl dX8_isRight_42 ?_
  refine g_aload_n (pc := 44) K 0 rfl rfl dX8_isRight_44 ?_
  replace h := Option.bind_eq_some_iff.mp h
  obtain ⟨x1, e2, h⟩ := h
  refine g_getI (pc := 45) K cl_8 hin_X8 (k := 16) (by decide) tb_534 rfl e2 dX8_isRight_45 ?_
  refine g_icmp_ge (pc := 48) K 108 dX8_isRight_48 (by decide) (fun c3 => ?_) (fun c3 => ?_)
  · replace h := (if_pos c3).symm.trans h
    refine g_iload (pc := 108) K 4 rfl dX8_isRight_108 ?_
    replace h := Option.bind_eq_some_iff.mp h
    obtain ⟨z4, e5, h⟩ := h
    obtain ⟨rfl, e6⟩ := sw_z_eq e5
    cases h
    exact hT _ _ 110 _ (by omega) (by omega) e6.1 dX8_isRight_110
  · replace h := (if_neg c3).symm.trans h
    refine g_iload (pc := 51) K 4 rfl dX8_isRight_51 ?_
    refine g_if_eq (pc := 53) K 99 dX8_isRight_53 (by decide) (fun c7 => ?_) (fun c7 => ?_)
    · replace h := (if_pos c7).symm.trans h
      refine g_sub K [0, 1, 2, 3, 5] rfl ?_
      exact w_X8_isRight_99 K hT hrec42  _ _ _ _ _ _ _ _ h (by omega) (by omega)
    · replace h := (if_neg c7).symm.trans h
      refine g_aload_n (pc := 56) K 0 rfl rfl dX8_isRight_56 ?_
      replace h := Option.bind_eq_some_iff.mp h
      obtain ⟨r8, e9, h⟩ := h
      refine g_getR (pc := 57) K cl_8 hin_X8 (k := 17) (by decide) tb_535 rfl e9 dX8_isRight_57 ?_
      refine g_iload (pc := 60) K 5 rfl dX8_isRight_60 ?_
      replace h := Option.bind_eq_some_iff.mp h
      obtain ⟨a10, rfl, h⟩ := h
      replace h := Option.bind_eq_some_iff.mp h
      obtain ⟨x12, e11, h⟩ := h
      refine g_iald (pc := 62) K e11 dX8_isRight_62 ?_
      refine g_if_ne (pc := 63) K 70 dX8_isRight_63 (by decide) (fun c13 => ?_) (fun c13 => ?_)
      · replace h := (if_pos c13).symm.trans h
        refine g_iconst (pc := 66) (v := 1) K dX8_isRight_66 (by decide) ?_
        refine g_goto (pc := 67) (tgt := 71) K dX8_isRight_67 (by decide) ?_
        refine g_sub K [0, 1, 2, 3, 5] rfl ?_
        exact w_X8_isRight_71 K hT hrec42  _ _ _ _ _ _ _ _ _ h (by omega) (by omega)
      · replace h := (if_neg c13).symm.trans h
        refine g_iconst (pc := 70) (v := 0) K dX8_isRight_70 (by decide) ?_
        refine g_sub K [0, 1, 2, 3, 5] rfl ?_
        exact w_X8_isRight_71 K hT hrec42  _ _ _ _ _ _ _ _ _ h (by omega) (by omega)
def b_X8_isRight_42  : Nat → Nat → Int32 → Int32 → Int32 → Int32 → Int32 → sw_S → Option (Int32 × sw_S)
  | 0 => fun _ _ _ _ _ _ _ => none
  | n + 1 => B_X8_isRight_42 (b_X8_isRight_42  n)
theorem wl_X8_isRight_42 {p : Program} {l : Launch} {e : Env} {s : State} {m : MethodId} {args : Array Value} {below : List Frame} {meth : Method} {c : Code} {Q : State → Prop} {A : Nat → Prop} {D : va_G} {cT : Nat → ClassId} {r : Int32}  {σ' : sw_S}  (K : sw_C p s m args c cX8_isRight 7 RX8 A D cT) (hT : sw_Tz cX8_isRight p l e (sw_R 4 0 0 92) s m args below meth c Q 7 A D cT 0 0 σ' r) : ∀ (n : Nat) (v0 : Nat) (v2 : Int32) (v3 : Int32) (v4 : Int32) (v5 : Int32) (v6 : Int32) (σ : sw_S) (ce sl : Nat), b_X8_isRight_42  n v0 v2 v3 v4 v5 v6 σ = some (r, σ') → ce + (0) ≤ 0 → sl + (0) ≤ 0 → sw_G p l e (sw_R 4 0 0 92) s m args below meth c Q 7 A D cT σ ce sl 42 [(0, P_ (some v0)), (2, I_ v2), (3, I_ v3), (4, I_ v4), (5, I_ v5), (6, I_ v6)] [] := by
  intro n
  induction n with
  | zero =>
    intro v0 v2 v3 v4 v5 v6 σ ce sl h
    exact absurd (show none = some (r, σ') from h) (by simp)
  | succ n ih =>
    intro v0 v2 v3 v4 v5 v6 σ ce sl h hce hsl
    exact wB_X8_isRight_42 K hT (fun _ _ _ _ _ _ _ _ _ h h1 h2 => ih _ _ _ _ _ _ _ _ _ h h1 h2) _ _ _ _ _ _ _ _ _ h hce hsl
def b_X8_isRight_37 (v0 : Nat) (v2 : Int32) (v3 : Int32) (v4 : Int32) (t0 : Int32) (σ : sw_S) : Option (Int32 × sw_S) :=
  b_X8_isRight_42 1000 v0 v2 v3 v4 t0 1 σ
set_option maxHeartbeats 4000000 in
set_option maxRecDepth 100000 in
theorem w_X8_isRight_37 {p : Program} {l : Launch} {e : Env} {s : State} {m : MethodId} {args : Array Value} {below : List Frame} {meth : Method} {c : Code} {Q : State → Prop} {A : Nat → Prop} {D : va_G} {cT : Nat → ClassId} {r : Int32}  {σ' : sw_S}  (K : sw_C p s m args c cX8_isRight 7 RX8 A D cT) (hT : sw_Tz cX8_isRight p l e (sw_R 4 0 0 92) s m args below meth c Q 7 A D cT 0 0 σ' r) (v0 : Nat) (v2 : Int32) (v3 : Int32) (v4 : Int32) (t0 : Int32) (σ : sw_S)  (ce sl : Nat) (h : b_X8_isRight_37 v0 v2 v3 v4 t0 σ = some (r, σ')) (hce : ce + (0) ≤ 0) (hsl : sl + (0) ≤ 0) : sw_G p l e (sw_R 4 0 0 92) s m args below meth c Q 7 A D cT σ ce sl 37 [(0, P_ (some v0)), (2, I_ v2), (3, I_ v3), (4, I_ v4)] [I_ t0] := by
  unfold b_X8_isRight_37 at h
  refine g_istore (pc := 37) K [(5, I_ t0), (0, P_ (some v0)), (2, I_ v2), (3, I_ v3), (4, I_ v4)] (by decide) rfl dX8_isRight_37 ?_
  refine g_iconst (pc := 39) (v := 1) K dX8_isRight_39 (by decide) ?_
  refine g_istore (pc := 40) K [(6, I_ 1), (5, I_ t0), (0, P_ (some v0)), (2, I_ v2), (3, I_ v3), (4, I_ v4)] (by decide) rfl dX8_isRight_40 ?_
  refine g_sub K [2, 3, 4, 5, 1, 0] rfl ?_
  exact wl_X8_isRight_42 K hT  1000 _ _ _ _ _ _ _ _ _ h (by omega) (by omega)
def b_X8_isRight_12 (σ : sw_S) : Option (Int32 × sw_S) :=
  some (0, σ)
set_option maxHeartbeats 4000000 in
set_option maxRecDepth 100000 in
theorem w_X8_isRight_12 {p : Program} {l : Launch} {e : Env} {s : State} {m : MethodId} {args : Array Value} {below : List Frame} {meth : Method} {c : Code} {Q : State → Prop} {A : Nat → Prop} {D : va_G} {cT : Nat → ClassId} {r : Int32}  {σ' : sw_S}  (K : sw_C p s m args c cX8_isRight 7 RX8 A D cT) (hT : sw_Tz cX8_isRight p l e (sw_R 4 0 0 92) s m args below meth c Q 7 A D cT 0 0 σ' r) (σ : sw_S)  (ce sl : Nat) (h : b_X8_isRight_12  σ = some (r, σ')) (hce : ce + (0) ≤ 0) (hsl : sl + (0) ≤ 0) : sw_G p l e (sw_R 4 0 0 92) s m args below meth c Q 7 A D cT σ ce sl 12 [] [] := by
  unfold b_X8_isRight_12 at h
  refine g_iconst (pc := 12) (v := 0) K dX8_isRight_12 (by decide) ?_
  cases h
  exact hT _ _ 13 _ (by omega) (by omega) rfl dX8_isRight_13
def f_X8_isRight (p0 : Nat) (q1 : Int32) (q2 : Int32) (q3 : Int32) (q4 : Int32) (σ : sw_S) : Option (Int32 × sw_S) :=
  (if q3 < q2 then
  b_X8_isRight_12 σ
  else
  (sw_ob 8 p0 σ).bind fun f2 =>
  sw_b2 (f_X8_read p0 σ) fun x5 σ6 =>
  (if x5 = 0 then
  b_X8_isRight_12 σ6
  else
  (sw_ob 8 p0 σ6).bind fun f8 =>
  (f_X8_sums p0 σ6).bind fun σ11 =>
  (sw_ob 8 p0 σ11).bind fun f12 =>
  (f_X8_spans p0 σ11).bind fun σ15 =>
  (sw_gR 8 p0 22 σ15).bind fun r16 =>
  r16.bind fun a18 =>
  (sw_al 0 a18 0 σ15).bind fun x20 =>
  (if x20 = q1 then
  b_X8_isRight_37 p0 q2 q3 q4 1 σ15
  else
  b_X8_isRight_37 p0 q2 q3 q4 0 σ15)))
set_option maxHeartbeats 4000000 in
set_option maxRecDepth 100000 in
theorem c_X8_isRight  (l : Launch) (D : va_G) (cT : Nat → ClassId) (p0 : Nat) (q1 : Int32) (q2 : Int32) (q3 : Int32) (q4 : Int32) (σ : sw_S) {r : Int32} {σ' : sw_S} (h : f_X8_isRight p0 q1 q2 q3 q4 σ = some (r, σ')) : sw_M l D cT yX8_isRight cX8_isRight 7 (some .boolean) 4 92 0 0 σ [P_ (some p0), I_ q1, I_ q2, I_ q3, I_ q4] (some (I_ r)) σ' := by
  refine sw_met_z (by decide) (Nat.le_of_ble_eq_true rfl) (fun p e s m args below meth c A Q K hnm hT => ?_)
  have hce : 0 + 0 ≤ 0 := Nat.le_of_ble_eq_true rfl
  have hsl : 0 + 0 ≤ 0 := Nat.le_of_ble_eq_true rfl
  unfold f_X8_isRight at h
  change sw_G p l e (sw_R 4 0 0 92) s m args below meth c Q 7 A D cT σ 0 0 0 [(0, P_ (some p0)), (1, I_ q1), (2, I_ q2), (3, I_ q3), (4, I_ q4)] []
  refine g_iload_n (pc := 0) K 2 rfl rfl dX8_isRight_0 ?_
  refine g_iload_n (pc := 1) K 3 rfl rfl dX8_isRight_1 ?_
  refine g_icmp_gt (pc := 2) K 12 dX8_isRight_2 (by decide) (fun c1 => ?_) (fun c1 => ?_)
  · replace h := (if_pos c1).symm.trans h
    refine g_sub K [] rfl ?_
    exact w_X8_isRight_12 K hT   _ _ _ h (by omega) (by omega)
  · replace h := (if_neg c1).symm.trans h
    refine g_aload_n (pc := 5) K 0 rfl rfl dX8_isRight_5 ?_
    replace h := Option.bind_eq_some_iff.mp h
    obtain ⟨f2, e3, h⟩ := h
    replace h := sw_b2_eq h
    obtain ⟨x5, σ6, e4, h⟩ := h
    refine g_callV (pc := 6) (st := []) K [] (c_X8_read _ _ _ _ _ e4) e3 cl_8 rfl tb_724 tb_721 tb_7 tb_723 sl_40 hd_X8_read ⟨Nat.le_of_ble_eq_true rfl, Nat.le_of_ble_eq_true rfl⟩ rfl (sw_rm (Nat.le_of_ble_eq_true rfl)) ⟨by show _ ≤ 0; omega, by show _ ≤ 0; omega⟩ dX8_isRight_6 ?_
    refine g_if_ne (pc := 9) K 14 dX8_isRight_9 (by decide) (fun c7 => ?_) (fun c7 => ?_)
    · replace h := (if_pos c7).symm.trans h
      refine g_sub K [] rfl ?_
      exact w_X8_isRight_12 K hT   _ _ _ h (by omega) (by omega)
    · replace h := (if_neg c7).symm.trans h
      refine g_aload_n (pc := 14) K 0 rfl rfl dX8_isRight_14 ?_
      replace h := Option.bind_eq_some_iff.mp h
      obtain ⟨f8, e9, h⟩ := h
      replace h := Option.bind_eq_some_iff.mp h
      obtain ⟨σ11, e10, h⟩ := h
      refine g_callV (pc := 15) (st := []) K [] (c_X8_sums _ _ _ _ _ e10) e9 cl_8 rfl tb_760 tb_757 tb_7 tb_759 sl_49 hd_X8_sums ⟨Nat.le_of_ble_eq_true rfl, Nat.le_of_ble_eq_true rfl⟩ rfl (sw_rm (Nat.le_of_ble_eq_true rfl)) ⟨by show _ ≤ 0; omega, by show _ ≤ 0; omega⟩ dX8_isRight_15 ?_
      refine g_aload_n (pc := 18) K 0 rfl rfl dX8_isRight_18 ?_
      replace h := Option.bind_eq_some_iff.mp h
      obtain ⟨f12, e13, h⟩ := h
      replace h := Option.bind_eq_some_iff.mp h
      obtain ⟨σ15, e14, h⟩ := h
      refine g_callV (pc := 19) (st := []) K [] (c_X8_spans _ _ _ _ _ e14) e13 cl_8 rfl tb_768 tb_765 tb_7 tb_767 sl_51 hd_X8_spans ⟨Nat.le_of_ble_eq_true rfl, Nat.le_of_ble_eq_true rfl⟩ rfl (sw_rm (Nat.le_of_ble_eq_true rfl)) ⟨by show _ ≤ 0; omega, by show _ ≤ 0; omega⟩ dX8_isRight_19 ?_
      refine g_aload_n (pc := 22) K 0 rfl rfl dX8_isRight_22 ?_
      replace h := Option.bind_eq_some_iff.mp h
      obtain ⟨r16, e17, h⟩ := h
      refine g_getR (pc := 23) K cl_8 hin_X8 (k := 22) (by decide) tb_540 rfl e17 dX8_isRight_23 ?_
      refine g_iconst (pc := 26) (v := 0) K dX8_isRight_26 (by decide) ?_
      replace h := Option.bind_eq_some_iff.mp h
      obtain ⟨a18, rfl, h⟩ := h
      replace h := Option.bind_eq_some_iff.mp h
      obtain ⟨x20, e19, h⟩ := h
      refine g_iald (pc := 27) K e19 dX8_isRight_27 ?_
      refine g_iload_n (pc := 28) K 1 rfl rfl dX8_isRight_28 ?_
      refine g_icmp_ne (pc := 29) K 36 dX8_isRight_29 (by decide) (fun c21 => ?_) (fun c21 => ?_)
      · replace h := (if_pos c21).symm.trans h
        refine g_iconst (pc := 32) (v := 1) K dX8_isRight_32 (by decide) ?_
        refine g_goto (pc := 33) (tgt := 37) K dX8_isRight_33 (by decide) ?_
        refine g_sub K [0, 2, 3, 4] rfl ?_
        exact w_X8_isRight_37 K hT  _ _ _ _ _ _ _ _ h (by omega) (by omega)
      · replace h := (if_neg c21).symm.trans h
        refine g_iconst (pc := 36) (v := 0) K dX8_isRight_36 (by decide) ?_
        refine g_sub K [0, 2, 3, 4] rfl ?_
        exact w_X8_isRight_37 K hT  _ _ _ _ _ _ _ _ h (by omega) (by omega)

def b_X8_rows_118 (rec6 : Nat → Int32 → Int32 → Int32 → Int32 → Int32 → sw_S → Option (Int32 × sw_S)) (rec18 : Nat → Int32 → Int32 → Int32 → Int32 → Int32 → Int32 → sw_S → Option (Int32 × sw_S)) (v0 : Nat) (v1 : Int32) (v2 : Int32) (v3 : Int32) (v4 : Int32) (v5 : Int32) (v6 : Int32) (σ : sw_S) : Option (Int32 × sw_S) :=
  rec18 v0 v1 v2 v3 v4 v5 ((v6 + 1)) σ
set_option maxHeartbeats 4000000 in
set_option maxRecDepth 100000 in
theorem w_X8_rows_118 {p : Program} {l : Launch} {e : Env} {s : State} {m : MethodId} {args : Array Value} {below : List Frame} {meth : Method} {c : Code} {Q : State → Prop} {A : Nat → Prop} {D : va_G} {cT : Nat → ClassId} {r : Int32}  {σ' : sw_S}  (K : sw_C p s m args c cX8_rows 8 RX8 A D cT) (hT : sw_Ti cX8_rows p l e (sw_R 0 0 0 0) s m args below meth c Q 8 A D cT 0 0 σ' r) {rec6 : Nat → Int32 → Int32 → Int32 → Int32 → Int32 → sw_S → Option (Int32 × sw_S)} {rec18 : Nat → Int32 → Int32 → Int32 → Int32 → Int32 → Int32 → sw_S → Option (Int32 × sw_S)} (hrec6 : ∀ (v0 : Nat) (v1 : Int32) (v2 : Int32) (v3 : Int32) (v4 : Int32) (v5 : Int32) (σ : sw_S) (ce sl : Nat), rec6 v0 v1 v2 v3 v4 v5 σ = some (r, σ') → ce + (0) ≤ 0 → sl + (0) ≤ 0 → sw_G p l e (sw_R 0 0 0 0) s m args below meth c Q 8 A D cT σ ce sl 6 [(0, P_ (some v0)), (1, I_ v1), (2, I_ v2), (3, I_ v3), (4, I_ v4), (5, I_ v5)] []) (hrec18 : ∀ (v0 : Nat) (v1 : Int32) (v2 : Int32) (v3 : Int32) (v4 : Int32) (v5 : Int32) (v6 : Int32) (σ : sw_S) (ce sl : Nat), rec18 v0 v1 v2 v3 v4 v5 v6 σ = some (r, σ') → ce + (0) ≤ 0 → sl + (0) ≤ 0 → sw_G p l e (sw_R 0 0 0 0) s m args below meth c Q 8 A D cT σ ce sl 18 [(0, P_ (some v0)), (1, I_ v1), (2, I_ v2), (3, I_ v3), (4, I_ v4), (5, I_ v5), (6, I_ v6)] []) (v0 : Nat) (v1 : Int32) (v2 : Int32) (v3 : Int32) (v4 : Int32) (v5 : Int32) (v6 : Int32) (σ : sw_S)  (ce sl : Nat) (h : b_X8_rows_118 rec6 rec18 v0 v1 v2 v3 v4 v5 v6 σ = some (r, σ')) (hce : ce + (0) ≤ 0) (hsl : sl + (0) ≤ 0) : sw_G p l e (sw_R 0 0 0 0) s m args below meth c Q 8 A D cT σ ce sl 118 [(0, P_ (some v0)), (1, I_ v1), (2, I_ v2), (3, I_ v3), (4, I_ v4), (5, I_ v5), (6, I_ v6)] [] := by
  unfold b_X8_rows_118 at h
  refine g_iinc (pc := 118) K 6 (v6 + 1) [(6, I_ ((v6 + 1))), (0, P_ (some v0)), (1, I_ v1), (2, I_ v2), (3, I_ v3), (4, I_ v4), (5, I_ v5)] rfl rfl (by decide) rfl dX8_rows_118 ?_
  refine g_goto (pc := 121) (tgt := 18) K dX8_rows_121 (by decide) ?_
  refine g_sub K [1, 2, 3, 4, 5, 6, 0] rfl ?_
  exact hrec18 _ _ _ _ _ _ _ _ _ _ h (by omega) (by omega)
def b_X8_rows_115 (rec6 : Nat → Int32 → Int32 → Int32 → Int32 → Int32 → sw_S → Option (Int32 × sw_S)) (rec18 : Nat → Int32 → Int32 → Int32 → Int32 → Int32 → Int32 → sw_S → Option (Int32 × sw_S)) (v0 : Nat) (v1 : Int32) (v2 : Int32) (v3 : Int32) (v4 : Int32) (v5 : Int32) (v6 : Int32) (σ : sw_S) : Option (Int32 × sw_S) :=
  b_X8_rows_118 rec6 rec18 v0 v1 v2 v3 ((v4 + 1)) v5 v6 σ
set_option maxHeartbeats 4000000 in
set_option maxRecDepth 100000 in
theorem w_X8_rows_115 {p : Program} {l : Launch} {e : Env} {s : State} {m : MethodId} {args : Array Value} {below : List Frame} {meth : Method} {c : Code} {Q : State → Prop} {A : Nat → Prop} {D : va_G} {cT : Nat → ClassId} {r : Int32}  {σ' : sw_S}  (K : sw_C p s m args c cX8_rows 8 RX8 A D cT) (hT : sw_Ti cX8_rows p l e (sw_R 0 0 0 0) s m args below meth c Q 8 A D cT 0 0 σ' r) {rec6 : Nat → Int32 → Int32 → Int32 → Int32 → Int32 → sw_S → Option (Int32 × sw_S)} {rec18 : Nat → Int32 → Int32 → Int32 → Int32 → Int32 → Int32 → sw_S → Option (Int32 × sw_S)} (hrec6 : ∀ (v0 : Nat) (v1 : Int32) (v2 : Int32) (v3 : Int32) (v4 : Int32) (v5 : Int32) (σ : sw_S) (ce sl : Nat), rec6 v0 v1 v2 v3 v4 v5 σ = some (r, σ') → ce + (0) ≤ 0 → sl + (0) ≤ 0 → sw_G p l e (sw_R 0 0 0 0) s m args below meth c Q 8 A D cT σ ce sl 6 [(0, P_ (some v0)), (1, I_ v1), (2, I_ v2), (3, I_ v3), (4, I_ v4), (5, I_ v5)] []) (hrec18 : ∀ (v0 : Nat) (v1 : Int32) (v2 : Int32) (v3 : Int32) (v4 : Int32) (v5 : Int32) (v6 : Int32) (σ : sw_S) (ce sl : Nat), rec18 v0 v1 v2 v3 v4 v5 v6 σ = some (r, σ') → ce + (0) ≤ 0 → sl + (0) ≤ 0 → sw_G p l e (sw_R 0 0 0 0) s m args below meth c Q 8 A D cT σ ce sl 18 [(0, P_ (some v0)), (1, I_ v1), (2, I_ v2), (3, I_ v3), (4, I_ v4), (5, I_ v5), (6, I_ v6)] []) (v0 : Nat) (v1 : Int32) (v2 : Int32) (v3 : Int32) (v4 : Int32) (v5 : Int32) (v6 : Int32) (σ : sw_S)  (ce sl : Nat) (h : b_X8_rows_115 rec6 rec18 v0 v1 v2 v3 v4 v5 v6 σ = some (r, σ')) (hce : ce + (0) ≤ 0) (hsl : sl + (0) ≤ 0) : sw_G p l e (sw_R 0 0 0 0) s m args below meth c Q 8 A D cT σ ce sl 115 [(0, P_ (some v0)), (1, I_ v1), (2, I_ v2), (3, I_ v3), (4, I_ v4), (5, I_ v5), (6, I_ v6)] [] := by
  unfold b_X8_rows_115 at h
  refine g_iinc (pc := 115) K 4 (v4 + 1) [(4, I_ ((v4 + 1))), (0, P_ (some v0)), (1, I_ v1), (2, I_ v2), (3, I_ v3), (5, I_ v5), (6, I_ v6)] rfl rfl (by decide) rfl dX8_rows_115 ?_
  refine g_sub K [1, 2, 3, 4, 0, 5, 6] rfl ?_
  exact w_X8_rows_118 K hT hrec6 hrec18  _ _ _ _ _ _ _ _ _ _ h (by omega) (by omega)
def b_X8_rows_42 (rec6 : Nat → Int32 → Int32 → Int32 → Int32 → Int32 → sw_S → Option (Int32 × sw_S)) (rec18 : Nat → Int32 → Int32 → Int32 → Int32 → Int32 → Int32 → sw_S → Option (Int32 × sw_S)) (v0 : Nat) (v1 : Int32) (v2 : Int32) (v3 : Int32) (v4 : Int32) (v5 : Int32) (v6 : Int32) (t0 : Int32) (t1 : Int32) (σ : sw_S) : Option (Int32 × sw_S) :=
  (if t0 ≤ t1 then
  rec6 v0 v1 v2 v3 v4 ((v5 + 1)) σ
  else
  (sw_gR 8 v0 11 σ).bind fun r2 =>
  (sw_gR 8 v0 20 σ).bind fun r4 =>
  r4.bind fun a6 =>
  (sw_al 0 a6 v5 σ).bind fun x8 =>
  r2.bind fun a9 =>
  (sw_al 0 a9 ((x8 + ((2 * v6)))) σ).bind fun x11 =>
  (if x11 < v1 then
  b_X8_rows_118 rec6 rec18 v0 v1 v2 v3 v4 v5 v6 σ
  else
  (if v2 < x11 then
  b_X8_rows_118 rec6 rec18 v0 v1 v2 v3 v4 v5 v6 σ
  else
  (if v3 = 0 then
  b_X8_rows_115 rec6 rec18 v0 v1 v2 v3 v4 v5 v6 σ
  else
  (sw_gR 8 v0 30 σ).bind fun r15 =>
  r15.bind fun a17 =>
  (sw_as 0 a17 v4 x11 σ).bind fun σ19 =>
  (sw_gR 8 v0 31 σ19).bind fun r20 =>
  (sw_gR 8 v0 11 σ19).bind fun r22 =>
  (sw_gR 8 v0 20 σ19).bind fun r24 =>
  r24.bind fun a26 =>
  (sw_al 0 a26 v5 σ19).bind fun x28 =>
  r22.bind fun a29 =>
  (sw_al 0 a29 ((((x28 + ((2 * v6)))) + 1)) σ19).bind fun x31 =>
  r20.bind fun a32 =>
  (sw_as 0 a32 v4 x31 σ19).bind fun σ34 =>
  b_X8_rows_115 rec6 rec18 v0 v1 v2 v3 v4 v5 v6 σ34))))
set_option maxHeartbeats 4000000 in
set_option maxRecDepth 100000 in
theorem w_X8_rows_42 {p : Program} {l : Launch} {e : Env} {s : State} {m : MethodId} {args : Array Value} {below : List Frame} {meth : Method} {c : Code} {Q : State → Prop} {A : Nat → Prop} {D : va_G} {cT : Nat → ClassId} {r : Int32}  {σ' : sw_S}  (K : sw_C p s m args c cX8_rows 8 RX8 A D cT) (hT : sw_Ti cX8_rows p l e (sw_R 0 0 0 0) s m args below meth c Q 8 A D cT 0 0 σ' r) {rec6 : Nat → Int32 → Int32 → Int32 → Int32 → Int32 → sw_S → Option (Int32 × sw_S)} {rec18 : Nat → Int32 → Int32 → Int32 → Int32 → Int32 → Int32 → sw_S → Option (Int32 × sw_S)} (hrec6 : ∀ (v0 : Nat) (v1 : Int32) (v2 : Int32) (v3 : Int32) (v4 : Int32) (v5 : Int32) (σ : sw_S) (ce sl : Nat), rec6 v0 v1 v2 v3 v4 v5 σ = some (r, σ') → ce + (0) ≤ 0 → sl + (0) ≤ 0 → sw_G p l e (sw_R 0 0 0 0) s m args below meth c Q 8 A D cT σ ce sl 6 [(0, P_ (some v0)), (1, I_ v1), (2, I_ v2), (3, I_ v3), (4, I_ v4), (5, I_ v5)] []) (hrec18 : ∀ (v0 : Nat) (v1 : Int32) (v2 : Int32) (v3 : Int32) (v4 : Int32) (v5 : Int32) (v6 : Int32) (σ : sw_S) (ce sl : Nat), rec18 v0 v1 v2 v3 v4 v5 v6 σ = some (r, σ') → ce + (0) ≤ 0 → sl + (0) ≤ 0 → sw_G p l e (sw_R 0 0 0 0) s m args below meth c Q 8 A D cT σ ce sl 18 [(0, P_ (some v0)), (1, I_ v1), (2, I_ v2), (3, I_ v3), (4, I_ v4), (5, I_ v5), (6, I_ v6)] []) (v0 : Nat) (v1 : Int32) (v2 : Int32) (v3 : Int32) (v4 : Int32) (v5 : Int32) (v6 : Int32) (t0 : Int32) (t1 : Int32) (σ : sw_S)  (ce sl : Nat) (h : b_X8_rows_42 rec6 rec18 v0 v1 v2 v3 v4 v5 v6 t0 t1 σ = some (r, σ')) (hce : ce + (0) ≤ 0) (hsl : sl + (0) ≤ 0) : sw_G p l e (sw_R 0 0 0 0) s m args below meth c Q 8 A D cT σ ce sl 42 [(0, P_ (some v0)), (1, I_ v1), (2, I_ v2), (3, I_ v3), (4, I_ v4), (5, I_ v5), (6, I_ v6)] [I_ t0, I_ t1] := by
  unfold b_X8_rows_42 at h
  refine g_icmp_ge (pc := 42) K 124 dX8_rows_42 (by decide) (fun c1 => ?_) (fun c1 => ?_)
  · replace h := (if_pos c1).symm.trans h
    refine g_iinc (pc := 124) K 5 (v5 + 1) [(5, I_ ((v5 + 1))), (0, P_ (some v0)), (1, I_ v1), (2, I_ v2), (3, I_ v3), (4, I_ v4), (6, I_ v6)] rfl rfl (by decide) rfl dX8_rows_124 ?_
    refine g_goto (pc := 127) (tgt := 6) K dX8_rows_127 (by decide) ?_
    refine g_sub K [1, 2, 3, 4, 5, 0] rfl ?_
    exact hrec6 _ _ _ _ _ _ _ _ _ h (by omega) (by omega)
  · replace h := (if_neg c1).symm.trans h
    refine g_aload_n (pc := 45) K 0 rfl rfl dX8_rows_45 ?_
    replace h := Option.bind_eq_some_iff.mp h
    obtain ⟨r2, e3, h⟩ := h
    refine g_getR (pc := 46) K cl_8 hin_X8 (k := 11) (by decide) tb_529 rfl e3 dX8_rows_46 ?_
    refine g_aload_n (pc := 49) K 0 rfl rfl dX8_rows_49 ?_
    replace h := Option.bind_eq_some_iff.mp h
    obtain ⟨r4, e5, h⟩ := h
    refine g_getR (pc := 50) K cl_8 hin_X8 (k := 20) (by decide) tb_538 rfl e5 dX8_rows_50 ?_
    refine g_iload (pc := 53) K 5 rfl dX8_rows_53 ?_
    replace h := Option.bind_eq_some_iff.mp h
    obtain ⟨a6, rfl, h⟩ := h
    replace h := Option.bind_eq_some_iff.mp h
    obtain ⟨x8, e7, h⟩ := h
    refine g_iald (pc := 55) K e7 dX8_rows_55 ?_
    refine g_iconst (pc := 56) (v := 2) K dX8_rows_56 (by decide) ?_
    refine g_iload (pc := 57) K 6 rfl dX8_rows_57 ?_
    refine g_imul (pc := 59) K dX8_rows_59 ?_
    refine g_iadd (pc := 60) K dX8_rows_60 ?_
    replace h := Option.bind_eq_some_iff.mp h
    obtain ⟨a9, rfl, h⟩ := h
    replace h := Option.bind_eq_some_iff.mp h
    obtain ⟨x11, e10, h⟩ := h
    refine g_iald (pc := 61) K e10 dX8_rows_61 ?_
    refine g_istore (pc := 62) K [(7, I_ x11), (0, P_ (some v0)), (1, I_ v1), (2, I_ v2), (3, I_ v3), (4, I_ v4), (5, I_ v5), (6, I_ v6)] (by decide) rfl dX8_rows_62 ?_
    refine g_iload (pc := 64) K 0 rfl dX8_rows_64 ?_
    refine g_iload_n (pc := 66) K 2 rfl rfl dX8_rows_66 ?_
    refine g_icmp_lt (pc := 67) K 118 dX8_rows_67 (by decide) (fun c12 => ?_) (fun c12 => ?_)
    · replace h := (if_pos c12).symm.trans h
      refine g_sub K [1, 2, 3, 4, 5, 6, 7] rfl ?_
      exact w_X8_rows_118 K hT hrec6 hrec18  _ _ _ _ _ _ _ _ _ _ h (by omega) (by omega)
    · replace h := (if_neg c12).symm.trans h
      refine g_iload (pc := 70) K 0 rfl dX8_rows_70 ?_
      refine g_iload_n (pc := 72) K 3 rfl rfl dX8_rows_72 ?_
      refine g_icmp_gt (pc := 73) K 118 dX8_rows_73 (by decide) (fun c13 => ?_) (fun c13 => ?_)
      · replace h := (if_pos c13).symm.trans h
        refine g_sub K [1, 2, 3, 4, 5, 6, 7] rfl ?_
        exact w_X8_rows_118 K hT hrec6 hrec18  _ _ _ _ _ _ _ _ _ _ h (by omega) (by omega)
      · replace h := (if_neg c13).symm.trans h
        refine g_iload_n (pc := 76) K 4 rfl rfl dX8_rows_76 ?_
        refine g_if_eq (pc := 77) K 115 dX8_rows_77 (by decide) (fun c14 => ?_) (fun c14 => ?_)
        · replace h := (if_pos c14).symm.trans h
          refine g_sub K [1, 2, 3, 4, 5, 6, 7] rfl ?_
          exact w_X8_rows_115 K hT hrec6 hrec18  _ _ _ _ _ _ _ _ _ _ h (by omega) (by omega)
        · replace h := (if_neg c14).symm.trans h
          refine g_aload_n (pc := 80) K 1 rfl rfl dX8_rows_80 ?_
          replace h := Option.bind_eq_some_iff.mp h
          obtain ⟨r15, e16, h⟩ := h
          refine g_getR (pc := 81) K cl_8 hin_X8 (k := 30) (by decide) tb_548 rfl e16 dX8_rows_81 ?_
          refine g_iload (pc := 84) K 5 rfl dX8_rows_84 ?_
          refine g_iload (pc := 86) K 0 rfl dX8_rows_86 ?_
          replace h := Option.bind_eq_some_iff.mp h
          obtain ⟨a17, rfl, h⟩ := h
          replace h := Option.bind_eq_some_iff.mp h
          obtain ⟨σ19, e18, h⟩ := h
          refine g_iast (pc := 88) K e18 dX8_rows_88 ?_
          refine g_aload_n (pc := 89) K 1 rfl rfl dX8_rows_89 ?_
          replace h := Option.bind_eq_some_iff.mp h
          obtain ⟨r20, e21, h⟩ := h
          refine g_getR (pc := 90) K cl_8 hin_X8 (k := 31) (by decide) tb_549 rfl e21 dX8_rows_90 ?_
          refine g_iload (pc := 93) K 5 rfl dX8_rows_93 ?_
          refine g_aload_n (pc := 95) K 1 rfl rfl dX8_rows_95 ?_
          replace h := Option.bind_eq_some_iff.mp h
          obtain ⟨r22, e23, h⟩ := h
          refine g_getR (pc := 96) K cl_8 hin_X8 (k := 11) (by decide) tb_529 rfl e23 dX8_rows_96 ?_
          refine g_aload_n (pc := 99) K 1 rfl rfl dX8_rows_99 ?_
          replace h := Option.bind_eq_some_iff.mp h
          obtain ⟨r24, e25, h⟩ := h
          refine g_getR (pc := 100) K cl_8 hin_X8 (k := 20) (by decide) tb_538 rfl e25 dX8_rows_100 ?_
          refine g_iload (pc := 103) K 6 rfl dX8_rows_103 ?_
          replace h := Option.bind_eq_some_iff.mp h
          obtain ⟨a26, rfl, h⟩ := h
          replace h := Option.bind_eq_some_iff.mp h
          obtain ⟨x28, e27, h⟩ := h
          refine g_iald (pc := 105) K e27 dX8_rows_105 ?_
          refine g_iconst (pc := 106) (v := 2) K dX8_rows_106 (by decide) ?_
          refine g_iload (pc := 107) K 7 rfl dX8_rows_107 ?_
          refine g_imul (pc := 109) K dX8_rows_109 ?_
          refine g_iadd (pc := 110) K dX8_rows_110 ?_
          refine g_iconst (pc := 111) (v := 1) K dX8_rows_111 (by decide) ?_
          refine g_iadd (pc := 112) K dX8_rows_112 ?_
          replace h := Option.bind_eq_some_iff.mp h
          obtain ⟨a29, rfl, h⟩ := h
          replace h := Option.bind_eq_some_iff.mp h
          obtain ⟨x31, e30, h⟩ := h
          refine g_iald (pc := 113) K e30 dX8_rows_113 ?_
          replace h := Option.bind_eq_some_iff.mp h
          obtain ⟨a32, rfl, h⟩ := h
          replace h := Option.bind_eq_some_iff.mp h
          obtain ⟨σ34, e33, h⟩ := h
          refine g_iast (pc := 114) K e33 dX8_rows_114 ?_
          refine g_sub K [1, 2, 3, 4, 5, 6, 7] rfl ?_
          exact w_X8_rows_115 K hT hrec6 hrec18  _ _ _ _ _ _ _ _ _ _ h (by omega) (by omega)
def B_X8_rows_18 (rec6 : Nat → Int32 → Int32 → Int32 → Int32 → Int32 → sw_S → Option (Int32 × sw_S)) (rec18 : Nat → Int32 → Int32 → Int32 → Int32 → Int32 → Int32 → sw_S → Option (Int32 × sw_S)) (v0 : Nat) (v1 : Int32) (v2 : Int32) (v3 : Int32) (v4 : Int32) (v5 : Int32) (v6 : Int32) (σ : sw_S) : Option (Int32 × sw_S) :=
  (sw_gR 8 v0 17 σ).bind fun r1 =>
  r1.bind fun a3 =>
  (sw_al 0 a3 v5 σ).bind fun x5 =>
  (if x5 = 1 then
  (sw_gR 8 v0 19 σ).bind fun r7 =>
  r7.bind fun a9 =>
  (sw_al 0 a9 v5 σ).bind fun x11 =>
  b_X8_rows_42 rec6 rec18 v0 v1 v2 v3 v4 v5 v6 x11 v6 σ
  else
  b_X8_rows_42 rec6 rec18 v0 v1 v2 v3 v4 v5 v6 0 v6 σ)
set_option maxHeartbeats 4000000 in
set_option maxRecDepth 100000 in
theorem wB_X8_rows_18 {p : Program} {l : Launch} {e : Env} {s : State} {m : MethodId} {args : Array Value} {below : List Frame} {meth : Method} {c : Code} {Q : State → Prop} {A : Nat → Prop} {D : va_G} {cT : Nat → ClassId} {r : Int32}  {σ' : sw_S}  (K : sw_C p s m args c cX8_rows 8 RX8 A D cT) (hT : sw_Ti cX8_rows p l e (sw_R 0 0 0 0) s m args below meth c Q 8 A D cT 0 0 σ' r) {rec6 : Nat → Int32 → Int32 → Int32 → Int32 → Int32 → sw_S → Option (Int32 × sw_S)} {rec18 : Nat → Int32 → Int32 → Int32 → Int32 → Int32 → Int32 → sw_S → Option (Int32 × sw_S)} (hrec6 : ∀ (v0 : Nat) (v1 : Int32) (v2 : Int32) (v3 : Int32) (v4 : Int32) (v5 : Int32) (σ : sw_S) (ce sl : Nat), rec6 v0 v1 v2 v3 v4 v5 σ = some (r, σ') → ce + (0) ≤ 0 → sl + (0) ≤ 0 → sw_G p l e (sw_R 0 0 0 0) s m args below meth c Q 8 A D cT σ ce sl 6 [(0, P_ (some v0)), (1, I_ v1), (2, I_ v2), (3, I_ v3), (4, I_ v4), (5, I_ v5)] []) (hrec18 : ∀ (v0 : Nat) (v1 : Int32) (v2 : Int32) (v3 : Int32) (v4 : Int32) (v5 : Int32) (v6 : Int32) (σ : sw_S) (ce sl : Nat), rec18 v0 v1 v2 v3 v4 v5 v6 σ = some (r, σ') → ce + (0) ≤ 0 → sl + (0) ≤ 0 → sw_G p l e (sw_R 0 0 0 0) s m args below meth c Q 8 A D cT σ ce sl 18 [(0, P_ (some v0)), (1, I_ v1), (2, I_ v2), (3, I_ v3), (4, I_ v4), (5, I_ v5), (6, I_ v6)] []) (v0 : Nat) (v1 : Int32) (v2 : Int32) (v3 : Int32) (v4 : Int32) (v5 : Int32) (v6 : Int32) (σ : sw_S)  (ce sl : Nat) (h : B_X8_rows_18 rec6 rec18 v0 v1 v2 v3 v4 v5 v6 σ = some (r, σ')) (hce : ce + (0) ≤ 0) (hsl : sl + (0) ≤ 0) : sw_G p l e (sw_R 0 0 0 0) s m args below meth c Q 8 A D cT σ ce sl 18 [(0, P_ (some v0)), (1, I_ v1), (2, I_ v2), (3, I_ v3), (4, I_ v4), (5, I_ v5), (6, I_ v6)] [] := by
  unfold B_X8_rows_18 at h
  refine g_iload (pc := 18) K 6 rfl dX8_rows_18 ?_
  refine g_aload_n (pc := 20) K 0 rfl rfl dX8_rows_20 ?_
  replace h := Option.bind_eq_some_iff.mp h
  obtain ⟨r1, e2, h⟩ := h
  refine g_getR (pc := 21) K cl_8 hin_X8 (k := 17) (by decide) tb_535 rfl e2 dX8_rows_21 ?_
  refine g_iload (pc := 24) K 5 rfl dX8_rows_24 ?_
  replace h := Option.bind_eq_some_iff.mp h
  obtain ⟨a3, rfl, h⟩ := h
  replace h := Option.bind_eq_some_iff.mp h
  obtain ⟨x5, e4, h⟩ := h
  refine g_iald (pc := 26) K e4 dX8_rows_26 ?_
  refine g_iconst (pc := 27) (v := 1) K dX8_rows_27 (by decide) ?_
  refine g_icmp_ne (pc := 28) K 41 dX8_rows_28 (by decide) (fun c6 => ?_) (fun c6 => ?_)
  · replace h := (if_pos c6).symm.trans h
    refine g_aload_n (pc := 31) K 0 rfl rfl dX8_rows_31 ?_
    replace h := Option.bind_eq_some_iff.mp h
    obtain ⟨r7, e8, h⟩ := h
    refine g_getR (pc := 32) K cl_8 hin_X8 (k := 19) (by decide) tb_537 rfl e8 dX8_rows_32 ?_
    refine g_iload (pc := 35) K 5 rfl dX8_rows_35 ?_
    replace h := Option.bind_eq_some_iff.mp h
    obtain ⟨a9, rfl, h⟩ := h
    replace h := Option.bind_eq_some_iff.mp h
    obtain ⟨x11, e10, h⟩ := h
    refine g_iald (pc := 37) K e10 dX8_rows_37 ?_
    refine g_goto (pc := 38) (tgt := 42) K dX8_rows_38 (by decide) ?_
    refine g_sub K [0, 1, 2, 3, 4, 5, 6] rfl ?_
    exact w_X8_rows_42 K hT hrec6 hrec18  _ _ _ _ _ _ _ _ _ _ _ _ h (by omega) (by omega)
  · replace h := (if_neg c6).symm.trans h
    refine g_iconst (pc := 41) (v := 0) K dX8_rows_41 (by decide) ?_
    refine g_sub K [0, 1, 2, 3, 4, 5, 6] rfl ?_
    exact w_X8_rows_42 K hT hrec6 hrec18  _ _ _ _ _ _ _ _ _ _ _ _ h (by omega) (by omega)
def b_X8_rows_18 (rec6 : Nat → Int32 → Int32 → Int32 → Int32 → Int32 → sw_S → Option (Int32 × sw_S)) : Nat → Nat → Int32 → Int32 → Int32 → Int32 → Int32 → Int32 → sw_S → Option (Int32 × sw_S)
  | 0 => fun _ _ _ _ _ _ _ _ => none
  | n + 1 => B_X8_rows_18 rec6 (b_X8_rows_18 rec6 n)
theorem wl_X8_rows_18 {p : Program} {l : Launch} {e : Env} {s : State} {m : MethodId} {args : Array Value} {below : List Frame} {meth : Method} {c : Code} {Q : State → Prop} {A : Nat → Prop} {D : va_G} {cT : Nat → ClassId} {r : Int32}  {σ' : sw_S}  (K : sw_C p s m args c cX8_rows 8 RX8 A D cT) (hT : sw_Ti cX8_rows p l e (sw_R 0 0 0 0) s m args below meth c Q 8 A D cT 0 0 σ' r) {rec6 : Nat → Int32 → Int32 → Int32 → Int32 → Int32 → sw_S → Option (Int32 × sw_S)} (hrec6 : ∀ (v0 : Nat) (v1 : Int32) (v2 : Int32) (v3 : Int32) (v4 : Int32) (v5 : Int32) (σ : sw_S) (ce sl : Nat), rec6 v0 v1 v2 v3 v4 v5 σ = some (r, σ') → ce + (0) ≤ 0 → sl + (0) ≤ 0 → sw_G p l e (sw_R 0 0 0 0) s m args below meth c Q 8 A D cT σ ce sl 6 [(0, P_ (some v0)), (1, I_ v1), (2, I_ v2), (3, I_ v3), (4, I_ v4), (5, I_ v5)] []) : ∀ (n : Nat) (v0 : Nat) (v1 : Int32) (v2 : Int32) (v3 : Int32) (v4 : Int32) (v5 : Int32) (v6 : Int32) (σ : sw_S) (ce sl : Nat), b_X8_rows_18 rec6 n v0 v1 v2 v3 v4 v5 v6 σ = some (r, σ') → ce + (0) ≤ 0 → sl + (0) ≤ 0 → sw_G p l e (sw_R 0 0 0 0) s m args below meth c Q 8 A D cT σ ce sl 18 [(0, P_ (some v0)), (1, I_ v1), (2, I_ v2), (3, I_ v3), (4, I_ v4), (5, I_ v5), (6, I_ v6)] [] := by
  intro n
  induction n with
  | zero =>
    intro v0 v1 v2 v3 v4 v5 v6 σ ce sl h
    exact absurd (show none = some (r, σ') from h) (by simp)
  | succ n ih =>
    intro v0 v1 v2 v3 v4 v5 v6 σ ce sl h hce hsl
    exact wB_X8_rows_18 K hT hrec6 (fun _ _ _ _ _ _ _ _ _ _ h h1 h2 => ih _ _ _ _ _ _ _ _ _ _ h h1 h2) _ _ _ _ _ _ _ _ _ _ h hce hsl
def B_X8_rows_6 (rec6 : Nat → Int32 → Int32 → Int32 → Int32 → Int32 → sw_S → Option (Int32 × sw_S)) (v0 : Nat) (v1 : Int32) (v2 : Int32) (v3 : Int32) (v4 : Int32) (v5 : Int32) (σ : sw_S) : Option (Int32 × sw_S) :=
  (sw_gI 8 v0 16 σ).bind fun x1 =>
  (if x1 ≤ v5 then
  some (v4, σ)
  else
  b_X8_rows_18 rec6 1000 v0 v1 v2 v3 v4 v5 0 σ)
set_option maxHeartbeats 4000000 in
set_option maxRecDepth 100000 in
theorem wB_X8_rows_6 {p : Program} {l : Launch} {e : Env} {s : State} {m : MethodId} {args : Array Value} {below : List Frame} {meth : Method} {c : Code} {Q : State → Prop} {A : Nat → Prop} {D : va_G} {cT : Nat → ClassId} {r : Int32}  {σ' : sw_S}  (K : sw_C p s m args c cX8_rows 8 RX8 A D cT) (hT : sw_Ti cX8_rows p l e (sw_R 0 0 0 0) s m args below meth c Q 8 A D cT 0 0 σ' r) {rec6 : Nat → Int32 → Int32 → Int32 → Int32 → Int32 → sw_S → Option (Int32 × sw_S)} (hrec6 : ∀ (v0 : Nat) (v1 : Int32) (v2 : Int32) (v3 : Int32) (v4 : Int32) (v5 : Int32) (σ : sw_S) (ce sl : Nat), rec6 v0 v1 v2 v3 v4 v5 σ = some (r, σ') → ce + (0) ≤ 0 → sl + (0) ≤ 0 → sw_G p l e (sw_R 0 0 0 0) s m args below meth c Q 8 A D cT σ ce sl 6 [(0, P_ (some v0)), (1, I_ v1), (2, I_ v2), (3, I_ v3), (4, I_ v4), (5, I_ v5)] []) (v0 : Nat) (v1 : Int32) (v2 : Int32) (v3 : Int32) (v4 : Int32) (v5 : Int32) (σ : sw_S)  (ce sl : Nat) (h : B_X8_rows_6 rec6 v0 v1 v2 v3 v4 v5 σ = some (r, σ')) (hce : ce + (0) ≤ 0) (hsl : sl + (0) ≤ 0) : sw_G p l e (sw_R 0 0 0 0) s m args below meth c Q 8 A D cT σ ce sl 6 [(0, P_ (some v0)), (1, I_ v1), (2, I_ v2), (3, I_ v3), (4, I_ v4), (5, I_ v5)] [] := by
  unfold B_X8_rows_6 at h
  refine g_iload (pc := 6) K 5 rfl dX8_rows_6 ?_
  refine g_aload_n (pc := 8) K 0 rfl rfl dX8_rows_8 ?_
  replace h := Option.bind_eq_some_iff.mp h
  obtain ⟨x1, e2, h⟩ := h
  refine g_getI (pc := 9) K cl_8 hin_X8 (k := 16) (by decide) tb_534 rfl e2 dX8_rows_9 ?_
  refine g_icmp_ge (pc := 12) K 130 dX8_rows_12 (by decide) (fun c3 => ?_) (fun c3 => ?_)
  · replace h := (if_pos c3).symm.trans h
    refine g_iload (pc := 130) K 4 rfl dX8_rows_130 ?_
    cases h
    exact hT _ _ 132 _ (by omega) (by omega) dX8_rows_132
  · replace h := (if_neg c3).symm.trans h
    refine g_iconst (pc := 15) (v := 0) K dX8_rows_15 (by decide) ?_
    refine g_istore (pc := 16) K [(6, I_ 0), (0, P_ (some v0)), (1, I_ v1), (2, I_ v2), (3, I_ v3), (4, I_ v4), (5, I_ v5)] (by decide) rfl dX8_rows_16 ?_
    refine g_sub K [1, 2, 3, 4, 5, 6, 0] rfl ?_
    exact wl_X8_rows_18 K hT hrec6  1000 _ _ _ _ _ _ _ _ _ _ h (by omega) (by omega)
def b_X8_rows_6  : Nat → Nat → Int32 → Int32 → Int32 → Int32 → Int32 → sw_S → Option (Int32 × sw_S)
  | 0 => fun _ _ _ _ _ _ _ => none
  | n + 1 => B_X8_rows_6 (b_X8_rows_6  n)
theorem wl_X8_rows_6 {p : Program} {l : Launch} {e : Env} {s : State} {m : MethodId} {args : Array Value} {below : List Frame} {meth : Method} {c : Code} {Q : State → Prop} {A : Nat → Prop} {D : va_G} {cT : Nat → ClassId} {r : Int32}  {σ' : sw_S}  (K : sw_C p s m args c cX8_rows 8 RX8 A D cT) (hT : sw_Ti cX8_rows p l e (sw_R 0 0 0 0) s m args below meth c Q 8 A D cT 0 0 σ' r) : ∀ (n : Nat) (v0 : Nat) (v1 : Int32) (v2 : Int32) (v3 : Int32) (v4 : Int32) (v5 : Int32) (σ : sw_S) (ce sl : Nat), b_X8_rows_6  n v0 v1 v2 v3 v4 v5 σ = some (r, σ') → ce + (0) ≤ 0 → sl + (0) ≤ 0 → sw_G p l e (sw_R 0 0 0 0) s m args below meth c Q 8 A D cT σ ce sl 6 [(0, P_ (some v0)), (1, I_ v1), (2, I_ v2), (3, I_ v3), (4, I_ v4), (5, I_ v5)] [] := by
  intro n
  induction n with
  | zero =>
    intro v0 v1 v2 v3 v4 v5 σ ce sl h
    exact absurd (show none = some (r, σ') from h) (by simp)
  | succ n ih =>
    intro v0 v1 v2 v3 v4 v5 σ ce sl h hce hsl
    exact wB_X8_rows_6 K hT (fun _ _ _ _ _ _ _ _ _ h h1 h2 => ih _ _ _ _ _ _ _ _ _ h h1 h2) _ _ _ _ _ _ _ _ _ h hce hsl
def f_X8_rows (p0 : Nat) (q1 : Int32) (q2 : Int32) (q3 : Int32) (σ : sw_S) : Option (Int32 × sw_S) :=
  b_X8_rows_6 1000 p0 q1 q2 q3 0 0 σ
set_option maxHeartbeats 4000000 in
set_option maxRecDepth 100000 in
theorem c_X8_rows  (l : Launch) (D : va_G) (cT : Nat → ClassId) (p0 : Nat) (q1 : Int32) (q2 : Int32) (q3 : Int32) (σ : sw_S) {r : Int32} {σ' : sw_S} (h : f_X8_rows p0 q1 q2 q3 σ = some (r, σ')) : sw_M l D cT yX8_rows cX8_rows 8 (some .int) 0 0 0 0 σ [P_ (some p0), I_ q1, I_ q2, I_ q3] (some (I_ r)) σ' := by
  refine sw_met_i (by decide) (Nat.le_of_ble_eq_true rfl) (fun p e s m args below meth c A Q K hnm hT => ?_)
  have hce : 0 + 0 ≤ 0 := Nat.le_of_ble_eq_true rfl
  have hsl : 0 + 0 ≤ 0 := Nat.le_of_ble_eq_true rfl
  unfold f_X8_rows at h
  change sw_G p l e (sw_R 0 0 0 0) s m args below meth c Q 8 A D cT σ 0 0 0 [(0, P_ (some p0)), (1, I_ q1), (2, I_ q2), (3, I_ q3)] []
  refine g_iconst (pc := 0) (v := 0) K dX8_rows_0 (by decide) ?_
  refine g_istore (pc := 1) K [(4, I_ 0), (0, P_ (some p0)), (1, I_ q1), (2, I_ q2), (3, I_ q3)] (by decide) rfl dX8_rows_1 ?_
  refine g_iconst (pc := 3) (v := 0) K dX8_rows_3 (by decide) ?_
  refine g_istore (pc := 4) K [(5, I_ 0), (4, I_ 0), (0, P_ (some p0)), (1, I_ q1), (2, I_ q2), (3, I_ q3)] (by decide) rfl dX8_rows_4 ?_
  refine g_sub K [2, 3, 4, 5, 1, 0] rfl ?_
  exact wl_X8_rows_6 K hT  1000 _ _ _ _ _ _ _ _ _ h (by omega) (by omega)

def f_X8_check (p0 : Nat) (q1 : Int32) (q2 : Int32) (q3 : Int32) (σ : sw_S) : Option (Int32 × sw_S) :=
  (sw_ob 8 p0 σ).bind fun f1 =>
  sw_b2 (f_X8_isRight p0 q1 q2 q3 0 σ) fun x4 σ5 =>
  (if x4 = 0 then
  some ((-1), σ5)
  else
  (sw_ob 8 p0 σ5).bind fun f7 =>
  sw_b2 (f_X8_rows p0 q2 q3 1 σ5) fun x10 σ11 =>
  (sw_pt 8 p0 29 (.int x10) σ11).bind fun σ12 =>
  (sw_gI 8 p0 29 σ12).bind fun x14 =>
  some (x14, σ12))
set_option maxHeartbeats 4000000 in
set_option maxRecDepth 100000 in
theorem c_X8_check  (l : Launch) (D : va_G) (cT : Nat → ClassId) (p0 : Nat) (q1 : Int32) (q2 : Int32) (q3 : Int32) (σ : sw_S) {r : Int32} {σ' : sw_S} (h : f_X8_check p0 q1 q2 q3 σ = some (r, σ')) : sw_M l D cT yX8_check cX8_check 4 (some .int) 5 118 0 0 σ [P_ (some p0), I_ q1, I_ q2, I_ q3] (some (I_ r)) σ' := by
  refine sw_met_i (by decide) (Nat.le_of_ble_eq_true rfl) (fun p e s m args below meth c A Q K hnm hT => ?_)
  have hce : 0 + 0 ≤ 0 := Nat.le_of_ble_eq_true rfl
  have hsl : 0 + 0 ≤ 0 := Nat.le_of_ble_eq_true rfl
  unfold f_X8_check at h
  change sw_G p l e (sw_R 5 0 0 118) s m args below meth c Q 4 A D cT σ 0 0 0 [(0, P_ (some p0)), (1, I_ q1), (2, I_ q2), (3, I_ q3)] []
  refine g_aload_n (pc := 0) K 0 rfl rfl dX8_check_0 ?_
  refine g_iload_n (pc := 1) K 1 rfl rfl dX8_check_1 ?_
  refine g_iload_n (pc := 2) K 2 rfl rfl dX8_check_2 ?_
  refine g_iload_n (pc := 3) K 3 rfl rfl dX8_check_3 ?_
  refine g_iconst (pc := 4) (v := 0) K dX8_check_4 (by decide) ?_
  replace h := Option.bind_eq_some_iff.mp h
  obtain ⟨f1, e2, h⟩ := h
  replace h := sw_b2_eq h
  obtain ⟨x4, σ5, e3, h⟩ := h
  refine g_callV (pc := 5) (st := []) K [I_ q1, I_ q2, I_ q3, I_ 0] (c_X8_isRight _ _ _ _ _ _ _ _ _ e3) e2 cl_8 rfl tb_720 tb_717 tb_7 tb_719 sl_39 hd_X8_isRight ⟨Nat.le_of_ble_eq_true rfl, Nat.le_of_ble_eq_true rfl⟩ rfl (sw_rm (Nat.le_of_ble_eq_true rfl)) ⟨by show _ ≤ 0; omega, by show _ ≤ 0; omega⟩ dX8_check_5 ?_
  refine g_if_ne (pc := 8) K 13 dX8_check_8 (by decide) (fun c6 => ?_) (fun c6 => ?_)
  · replace h := (if_pos c6).symm.trans h
    refine g_iconst (pc := 11) (v := (-1)) K dX8_check_11 (by decide) ?_
    cases h
    exact hT _ _ 12 _ (by omega) (by omega) dX8_check_12
  · replace h := (if_neg c6).symm.trans h
    refine g_aload_n (pc := 13) K 0 rfl rfl dX8_check_13 ?_
    refine g_aload_n (pc := 14) K 0 rfl rfl dX8_check_14 ?_
    refine g_iload_n (pc := 15) K 2 rfl rfl dX8_check_15 ?_
    refine g_iload_n (pc := 16) K 3 rfl rfl dX8_check_16 ?_
    refine g_iconst (pc := 17) (v := 1) K dX8_check_17 (by decide) ?_
    replace h := Option.bind_eq_some_iff.mp h
    obtain ⟨f7, e8, h⟩ := h
    replace h := sw_b2_eq h
    obtain ⟨x10, σ11, e9, h⟩ := h
    refine g_callV (pc := 18) (st := [P_ (some p0)]) K [I_ q2, I_ q3, I_ 1] (c_X8_rows _ _ _ _ _ _ _ _ e9) e8 cl_8 rfl tb_772 tb_769 tb_7 tb_771 sl_52 hd_X8_rows ⟨Nat.le_of_ble_eq_true rfl, Nat.le_of_ble_eq_true rfl⟩ rfl (sw_rm (Nat.le_of_ble_eq_true rfl)) ⟨by show _ ≤ 0; omega, by show _ ≤ 0; omega⟩ dX8_check_18 ?_
    replace h := Option.bind_eq_some_iff.mp h
    obtain ⟨σ12, e13, h⟩ := h
    refine g_put (pc := 21) K cl_8 hin_X8 (k := 29) (by decide) tb_547 rfl tyX8 tyX8_ok nmX8 (Or.inl rfl) rfl rfl e13 dX8_check_21 ?_
    refine g_aload_n (pc := 24) K 0 rfl rfl dX8_check_24 ?_
    replace h := Option.bind_eq_some_iff.mp h
    obtain ⟨x14, e15, h⟩ := h
    refine g_getI (pc := 25) K cl_8 hin_X8 (k := 29) (by decide) tb_547 rfl e15 dX8_check_25 ?_
    cases h
    exact hT _ _ 28 _ (by omega) (by omega) dX8_check_28

def b_X8_count_87 (rec25 : Nat → Int32 → Int32 → Int32 → Int32 → sw_S → Option (Int32 × sw_S)) (v0 : Nat) (v2 : Int32) (v3 : Int32) (v5 : Int32) (t0 : Int32) (σ : sw_S) : Option (Int32 × sw_S) :=
  rec25 v0 v2 v3 t0 ((v5 + 1)) σ
set_option maxHeartbeats 4000000 in
set_option maxRecDepth 100000 in
theorem w_X8_count_87 {p : Program} {l : Launch} {e : Env} {s : State} {m : MethodId} {args : Array Value} {below : List Frame} {meth : Method} {c : Code} {Q : State → Prop} {A : Nat → Prop} {D : va_G} {cT : Nat → ClassId} {r : Int32}  {σ' : sw_S}  (K : sw_C p s m args c cX8_count 6 RX8 A D cT) (hT : sw_Ti cX8_count p l e (sw_R 5 0 0 118) s m args below meth c Q 6 A D cT 0 0 σ' r) {rec25 : Nat → Int32 → Int32 → Int32 → Int32 → sw_S → Option (Int32 × sw_S)} (hrec25 : ∀ (v0 : Nat) (v2 : Int32) (v3 : Int32) (v4 : Int32) (v5 : Int32) (σ : sw_S) (ce sl : Nat), rec25 v0 v2 v3 v4 v5 σ = some (r, σ') → ce + (0) ≤ 0 → sl + (0) ≤ 0 → sw_G p l e (sw_R 5 0 0 118) s m args below meth c Q 6 A D cT σ ce sl 25 [(0, P_ (some v0)), (2, I_ v2), (3, I_ v3), (4, I_ v4), (5, I_ v5)] []) (v0 : Nat) (v2 : Int32) (v3 : Int32) (v5 : Int32) (t0 : Int32) (σ : sw_S)  (ce sl : Nat) (h : b_X8_count_87 rec25 v0 v2 v3 v5 t0 σ = some (r, σ')) (hce : ce + (0) ≤ 0) (hsl : sl + (0) ≤ 0) : sw_G p l e (sw_R 5 0 0 118) s m args below meth c Q 6 A D cT σ ce sl 87 [(0, P_ (some v0)), (2, I_ v2), (3, I_ v3), (5, I_ v5)] [I_ t0] := by
  unfold b_X8_count_87 at h
  refine g_istore (pc := 87) K [(4, I_ t0), (0, P_ (some v0)), (2, I_ v2), (3, I_ v3), (5, I_ v5)] (by decide) rfl dX8_count_87 ?_
  refine g_iinc (pc := 89) K 4 (v5 + 1) [(5, I_ ((v5 + 1))), (4, I_ t0), (0, P_ (some v0)), (2, I_ v2), (3, I_ v3)] rfl rfl (by decide) rfl dX8_count_89 ?_
  refine g_goto (pc := 92) (tgt := 25) K dX8_count_92 (by decide) ?_
  refine g_sub K [2, 3, 4, 1, 0] rfl ?_
  exact hrec25 _ _ _ _ _ _ _ _ h (by omega) (by omega)
def b_X8_count_85 (rec25 : Nat → Int32 → Int32 → Int32 → Int32 → sw_S → Option (Int32 × sw_S)) (v0 : Nat) (v2 : Int32) (v3 : Int32) (v4 : Int32) (v5 : Int32) (σ : sw_S) : Option (Int32 × sw_S) :=
  b_X8_count_87 rec25 v0 v2 v3 v5 v4 σ
set_option maxHeartbeats 4000000 in
set_option maxRecDepth 100000 in
theorem w_X8_count_85 {p : Program} {l : Launch} {e : Env} {s : State} {m : MethodId} {args : Array Value} {below : List Frame} {meth : Method} {c : Code} {Q : State → Prop} {A : Nat → Prop} {D : va_G} {cT : Nat → ClassId} {r : Int32}  {σ' : sw_S}  (K : sw_C p s m args c cX8_count 6 RX8 A D cT) (hT : sw_Ti cX8_count p l e (sw_R 5 0 0 118) s m args below meth c Q 6 A D cT 0 0 σ' r) {rec25 : Nat → Int32 → Int32 → Int32 → Int32 → sw_S → Option (Int32 × sw_S)} (hrec25 : ∀ (v0 : Nat) (v2 : Int32) (v3 : Int32) (v4 : Int32) (v5 : Int32) (σ : sw_S) (ce sl : Nat), rec25 v0 v2 v3 v4 v5 σ = some (r, σ') → ce + (0) ≤ 0 → sl + (0) ≤ 0 → sw_G p l e (sw_R 5 0 0 118) s m args below meth c Q 6 A D cT σ ce sl 25 [(0, P_ (some v0)), (2, I_ v2), (3, I_ v3), (4, I_ v4), (5, I_ v5)] []) (v0 : Nat) (v2 : Int32) (v3 : Int32) (v4 : Int32) (v5 : Int32) (σ : sw_S)  (ce sl : Nat) (h : b_X8_count_85 rec25 v0 v2 v3 v4 v5 σ = some (r, σ')) (hce : ce + (0) ≤ 0) (hsl : sl + (0) ≤ 0) : sw_G p l e (sw_R 5 0 0 118) s m args below meth c Q 6 A D cT σ ce sl 85 [(0, P_ (some v0)), (2, I_ v2), (3, I_ v3), (4, I_ v4), (5, I_ v5)] [] := by
  unfold b_X8_count_85 at h
  refine g_iload (pc := 85) K 3 rfl dX8_count_85 ?_
  refine g_sub K [0, 1, 2, 4] rfl ?_
  exact w_X8_count_87 K hT hrec25  _ _ _ _ _ _ _ _ h (by omega) (by omega)
def B_X8_count_25 (rec25 : Nat → Int32 → Int32 → Int32 → Int32 → sw_S → Option (Int32 × sw_S)) (v0 : Nat) (v2 : Int32) (v3 : Int32) (v4 : Int32) (v5 : Int32) (σ : sw_S) : Option (Int32 × sw_S) :=
  (sw_gI 8 v0 16 σ).bind fun x1 =>
  (if x1 ≤ v5 then
  some (v4, σ)
  else
  (sw_gR 8 v0 17 σ).bind fun r4 =>
  r4.bind fun a6 =>
  (sw_al 0 a6 v5 σ).bind fun x8 =>
  (if x8 = 0 then
  (sw_gR 8 v0 24 σ).bind fun r10 =>
  r10.bind fun a12 =>
  (sw_jl a12 v5 σ).bind fun x14 =>
  (if ((lg_cmp x14 ((Int32.toInt64 v2)))) < 0 then
  b_X8_count_85 rec25 v0 v2 v3 v4 v5 σ
  else
  (sw_gR 8 v0 25 σ).bind fun r16 =>
  r16.bind fun a18 =>
  (sw_jl a18 v5 σ).bind fun x20 =>
  (if 0 < ((lg_cmp x20 ((((Int32.toInt64 v3)) + 1)))) then
  b_X8_count_85 rec25 v0 v2 v3 v4 v5 σ
  else
  (sw_gR 8 v0 23 σ).bind fun r22 =>
  r22.bind fun a24 =>
  (sw_al 0 a24 v5 σ).bind fun x26 =>
  b_X8_count_87 rec25 v0 v2 v3 v5 ((v4 + x26)) σ))
  else
  b_X8_count_85 rec25 v0 v2 v3 v4 v5 σ))
set_option maxHeartbeats 4000000 in
set_option maxRecDepth 100000 in
theorem wB_X8_count_25 {p : Program} {l : Launch} {e : Env} {s : State} {m : MethodId} {args : Array Value} {below : List Frame} {meth : Method} {c : Code} {Q : State → Prop} {A : Nat → Prop} {D : va_G} {cT : Nat → ClassId} {r : Int32}  {σ' : sw_S}  (K : sw_C p s m args c cX8_count 6 RX8 A D cT) (hT : sw_Ti cX8_count p l e (sw_R 5 0 0 118) s m args below meth c Q 6 A D cT 0 0 σ' r) {rec25 : Nat → Int32 → Int32 → Int32 → Int32 → sw_S → Option (Int32 × sw_S)} (hrec25 : ∀ (v0 : Nat) (v2 : Int32) (v3 : Int32) (v4 : Int32) (v5 : Int32) (σ : sw_S) (ce sl : Nat), rec25 v0 v2 v3 v4 v5 σ = some (r, σ') → ce + (0) ≤ 0 → sl + (0) ≤ 0 → sw_G p l e (sw_R 5 0 0 118) s m args below meth c Q 6 A D cT σ ce sl 25 [(0, P_ (some v0)), (2, I_ v2), (3, I_ v3), (4, I_ v4), (5, I_ v5)] []) (v0 : Nat) (v2 : Int32) (v3 : Int32) (v4 : Int32) (v5 : Int32) (σ : sw_S)  (ce sl : Nat) (h : B_X8_count_25 rec25 v0 v2 v3 v4 v5 σ = some (r, σ')) (hce : ce + (0) ≤ 0) (hsl : sl + (0) ≤ 0) : sw_G p l e (sw_R 5 0 0 118) s m args below meth c Q 6 A D cT σ ce sl 25 [(0, P_ (some v0)), (2, I_ v2), (3, I_ v3), (4, I_ v4), (5, I_ v5)] [] := by
  unfold B_X8_count_25 at h
  refine g_iload (pc := 25) K 4 rfl dX8_count_25 ?_
  refine g_aload_n (pc := 27) K 0 rfl rfl dX8_count_27 ?_
  replace h := Option.bind_eq_some_iff.mp h
  obtain ⟨x1, e2, h⟩ := h
  refine g_getI (pc := 28) K cl_8 hin_X8 (k := 16) (by decide) tb_534 rfl e2 dX8_count_28 ?_
  refine g_icmp_ge (pc := 31) K 95 dX8_count_31 (by decide) (fun c3 => ?_) (fun c3 => ?_)
  · replace h := (if_pos c3).symm.trans h
    refine g_iload (pc := 95) K 3 rfl dX8_count_95 ?_
    cases h
    exact hT _ _ 97 _ (by omega) (by omega) dX8_count_97
  · replace h := (if_neg c3).symm.trans h
    refine g_aload_n (pc := 34) K 0 rfl rfl dX8_count_34 ?_
    replace h := Option.bind_eq_some_iff.mp h
    obtain ⟨r4, e5, h⟩ := h
    refine g_getR (pc := 35) K cl_8 hin_X8 (k := 17) (by decide) tb_535 rfl e5 dX8_count_35 ?_
    refine g_iload (pc := 38) K 4 rfl dX8_count_38 ?_
    replace h := Option.bind_eq_some_iff.mp h
    obtain ⟨a6, rfl, h⟩ := h
    replace h := Option.bind_eq_some_iff.mp h
    obtain ⟨x8, e7, h⟩ := h
    refine g_iald (pc := 40) K e7 dX8_count_40 ?_
    refine g_if_ne (pc := 41) K 85 dX8_count_41 (by decide) (fun c9 => ?_) (fun c9 => ?_)
    · replace h := (if_pos c9).symm.trans h
      refine g_aload_n (pc := 44) K 0 rfl rfl dX8_count_44 ?_
      replace h := Option.bind_eq_some_iff.mp h
      obtain ⟨r10, e11, h⟩ := h
      refine g_getR (pc := 45) K cl_8 hin_X8 (k := 24) (by decide) tb_542 rfl e11 dX8_count_45 ?_
      refine g_iload (pc := 48) K 4 rfl dX8_count_48 ?_
      replace h := Option.bind_eq_some_iff.mp h
      obtain ⟨a12, rfl, h⟩ := h
      replace h := Option.bind_eq_some_iff.mp h
      obtain ⟨x14, e13, h⟩ := h
      refine g_jald (pc := 50) K e13 dX8_count_50 ?_
      refine g_iload_n (pc := 51) K 1 rfl rfl dX8_count_51 ?_
      refine g_i2l (pc := 52) K dX8_count_52 ?_
      refine g_lcmp (pc := 53) K dX8_count_53 ?_
      refine g_if_lt (pc := 54) K 85 dX8_count_54 (by decide) (fun c15 => ?_) (fun c15 => ?_)
      · replace h := (if_pos c15).symm.trans h
        refine g_sub K [0, 1, 2, 3, 4] rfl ?_
        exact w_X8_count_85 K hT hrec25  _ _ _ _ _ _ _ _ h (by omega) (by omega)
      · replace h := (if_neg c15).symm.trans h
        refine g_aload_n (pc := 57) K 0 rfl rfl dX8_count_57 ?_
        replace h := Option.bind_eq_some_iff.mp h
        obtain ⟨r16, e17, h⟩ := h
        refine g_getR (pc := 58) K cl_8 hin_X8 (k := 25) (by decide) tb_543 rfl e17 dX8_count_58 ?_
        refine g_iload (pc := 61) K 4 rfl dX8_count_61 ?_
        replace h := Option.bind_eq_some_iff.mp h
        obtain ⟨a18, rfl, h⟩ := h
        replace h := Option.bind_eq_some_iff.mp h
        obtain ⟨x20, e19, h⟩ := h
        refine g_jald (pc := 63) K e19 dX8_count_63 ?_
        refine g_iload_n (pc := 64) K 2 rfl rfl dX8_count_64 ?_
        refine g_i2l (pc := 65) K dX8_count_65 ?_
        refine g_lconst (pc := 66) (v := 1) K dX8_count_66 (by decide) ?_
        refine g_ladd (pc := 67) K dX8_count_67 ?_
        refine g_lcmp (pc := 68) K dX8_count_68 ?_
        refine g_if_gt (pc := 69) K 85 dX8_count_69 (by decide) (fun c21 => ?_) (fun c21 => ?_)
        · replace h := (if_pos c21).symm.trans h
          refine g_sub K [0, 1, 2, 3, 4] rfl ?_
          exact w_X8_count_85 K hT hrec25  _ _ _ _ _ _ _ _ h (by omega) (by omega)
        · replace h := (if_neg c21).symm.trans h
          refine g_iload (pc := 72) K 3 rfl dX8_count_72 ?_
          refine g_aload_n (pc := 74) K 0 rfl rfl dX8_count_74 ?_
          replace h := Option.bind_eq_some_iff.mp h
          obtain ⟨r22, e23, h⟩ := h
          refine g_getR (pc := 75) K cl_8 hin_X8 (k := 23) (by decide) tb_541 rfl e23 dX8_count_75 ?_
          refine g_iload (pc := 78) K 4 rfl dX8_count_78 ?_
          replace h := Option.bind_eq_some_iff.mp h
          obtain ⟨a24, rfl, h⟩ := h
          replace h := Option.bind_eq_some_iff.mp h
          obtain ⟨x26, e25, h⟩ := h
          refine g_iald (pc := 80) K e25 dX8_count_80 ?_
          refine g_iadd (pc := 81) K dX8_count_81 ?_
          refine g_goto (pc := 82) (tgt := 87) K dX8_count_82 (by decide) ?_
          refine g_sub K [0, 1, 2, 4] rfl ?_
          exact w_X8_count_87 K hT hrec25  _ _ _ _ _ _ _ _ h (by omega) (by omega)
    · replace h := (if_neg c9).symm.trans h
      refine g_sub K [0, 1, 2, 3, 4] rfl ?_
      exact w_X8_count_85 K hT hrec25  _ _ _ _ _ _ _ _ h (by omega) (by omega)
def b_X8_count_25  : Nat → Nat → Int32 → Int32 → Int32 → Int32 → sw_S → Option (Int32 × sw_S)
  | 0 => fun _ _ _ _ _ _ => none
  | n + 1 => B_X8_count_25 (b_X8_count_25  n)
theorem wl_X8_count_25 {p : Program} {l : Launch} {e : Env} {s : State} {m : MethodId} {args : Array Value} {below : List Frame} {meth : Method} {c : Code} {Q : State → Prop} {A : Nat → Prop} {D : va_G} {cT : Nat → ClassId} {r : Int32}  {σ' : sw_S}  (K : sw_C p s m args c cX8_count 6 RX8 A D cT) (hT : sw_Ti cX8_count p l e (sw_R 5 0 0 118) s m args below meth c Q 6 A D cT 0 0 σ' r) : ∀ (n : Nat) (v0 : Nat) (v2 : Int32) (v3 : Int32) (v4 : Int32) (v5 : Int32) (σ : sw_S) (ce sl : Nat), b_X8_count_25  n v0 v2 v3 v4 v5 σ = some (r, σ') → ce + (0) ≤ 0 → sl + (0) ≤ 0 → sw_G p l e (sw_R 5 0 0 118) s m args below meth c Q 6 A D cT σ ce sl 25 [(0, P_ (some v0)), (2, I_ v2), (3, I_ v3), (4, I_ v4), (5, I_ v5)] [] := by
  intro n
  induction n with
  | zero =>
    intro v0 v2 v3 v4 v5 σ ce sl h
    exact absurd (show none = some (r, σ') from h) (by simp)
  | succ n ih =>
    intro v0 v2 v3 v4 v5 σ ce sl h hce hsl
    exact wB_X8_count_25 K hT (fun _ _ _ _ _ _ _ _ h h1 h2 => ih _ _ _ _ _ _ _ _ h h1 h2) _ _ _ _ _ _ _ _ h hce hsl
def f_X8_count (p0 : Nat) (q1 : Int32) (q2 : Int32) (q3 : Int32) (σ : sw_S) : Option (Int32 × sw_S) :=
  (sw_ob 8 p0 σ).bind fun f1 =>
  sw_b2 (f_X8_isRight p0 q1 q2 q3 1 σ) fun x4 σ5 =>
  (if x4 = 0 then
  some ((-1), σ5)
  else
  (sw_ob 8 p0 σ5).bind fun f7 =>
  sw_b2 (f_X8_rows p0 q2 q3 0 σ5) fun x10 σ11 =>
  b_X8_count_25 1000 p0 q2 q3 x10 1 σ11)
set_option maxHeartbeats 4000000 in
set_option maxRecDepth 100000 in
theorem c_X8_count  (l : Launch) (D : va_G) (cT : Nat → ClassId) (p0 : Nat) (q1 : Int32) (q2 : Int32) (q3 : Int32) (σ : sw_S) {r : Int32} {σ' : sw_S} (h : f_X8_count p0 q1 q2 q3 σ = some (r, σ')) : sw_M l D cT yX8_count cX8_count 6 (some .int) 5 118 0 0 σ [P_ (some p0), I_ q1, I_ q2, I_ q3] (some (I_ r)) σ' := by
  refine sw_met_i (by decide) (Nat.le_of_ble_eq_true rfl) (fun p e s m args below meth c A Q K hnm hT => ?_)
  have hce : 0 + 0 ≤ 0 := Nat.le_of_ble_eq_true rfl
  have hsl : 0 + 0 ≤ 0 := Nat.le_of_ble_eq_true rfl
  unfold f_X8_count at h
  change sw_G p l e (sw_R 5 0 0 118) s m args below meth c Q 6 A D cT σ 0 0 0 [(0, P_ (some p0)), (1, I_ q1), (2, I_ q2), (3, I_ q3)] []
  refine g_aload_n (pc := 0) K 0 rfl rfl dX8_count_0 ?_
  refine g_iload_n (pc := 1) K 1 rfl rfl dX8_count_1 ?_
  refine g_iload_n (pc := 2) K 2 rfl rfl dX8_count_2 ?_
  refine g_iload_n (pc := 3) K 3 rfl rfl dX8_count_3 ?_
  refine g_iconst (pc := 4) (v := 1) K dX8_count_4 (by decide) ?_
  replace h := Option.bind_eq_some_iff.mp h
  obtain ⟨f1, e2, h⟩ := h
  replace h := sw_b2_eq h
  obtain ⟨x4, σ5, e3, h⟩ := h
  refine g_callV (pc := 5) (st := []) K [I_ q1, I_ q2, I_ q3, I_ 1] (c_X8_isRight _ _ _ _ _ _ _ _ _ e3) e2 cl_8 rfl tb_720 tb_717 tb_7 tb_719 sl_39 hd_X8_isRight ⟨Nat.le_of_ble_eq_true rfl, Nat.le_of_ble_eq_true rfl⟩ rfl (sw_rm (Nat.le_of_ble_eq_true rfl)) ⟨by show _ ≤ 0; omega, by show _ ≤ 0; omega⟩ dX8_count_5 ?_
  refine g_if_ne (pc := 8) K 13 dX8_count_8 (by decide) (fun c6 => ?_) (fun c6 => ?_)
  · replace h := (if_pos c6).symm.trans h
    refine g_iconst (pc := 11) (v := (-1)) K dX8_count_11 (by decide) ?_
    cases h
    exact hT _ _ 12 _ (by omega) (by omega) dX8_count_12
  · replace h := (if_neg c6).symm.trans h
    refine g_aload_n (pc := 13) K 0 rfl rfl dX8_count_13 ?_
    refine g_iload_n (pc := 14) K 2 rfl rfl dX8_count_14 ?_
    refine g_iload_n (pc := 15) K 3 rfl rfl dX8_count_15 ?_
    refine g_iconst (pc := 16) (v := 0) K dX8_count_16 (by decide) ?_
    replace h := Option.bind_eq_some_iff.mp h
    obtain ⟨f7, e8, h⟩ := h
    replace h := sw_b2_eq h
    obtain ⟨x10, σ11, e9, h⟩ := h
    refine g_callV (pc := 17) (st := []) K [I_ q2, I_ q3, I_ 0] (c_X8_rows _ _ _ _ _ _ _ _ e9) e8 cl_8 rfl tb_772 tb_769 tb_7 tb_771 sl_52 hd_X8_rows ⟨Nat.le_of_ble_eq_true rfl, Nat.le_of_ble_eq_true rfl⟩ rfl (sw_rm (Nat.le_of_ble_eq_true rfl)) ⟨by show _ ≤ 0; omega, by show _ ≤ 0; omega⟩ dX8_count_17 ?_
    refine g_istore (pc := 20) K [(4, I_ x10), (0, P_ (some p0)), (1, I_ q1), (2, I_ q2), (3, I_ q3)] (by decide) rfl dX8_count_20 ?_
    refine g_iconst (pc := 22) (v := 1) K dX8_count_22 (by decide) ?_
    refine g_istore (pc := 23) K [(5, I_ 1), (4, I_ x10), (0, P_ (some p0)), (1, I_ q1), (2, I_ q2), (3, I_ q3)] (by decide) rfl dX8_count_23 ?_
    refine g_sub K [2, 4, 5, 1, 0] rfl ?_
    exact wl_X8_count_25 K hT  1000 _ _ _ _ _ _ _ _ h (by omega) (by omega)
