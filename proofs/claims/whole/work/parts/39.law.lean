theorem sw_out15 {x : Int32} (h0 : ¬ x = 0) (h1 : ¬ x = 1) (h2 : ¬ x = 2) (h3 : ¬ x = 3) (h4 : ¬ x = 4) (h5 : ¬ x = 5) (h6 : ¬ x = 6) (h7 : ¬ x = 7) (h8 : ¬ x = 8) (h9 : ¬ x = 9) (h10 : ¬ x = 10) (h11 : ¬ x = 11) (h12 : ¬ x = 12) (h13 : ¬ x = 13) (h14 : ¬ x = 14) : x.toInt < 0 ∨ 14 < x.toInt := by
  have k : ∀ (v : Int32) (z : Int), v.toInt = z → ¬ x = v → ¬ x.toInt = z := fun v z hv hn q => hn (Int32.toInt_inj.mp (by rw [q, hv]))
  have a0 := k 0 0 (by decide) h0
  have a1 := k 1 1 (by decide) h1
  have a2 := k 2 2 (by decide) h2
  have a3 := k 3 3 (by decide) h3
  have a4 := k 4 4 (by decide) h4
  have a5 := k 5 5 (by decide) h5
  have a6 := k 6 6 (by decide) h6
  have a7 := k 7 7 (by decide) h7
  have a8 := k 8 8 (by decide) h8
  have a9 := k 9 9 (by decide) h9
  have a10 := k 10 10 (by decide) h10
  have a11 := k 11 11 (by decide) h11
  have a12 := k 12 12 (by decide) h12
  have a13 := k 13 13 (by decide) h13
  have a14 := k 14 14 (by decide) h14
  omega
section TB
variable {p : Program} {l : Launch} {e : Env} {R : Room} {s : State} {m : MethodId} {args : Array Value} {below : List Frame} {meth : Method} {c : Code} {Q : State → Prop} {nL : Nat} {A : Nat → Prop} {D : va_G} {cT : Nat → ClassId} {cc : ByteArray} {own : String} {σ : sw_S} {ce sl pc : Nat} {lv : List (Nat × sw_U)} {st : List sw_U} {dflt lo hi : Int} {offs : Array Int} {len : Nat} {x : Int32}
theorem g_tabIn (K : sw_C p s m args c cc nL own A D cT) {off : Int} (tgt : Nat) (hdg : decode cc pc = .ok (.tableswitch dflt lo hi offs, len)) (h1 : ¬ x.toInt < lo) (h2 : ¬ hi < x.toInt) (ho : offs[(x.toInt - lo).toNat]? = some off) (ht : (pc : Int) + off = (tgt : Int)) (kk : sw_G p l e R s m args below meth c Q nL A D cT σ ce sl tgt lv st) : sw_G p l e R s m args below meth c Q nL A D cT σ ce sl pc lv (I_ x :: st) := by
  intro H locs ls hl hP hD hS
  exact lv_tableIn K.1.1 K.1.2.1 hdg h1 h2 ho ht (kk H locs ls hl hP hD hS)
theorem g_tabOut (K : sw_C p s m args c cc nL own A D cT) (tgt : Nat) (hdg : decode cc pc = .ok (.tableswitch dflt lo hi offs, len)) (h : x.toInt < lo ∨ hi < x.toInt) (ht : (pc : Int) + dflt = (tgt : Int)) (kk : sw_G p l e R s m args below meth c Q nL A D cT σ ce sl tgt lv st) : sw_G p l e R s m args below meth c Q nL A D cT σ ce sl pc lv (I_ x :: st) := by
  intro H locs ls hl hP hD hS
  exact lv_tableOut K.1.1 K.1.2.1 hdg h ht (kk H locs ls hl hP hD hS)
end TB
def b_law_577 (L : Nat) (xs : Nat → Int32) (rec : Nat → Nat → Int32 → Nat → (Nat → Option sw_E) → (Nat → Option sw_E) → Option Int32) (v1 : Nat) (v2 : Nat) (v3 : Int32) (n : Nat) (fc fm : Nat → Option sw_E) : Option Int32 :=
  rec v1 v2 ((v3 + 5)) n fc fm
set_option maxHeartbeats 8000000 in
set_option maxRecDepth 100000 in
theorem w_law_577 {p : Program} {l : Launch} {e : Env} {s : State} {m : MethodId} {args : Array Value} {below : List Frame} {meth : Method} {c : Code} {Q : State → Prop} {A : Nat → Prop} {D : va_G} {cT : Nat → ClassId} {b L : Nat} {xs : Nat → Int32} (K : sw_C p s m args c cL_law 4 RL A D cT) (X : sw_X b L xs s A) (hT : ∀ (ce sl pc : Nat) (lv : List (Nat × sw_U)) (n : Nat) (fc fm : Nat → Option sw_E), ce ≤ 600000 → sl ≤ 7302250 → decode cL_law pc = .ok (.ireturn, 1) → sw_G p l e room_1 s m args below meth c Q 4 A D cT (sw_j n fc fm) ce sl pc lv [I_ 1]) {nn : Nat} {rec : Nat → Nat → Int32 → Nat → (Nat → Option sw_E) → (Nat → Option sw_E) → Option Int32} (hrec : ∀ (v1 : Nat) (v2 : Nat) (v3 : Int32) (n : Nat) (fc fm : Nat → Option sw_E) (ce sl : Nat), sw_dj n fc fm → rec v1 v2 v3 n fc fm = some 1 → ce + nn * 36 ≤ 600000 → sl + nn * 234 ≤ 7302250 → sw_G p l e room_1 s m args below meth c Q 4 A D cT (sw_j n fc fm) ce sl 28 [(0, P_ (some b)), (1, P_ (some v1)), (2, P_ (some v2)), (3, I_ v3)] []) (v1 : Nat) (v2 : Nat) (v3 : Int32) (n : Nat) (fc fm : Nat → Option sw_E) (ce sl : Nat) (hj : sw_dj n fc fm) (h : b_law_577 L xs rec v1 v2 v3 n fc fm = some 1) (hce : ce + nn * 36 ≤ 600000) (hsl : sl + nn * 234 ≤ 7302250) : sw_G p l e room_1 s m args below meth c Q 4 A D cT (sw_j n fc fm) ce sl 577 [(0, P_ (some b)), (1, P_ (some v1)), (2, P_ (some v2)), (3, I_ v3)] [] := by
  unfold b_law_577 at h
  refine g_iinc (pc := 577) K 3 (v3 + 5) [(3, I_ ((v3 + 5))), (0, P_ (some b)), (1, P_ (some v1)), (2, P_ (some v2))] rfl rfl (by decide) rfl dL_law_577 ?_
  refine g_goto (pc := 580) (tgt := 28) K dL_law_580 (by decide) ?_
  refine g_sub K [1, 2, 3, 0] rfl ?_
  exact hrec _ _ _ _ _ _ _ _ hj h (by omega) (by omega)
def b_law_318 (L : Nat) (xs : Nat → Int32) (rec : Nat → Nat → Int32 → Nat → (Nat → Option sw_E) → (Nat → Option sw_E) → Option Int32) (v1 : Nat) (v2 : Nat) (v3 : Int32) (t0 : Int32) (t1 : Int32) (t2 : Int32) (t3 : Nat) (t4 : Int32) (n : Nat) (fc fm : Nat → Option sw_E) : Option Int32 :=
  (sw_ob 8 t3 (n, fm)).bind fun f1 =>
  sw_b2 (f_X8_prove t3 t2 t1 t0 (n, fm)) fun x4 σ5 =>
  (if t4 = x4 then
  b_law_577 L xs rec v1 v2 v3 σ5.1 fc σ5.2
  else
  some 0)
set_option maxHeartbeats 8000000 in
set_option maxRecDepth 100000 in
theorem w_law_318 {p : Program} {l : Launch} {e : Env} {s : State} {m : MethodId} {args : Array Value} {below : List Frame} {meth : Method} {c : Code} {Q : State → Prop} {A : Nat → Prop} {D : va_G} {cT : Nat → ClassId} {b L : Nat} {xs : Nat → Int32} (K : sw_C p s m args c cL_law 4 RL A D cT) (X : sw_X b L xs s A) (hT : ∀ (ce sl pc : Nat) (lv : List (Nat × sw_U)) (n : Nat) (fc fm : Nat → Option sw_E), ce ≤ 600000 → sl ≤ 7302250 → decode cL_law pc = .ok (.ireturn, 1) → sw_G p l e room_1 s m args below meth c Q 4 A D cT (sw_j n fc fm) ce sl pc lv [I_ 1]) {nn : Nat} {rec : Nat → Nat → Int32 → Nat → (Nat → Option sw_E) → (Nat → Option sw_E) → Option Int32} (hrec : ∀ (v1 : Nat) (v2 : Nat) (v3 : Int32) (n : Nat) (fc fm : Nat → Option sw_E) (ce sl : Nat), sw_dj n fc fm → rec v1 v2 v3 n fc fm = some 1 → ce + nn * 36 ≤ 600000 → sl + nn * 234 ≤ 7302250 → sw_G p l e room_1 s m args below meth c Q 4 A D cT (sw_j n fc fm) ce sl 28 [(0, P_ (some b)), (1, P_ (some v1)), (2, P_ (some v2)), (3, I_ v3)] []) (v1 : Nat) (v2 : Nat) (v3 : Int32) (t0 : Int32) (t1 : Int32) (t2 : Int32) (t3 : Nat) (t4 : Int32) (n : Nat) (fc fm : Nat → Option sw_E) (ce sl : Nat) (hj : sw_dj n fc fm) (h : b_law_318 L xs rec v1 v2 v3 t0 t1 t2 t3 t4 n fc fm = some 1) (hce : ce + nn * 36 ≤ 600000) (hsl : sl + nn * 234 ≤ 7302250) : sw_G p l e room_1 s m args below meth c Q 4 A D cT (sw_j n fc fm) ce sl 318 [(0, P_ (some b)), (1, P_ (some v1)), (2, P_ (some v2)), (3, I_ v3)] [I_ t0, I_ t1, I_ t2, P_ (some t3), I_ t4] := by
  unfold b_law_318 at h
  replace h := Option.bind_eq_some_iff.mp h
  obtain ⟨f1, e2, h⟩ := h
  replace h := sw_b2_eq h
  obtain ⟨x4, σ5, e3, h⟩ := h
  refine g_swap hj ?_
  refine g_callJ (pc := 318) (st := [I_ t4]) K [I_ t2, I_ t1, I_ t0] (c_X8_prove _ _ _ _ _ _ _ _ e3) hj.symm e2 cl_8 rfl tb_683 tb_680 tb_7 tb_681 tb_682 hd_X8_prove ⟨Nat.le_of_ble_eq_true rfl, Nat.le_of_ble_eq_true rfl⟩ rfl (sw_rm (Nat.le_of_ble_eq_true rfl)) ⟨by show _ ≤ 600000; omega, by show _ ≤ 7302250; omega⟩ dL_law_318 (fun hj => ?_)
  refine g_swap hj ?_
  replace hj := hj.symm
  refine g_icmp_eq (pc := 321) K 577 dL_law_321 (by decide) (fun c6 => ?_) (fun c6 => ?_)
  · replace h := (if_pos c6).symm.trans h
    refine g_sub K [0, 1, 2, 3] rfl ?_
    exact w_law_577 K X hT hrec _ _ _ _ _ _ _ _ hj h (by omega) (by omega)
  · replace h := (if_neg c6).symm.trans h
    refine g_iconst (pc := 324) (v := 0) K dL_law_324 (by decide) ?_
    exact absurd (Option.some.inj h) (by decide)
def b_law_291 (L : Nat) (xs : Nat → Int32) (rec : Nat → Nat → Int32 → Nat → (Nat → Option sw_E) → (Nat → Option sw_E) → Option Int32) (v1 : Nat) (v2 : Nat) (v3 : Int32) (t0 : Int32) (t1 : Int32) (t2 : Int32) (t3 : Nat) (n : Nat) (fc fm : Nat → Option sw_E) : Option Int32 :=
  (sw_ob 7 t3 (n, fc)).bind fun f1 =>
  sw_b2 (f_X7_prove t3 t2 t1 t0 (n, fc)) fun x4 σ5 =>
  (sw_sx L xs ((v3 + 1))).bind fun x6 =>
  (sw_sx L xs ((v3 + 2))).bind fun x8 =>
  (sw_sx L xs ((v3 + 3))).bind fun x10 =>
  (if x10 = 0 then
  b_law_318 L xs rec v1 v2 v3 0 x8 x6 v2 x4 σ5.1 σ5.2 fm
  else
  b_law_318 L xs rec v1 v2 v3 1 x8 x6 v2 x4 σ5.1 σ5.2 fm)
set_option maxHeartbeats 8000000 in
set_option maxRecDepth 100000 in
theorem w_law_291 {p : Program} {l : Launch} {e : Env} {s : State} {m : MethodId} {args : Array Value} {below : List Frame} {meth : Method} {c : Code} {Q : State → Prop} {A : Nat → Prop} {D : va_G} {cT : Nat → ClassId} {b L : Nat} {xs : Nat → Int32} (K : sw_C p s m args c cL_law 4 RL A D cT) (X : sw_X b L xs s A) (hT : ∀ (ce sl pc : Nat) (lv : List (Nat × sw_U)) (n : Nat) (fc fm : Nat → Option sw_E), ce ≤ 600000 → sl ≤ 7302250 → decode cL_law pc = .ok (.ireturn, 1) → sw_G p l e room_1 s m args below meth c Q 4 A D cT (sw_j n fc fm) ce sl pc lv [I_ 1]) {nn : Nat} {rec : Nat → Nat → Int32 → Nat → (Nat → Option sw_E) → (Nat → Option sw_E) → Option Int32} (hrec : ∀ (v1 : Nat) (v2 : Nat) (v3 : Int32) (n : Nat) (fc fm : Nat → Option sw_E) (ce sl : Nat), sw_dj n fc fm → rec v1 v2 v3 n fc fm = some 1 → ce + nn * 36 ≤ 600000 → sl + nn * 234 ≤ 7302250 → sw_G p l e room_1 s m args below meth c Q 4 A D cT (sw_j n fc fm) ce sl 28 [(0, P_ (some b)), (1, P_ (some v1)), (2, P_ (some v2)), (3, I_ v3)] []) (v1 : Nat) (v2 : Nat) (v3 : Int32) (t0 : Int32) (t1 : Int32) (t2 : Int32) (t3 : Nat) (n : Nat) (fc fm : Nat → Option sw_E) (ce sl : Nat) (hj : sw_dj n fc fm) (h : b_law_291 L xs rec v1 v2 v3 t0 t1 t2 t3 n fc fm = some 1) (hce : ce + (nn + 1) * 36 ≤ 600000) (hsl : sl + (nn + 1) * 234 ≤ 7302250) : sw_G p l e room_1 s m args below meth c Q 4 A D cT (sw_j n fc fm) ce sl 291 [(0, P_ (some b)), (1, P_ (some v1)), (2, P_ (some v2)), (3, I_ v3)] [I_ t0, I_ t1, I_ t2, P_ (some t3)] := by
  unfold b_law_291 at h
  replace h := Option.bind_eq_some_iff.mp h
  obtain ⟨f1, e2, h⟩ := h
  replace h := sw_b2_eq h
  obtain ⟨x4, σ5, e3, h⟩ := h
  refine g_callJ (pc := 291) (st := []) K [I_ t2, I_ t1, I_ t0] (c_X7_prove _ _ _ _ _ _ _ _ e3) hj e2 cl_7 rfl tb_313 tb_310 tb_1 tb_311 tb_312 hd_X7_prove ⟨Nat.le_of_ble_eq_true rfl, Nat.le_of_ble_eq_true rfl⟩ rfl (sw_rm (Nat.le_of_ble_eq_true rfl)) ⟨by show _ ≤ 600000; omega, by show _ ≤ 7302250; omega⟩ dL_law_291 (fun hj => ?_)
  refine g_aload_n (pc := 294) K 2 rfl rfl dL_law_294 ?_
  refine g_aload_n (pc := 295) K 0 rfl rfl dL_law_295 ?_
  refine g_iload_n (pc := 296) K 3 rfl rfl dL_law_296 ?_
  refine g_iconst (pc := 297) (v := 1) K dL_law_297 (by decide) ?_
  refine g_iadd (pc := 298) K dL_law_298 ?_
  replace h := Option.bind_eq_some_iff.mp h
  obtain ⟨x6, e7, h⟩ := h
  refine g_sld (pc := 299) K X e7 dL_law_299 ?_
  refine g_aload_n (pc := 300) K 0 rfl rfl dL_law_300 ?_
  refine g_iload_n (pc := 301) K 3 rfl rfl dL_law_301 ?_
  refine g_iconst (pc := 302) (v := 2) K dL_law_302 (by decide) ?_
  refine g_iadd (pc := 303) K dL_law_303 ?_
  replace h := Option.bind_eq_some_iff.mp h
  obtain ⟨x8, e9, h⟩ := h
  refine g_sld (pc := 304) K X e9 dL_law_304 ?_
  refine g_aload_n (pc := 305) K 0 rfl rfl dL_law_305 ?_
  refine g_iload_n (pc := 306) K 3 rfl rfl dL_law_306 ?_
  refine g_iconst (pc := 307) (v := 3) K dL_law_307 (by decide) ?_
  refine g_iadd (pc := 308) K dL_law_308 ?_
  replace h := Option.bind_eq_some_iff.mp h
  obtain ⟨x10, e11, h⟩ := h
  refine g_sld (pc := 309) K X e11 dL_law_309 ?_
  refine g_if_eq (pc := 310) K 317 dL_law_310 (by decide) (fun c12 => ?_) (fun c12 => ?_)
  · replace h := (if_pos c12).symm.trans h
    refine g_iconst (pc := 317) (v := 0) K dL_law_317 (by decide) ?_
    refine g_sub K [0, 1, 2, 3] rfl ?_
    exact w_law_318 K X hT hrec _ _ _ _ _ _ _ _ _ _ _ _ _ hj h (by omega) (by omega)
  · replace h := (if_neg c12).symm.trans h
    refine g_iconst (pc := 313) (v := 1) K dL_law_313 (by decide) ?_
    refine g_goto (pc := 314) (tgt := 318) K dL_law_314 (by decide) ?_
    refine g_sub K [0, 1, 2, 3] rfl ?_
    exact w_law_318 K X hT hrec _ _ _ _ _ _ _ _ _ _ _ _ _ hj h (by omega) (by omega)
def B_law_28 (L : Nat) (xs : Nat → Int32) (rec : Nat → Nat → Int32 → Nat → (Nat → Option sw_E) → (Nat → Option sw_E) → Option Int32) (v1 : Nat) (v2 : Nat) (v3 : Int32) (n : Nat) (fc fm : Nat → Option sw_E) : Option Int32 :=
  (if ((((Int32.ofNat L)) - 5)) < v3 then
  some 1
  else
  (sw_sx L xs v3).bind fun x2 =>
  (if ((x2 &&& 15)) = 0 then
  (sw_sx L xs ((v3 + 1))).bind fun x6 =>
  (sw_sx L xs ((v3 + 2))).bind fun x8 =>
  (sw_ob 7 v1 (n, fc)).bind fun f10 =>
  sw_b2 (f_X7_put v1 x6 x8 (n, fc)) fun x13 σ14 =>
  (sw_sx L xs ((v3 + 1))).bind fun x15 =>
  (sw_sx L xs ((v3 + 2))).bind fun x17 =>
  (sw_ob 8 v2 (σ14.1, fm)).bind fun f19 =>
  sw_b2 (f_X8_put v2 x15 x17 (σ14.1, fm)) fun x22 σ23 =>
  (if x13 = x22 then
  b_law_577 L xs rec v1 v2 v3 σ23.1 σ14.2 σ23.2
  else
  some 0)
  else
  (if ((x2 &&& 15)) = 1 then
  (sw_sx L xs ((v3 + 1))).bind fun x26 =>
  (sw_ob 7 v1 (n, fc)).bind fun f28 =>
  sw_b2 (f_X7_remove v1 x26 (n, fc)) fun x31 σ32 =>
  (sw_sx L xs ((v3 + 1))).bind fun x33 =>
  (sw_ob 8 v2 (σ32.1, fm)).bind fun f35 =>
  sw_b2 (f_X8_remove v2 x33 (σ32.1, fm)) fun x38 σ39 =>
  (if x31 = x38 then
  b_law_577 L xs rec v1 v2 v3 σ39.1 σ32.2 σ39.2
  else
  some 0)
  else
  (if ((x2 &&& 15)) = 2 then
  (sw_sx L xs ((v3 + 1))).bind fun x42 =>
  (sw_ob 7 v1 (n, fc)).bind fun f44 =>
  sw_b2 (f_X7_get v1 x42 (n, fc)) fun x47 σ48 =>
  (sw_sx L xs ((v3 + 1))).bind fun x49 =>
  (sw_ob 8 v2 (σ48.1, fm)).bind fun f51 =>
  (f_X8_get v2 x49 (σ48.1, fm)).bind fun x54 =>
  (if x47 = x54 then
  b_law_577 L xs rec v1 v2 v3 σ48.1 σ48.2 fm
  else
  some 0)
  else
  (if ((x2 &&& 15)) = 3 then
  (sw_ob 7 v1 (n, fc)).bind fun f57 =>
  (f_X7_size v1 (n, fc)).bind fun x60 =>
  (sw_ob 8 v2 (n, fm)).bind fun f61 =>
  (f_X8_size v2 (n, fm)).bind fun x64 =>
  (if x60 = x64 then
  b_law_577 L xs rec v1 v2 v3 n fc fm
  else
  some 0)
  else
  (if ((x2 &&& 15)) = 4 then
  (sw_ob 7 v1 (n, fc)).bind fun f67 =>
  (f_X7_height v1 (n, fc)).bind fun x70 =>
  (sw_ob 8 v2 (n, fm)).bind fun f71 =>
  (f_X8_height v2 (n, fm)).bind fun x74 =>
  (if x70 = x74 then
  b_law_577 L xs rec v1 v2 v3 n fc fm
  else
  some 0)
  else
  (if ((x2 &&& 15)) = 5 then
  (sw_ob 7 v1 (n, fc)).bind fun f77 =>
  (f_X7_root v1 (n, fc)).bind fun x80 =>
  (sw_ob 8 v2 (n, fm)).bind fun f81 =>
  (f_X8_root v2 (n, fm)).bind fun x84 =>
  (if x80 = x84 then
  b_law_577 L xs rec v1 v2 v3 n fc fm
  else
  some 0)
  else
  (if ((x2 &&& 15)) = 6 then
  (sw_sx L xs ((v3 + 1))).bind fun x87 =>
  (sw_sx L xs ((v3 + 2))).bind fun x89 =>
  (sw_ob 7 v1 (n, fc)).bind fun f91 =>
  (f_X7_within v1 x87 x89 (n, fc)).bind fun x94 =>
  (sw_sx L xs ((v3 + 1))).bind fun x95 =>
  (sw_sx L xs ((v3 + 2))).bind fun x97 =>
  (sw_ob 8 v2 (n, fm)).bind fun f99 =>
  (f_X8_within v2 x95 x97 (n, fm)).bind fun x102 =>
  (if x94 = x102 then
  b_law_577 L xs rec v1 v2 v3 n fc fm
  else
  some 0)
  else
  (if ((x2 &&& 15)) = 7 then
  (sw_sx L xs ((v3 + 1))).bind fun x105 =>
  (sw_sx L xs ((v3 + 2))).bind fun x107 =>
  (sw_sx L xs ((v3 + 3))).bind fun x109 =>
  (if x109 = 0 then
  b_law_291 L xs rec v1 v2 v3 0 x107 x105 v1 n fc fm
  else
  b_law_291 L xs rec v1 v2 v3 1 x107 x105 v1 n fc fm)
  else
  (if ((x2 &&& 15)) = 8 then
  (sw_sx L xs ((v3 + 1))).bind fun x113 =>
  (sw_ob 7 v1 (n, fc)).bind fun f115 =>
  (f_X7_token v1 x113 (n, fc)).bind fun x118 =>
  (sw_sx L xs ((v3 + 1))).bind fun x119 =>
  (sw_ob 8 v2 (n, fm)).bind fun f121 =>
  (f_X8_token v2 x119 (n, fm)).bind fun x124 =>
  (if x118 = x124 then
  b_law_577 L xs rec v1 v2 v3 n fc fm
  else
  some 0)
  else
  (if ((x2 &&& 15)) = 9 then
  (sw_sx L xs ((v3 + 1))).bind fun x127 =>
  (sw_sx L xs ((v3 + 2))).bind fun x129 =>
  (sw_ob 7 v1 (n, fc)).bind fun f131 =>
  sw_b2 (f_X7_alter v1 x127 x129 (n, fc)) fun x134 σ135 =>
  (sw_sx L xs ((v3 + 1))).bind fun x136 =>
  (sw_sx L xs ((v3 + 2))).bind fun x138 =>
  (sw_ob 8 v2 (σ135.1, fm)).bind fun f140 =>
  sw_b2 (f_X8_alter v2 x136 x138 (σ135.1, fm)) fun x143 σ144 =>
  (if x134 = x143 then
  b_law_577 L xs rec v1 v2 v3 σ144.1 σ135.2 σ144.2
  else
  some 0)
  else
  (if ((x2 &&& 15)) = 10 then
  (sw_sx L xs ((v3 + 1))).bind fun x147 =>
  (sw_ob 7 v1 (n, fc)).bind fun f149 =>
  sw_b2 (f_X7_trim v1 x147 (n, fc)) fun x152 σ153 =>
  (sw_sx L xs ((v3 + 1))).bind fun x154 =>
  (sw_ob 8 v2 (σ153.1, fm)).bind fun f156 =>
  sw_b2 (f_X8_trim v2 x154 (σ153.1, fm)) fun x159 σ160 =>
  (if x152 = x159 then
  b_law_577 L xs rec v1 v2 v3 σ160.1 σ153.2 σ160.2
  else
  some 0)
  else
  (if ((x2 &&& 15)) = 11 then
  (sw_sx L xs ((v3 + 1))).bind fun x163 =>
  (sw_sx L xs ((v3 + 2))).bind fun x165 =>
  (sw_sx L xs ((v3 + 3))).bind fun x167 =>
  (sw_ob 7 v1 (n, fc)).bind fun f169 =>
  sw_b2 (f_X7_check v1 x163 x165 x167 (n, fc)) fun x172 σ173 =>
  (sw_sx L xs ((v3 + 1))).bind fun x174 =>
  (sw_sx L xs ((v3 + 2))).bind fun x176 =>
  (sw_sx L xs ((v3 + 3))).bind fun x178 =>
  (sw_ob 8 v2 (σ173.1, fm)).bind fun f180 =>
  sw_b2 (f_X8_check v2 x174 x176 x178 (σ173.1, fm)) fun x183 σ184 =>
  (if x172 = x183 then
  b_law_577 L xs rec v1 v2 v3 σ184.1 σ173.2 σ184.2
  else
  some 0)
  else
  (if ((x2 &&& 15)) = 12 then
  (sw_sx L xs ((v3 + 1))).bind fun x187 =>
  (sw_sx L xs ((v3 + 2))).bind fun x189 =>
  (sw_sx L xs ((v3 + 3))).bind fun x191 =>
  (sw_ob 7 v1 (n, fc)).bind fun f193 =>
  sw_b2 (f_X7_count v1 x187 x189 x191 (n, fc)) fun x196 σ197 =>
  (sw_sx L xs ((v3 + 1))).bind fun x198 =>
  (sw_sx L xs ((v3 + 2))).bind fun x200 =>
  (sw_sx L xs ((v3 + 3))).bind fun x202 =>
  (sw_ob 8 v2 (σ197.1, fm)).bind fun f204 =>
  sw_b2 (f_X8_count v2 x198 x200 x202 (σ197.1, fm)) fun x207 σ208 =>
  (if x196 = x207 then
  b_law_577 L xs rec v1 v2 v3 σ208.1 σ197.2 σ208.2
  else
  some 0)
  else
  (if ((x2 &&& 15)) = 13 then
  (sw_sx L xs ((v3 + 1))).bind fun x211 =>
  (sw_sx L xs ((v3 + 2))).bind fun x213 =>
  (sw_ob 7 v1 (n, fc)).bind fun f215 =>
  (f_X7_row v1 x211 x213 (n, fc)).bind fun x218 =>
  (sw_sx L xs ((v3 + 1))).bind fun x219 =>
  (sw_sx L xs ((v3 + 2))).bind fun x221 =>
  (sw_ob 8 v2 (n, fm)).bind fun f223 =>
  (f_X8_row v2 x219 x221 (n, fm)).bind fun x226 =>
  (if x218 = x226 then
  b_law_577 L xs rec v1 v2 v3 n fc fm
  else
  some 0)
  else
  (if ((x2 &&& 15)) = 14 then
  (sw_sx L xs ((v3 + 1))).bind fun x229 =>
  (sw_sx L xs ((v3 + 2))).bind fun x231 =>
  (sw_sx L xs ((v3 + 3))).bind fun x233 =>
  (sw_sx L xs ((v3 + 4))).bind fun x235 =>
  (sw_ob 7 v1 (n, fc)).bind fun f237 =>
  (f_X7_digest v1 x229 x231 x233 x235 (n, fc)).bind fun x240 =>
  (sw_sx L xs ((v3 + 1))).bind fun x241 =>
  (sw_sx L xs ((v3 + 2))).bind fun x243 =>
  (sw_sx L xs ((v3 + 3))).bind fun x245 =>
  (sw_sx L xs ((v3 + 4))).bind fun x247 =>
  (sw_ob 8 v2 (n, fm)).bind fun f249 =>
  (f_X8_digest v2 x241 x243 x245 x247 (n, fm)).bind fun x252 =>
  (if x240 = x252 then
  b_law_577 L xs rec v1 v2 v3 n fc fm
  else
  some 0)
  else
  b_law_577 L xs rec v1 v2 v3 n fc fm))))))))))))))))
set_option maxHeartbeats 8000000 in
set_option maxRecDepth 100000 in
theorem wB_law_28 {p : Program} {l : Launch} {e : Env} {s : State} {m : MethodId} {args : Array Value} {below : List Frame} {meth : Method} {c : Code} {Q : State → Prop} {A : Nat → Prop} {D : va_G} {cT : Nat → ClassId} {b L : Nat} {xs : Nat → Int32} (K : sw_C p s m args c cL_law 4 RL A D cT) (X : sw_X b L xs s A) (hT : ∀ (ce sl pc : Nat) (lv : List (Nat × sw_U)) (n : Nat) (fc fm : Nat → Option sw_E), ce ≤ 600000 → sl ≤ 7302250 → decode cL_law pc = .ok (.ireturn, 1) → sw_G p l e room_1 s m args below meth c Q 4 A D cT (sw_j n fc fm) ce sl pc lv [I_ 1]) {nn : Nat} {rec : Nat → Nat → Int32 → Nat → (Nat → Option sw_E) → (Nat → Option sw_E) → Option Int32} (hrec : ∀ (v1 : Nat) (v2 : Nat) (v3 : Int32) (n : Nat) (fc fm : Nat → Option sw_E) (ce sl : Nat), sw_dj n fc fm → rec v1 v2 v3 n fc fm = some 1 → ce + nn * 36 ≤ 600000 → sl + nn * 234 ≤ 7302250 → sw_G p l e room_1 s m args below meth c Q 4 A D cT (sw_j n fc fm) ce sl 28 [(0, P_ (some b)), (1, P_ (some v1)), (2, P_ (some v2)), (3, I_ v3)] []) (v1 : Nat) (v2 : Nat) (v3 : Int32) (n : Nat) (fc fm : Nat → Option sw_E) (ce sl : Nat) (hj : sw_dj n fc fm) (h : B_law_28 L xs rec v1 v2 v3 n fc fm = some 1) (hce : ce + (nn + 1) * 36 ≤ 600000) (hsl : sl + (nn + 1) * 234 ≤ 7302250) : sw_G p l e room_1 s m args below meth c Q 4 A D cT (sw_j n fc fm) ce sl 28 [(0, P_ (some b)), (1, P_ (some v1)), (2, P_ (some v2)), (3, I_ v3)] [] := by
  unfold B_law_28 at h
  refine g_iload_n (pc := 28) K 3 rfl rfl dL_law_28 ?_
  refine g_aload_n (pc := 29) K 0 rfl rfl dL_law_29 ?_
  refine g_slen (pc := 30) K X dL_law_30 ?_
  refine g_iconst (pc := 31) (v := 5) K dL_law_31 (by decide) ?_
  refine g_isub (pc := 32) K dL_law_32 ?_
  refine g_icmp_gt (pc := 33) K 583 dL_law_33 (by decide) (fun c1 => ?_) (fun c1 => ?_)
  · replace h := (if_pos c1).symm.trans h
    refine g_iconst (pc := 583) (v := 1) K dL_law_583 (by decide) ?_
    exact hT _ _ 584 _ _ _ _ (by omega) (by omega) dL_law_584
  · replace h := (if_neg c1).symm.trans h
    refine g_aload_n (pc := 36) K 0 rfl rfl dL_law_36 ?_
    refine g_iload_n (pc := 37) K 3 rfl rfl dL_law_37 ?_
    replace h := Option.bind_eq_some_iff.mp h
    obtain ⟨x2, e3, h⟩ := h
    refine g_sld (pc := 38) K X e3 dL_law_38 ?_
    refine g_bipush (pc := 39) (v := 15) K dL_law_39 (by decide) ?_
    refine g_iand (pc := 41) K dL_law_41 ?_
    by_cases c4_0 : ((x2 &&& 15)) = 0
    · replace h := (if_pos c4_0).symm.trans h
      refine g_tabIn (pc := 42) (off := 74) K 116 dL_law_42 (by rw [c4_0]; decide) (by rw [c4_0]; decide) (by rw [c4_0]; decide) (by decide) ?_
      refine g_aload_n (pc := 116) K 1 rfl rfl dL_law_116 ?_
      refine g_aload_n (pc := 117) K 0 rfl rfl dL_law_117 ?_
      refine g_iload_n (pc := 118) K 3 rfl rfl dL_law_118 ?_
      refine g_iconst (pc := 119) (v := 1) K dL_law_119 (by decide) ?_
      refine g_iadd (pc := 120) K dL_law_120 ?_
      replace h := Option.bind_eq_some_iff.mp h
      obtain ⟨x6, e7, h⟩ := h
      refine g_sld (pc := 121) K X e7 dL_law_121 ?_
      refine g_aload_n (pc := 122) K 0 rfl rfl dL_law_122 ?_
      refine g_iload_n (pc := 123) K 3 rfl rfl dL_law_123 ?_
      refine g_iconst (pc := 124) (v := 2) K dL_law_124 (by decide) ?_
      refine g_iadd (pc := 125) K dL_law_125 ?_
      replace h := Option.bind_eq_some_iff.mp h
      obtain ⟨x8, e9, h⟩ := h
      refine g_sld (pc := 126) K X e9 dL_law_126 ?_
      replace h := Option.bind_eq_some_iff.mp h
      obtain ⟨f10, e11, h⟩ := h
      replace h := sw_b2_eq h
      obtain ⟨x13, σ14, e12, h⟩ := h
      refine g_callJ (pc := 127) (st := []) K [I_ x6, I_ x8] (c_X7_put _ _ _ _ _ _ _ e12) hj e11 cl_7 rfl tb_203 tb_200 tb_1 tb_201 tb_202 hd_X7_put ⟨Nat.le_of_ble_eq_true rfl, Nat.le_of_ble_eq_true rfl⟩ rfl (sw_rm (Nat.le_of_ble_eq_true rfl)) ⟨by show _ ≤ 600000; omega, by show _ ≤ 7302250; omega⟩ dL_law_127 (fun hj => ?_)
      refine g_aload_n (pc := 130) K 2 rfl rfl dL_law_130 ?_
      refine g_aload_n (pc := 131) K 0 rfl rfl dL_law_131 ?_
      refine g_iload_n (pc := 132) K 3 rfl rfl dL_law_132 ?_
      refine g_iconst (pc := 133) (v := 1) K dL_law_133 (by decide) ?_
      refine g_iadd (pc := 134) K dL_law_134 ?_
      replace h := Option.bind_eq_some_iff.mp h
      obtain ⟨x15, e16, h⟩ := h
      refine g_sld (pc := 135) K X e16 dL_law_135 ?_
      refine g_aload_n (pc := 136) K 0 rfl rfl dL_law_136 ?_
      refine g_iload_n (pc := 137) K 3 rfl rfl dL_law_137 ?_
      refine g_iconst (pc := 138) (v := 2) K dL_law_138 (by decide) ?_
      refine g_iadd (pc := 139) K dL_law_139 ?_
      replace h := Option.bind_eq_some_iff.mp h
      obtain ⟨x17, e18, h⟩ := h
      refine g_sld (pc := 140) K X e18 dL_law_140 ?_
      replace h := Option.bind_eq_some_iff.mp h
      obtain ⟨f19, e20, h⟩ := h
      replace h := sw_b2_eq h
      obtain ⟨x22, σ23, e21, h⟩ := h
      refine g_swap hj ?_
      refine g_callJ (pc := 141) (st := [I_ x13]) K [I_ x15, I_ x17] (c_X8_put _ _ _ _ _ _ _ e21) hj.symm e20 cl_8 rfl tb_619 tb_616 tb_7 tb_617 tb_618 hd_X8_put ⟨Nat.le_of_ble_eq_true rfl, Nat.le_of_ble_eq_true rfl⟩ rfl (sw_rm (Nat.le_of_ble_eq_true rfl)) ⟨by show _ ≤ 600000; omega, by show _ ≤ 7302250; omega⟩ dL_law_141 (fun hj => ?_)
      refine g_swap hj ?_
      replace hj := hj.symm
      refine g_icmp_eq (pc := 144) K 577 dL_law_144 (by decide) (fun c24 => ?_) (fun c24 => ?_)
      · replace h := (if_pos c24).symm.trans h
        refine g_sub K [0, 1, 2, 3] rfl ?_
        exact w_law_577 K X hT hrec _ _ _ _ _ _ _ _ hj h (by omega) (by omega)
      · replace h := (if_neg c24).symm.trans h
        refine g_iconst (pc := 147) (v := 0) K dL_law_147 (by decide) ?_
        exact absurd (Option.some.inj h) (by decide)
    replace h := (if_neg c4_0).symm.trans h
    by_cases c4_1 : ((x2 &&& 15)) = 1
    · replace h := (if_pos c4_1).symm.trans h
      refine g_tabIn (pc := 42) (off := 107) K 149 dL_law_42 (by rw [c4_1]; decide) (by rw [c4_1]; decide) (by rw [c4_1]; decide) (by decide) ?_
      refine g_aload_n (pc := 149) K 1 rfl rfl dL_law_149 ?_
      refine g_aload_n (pc := 150) K 0 rfl rfl dL_law_150 ?_
      refine g_iload_n (pc := 151) K 3 rfl rfl dL_law_151 ?_
      refine g_iconst (pc := 152) (v := 1) K dL_law_152 (by decide) ?_
      refine g_iadd (pc := 153) K dL_law_153 ?_
      replace h := Option.bind_eq_some_iff.mp h
      obtain ⟨x26, e27, h⟩ := h
      refine g_sld (pc := 154) K X e27 dL_law_154 ?_
      replace h := Option.bind_eq_some_iff.mp h
      obtain ⟨f28, e29, h⟩ := h
      replace h := sw_b2_eq h
      obtain ⟨x31, σ32, e30, h⟩ := h
      refine g_callJ (pc := 155) (st := []) K [I_ x26] (c_X7_remove _ _ _ _ _ _ e30) hj e29 cl_7 rfl tb_251 tb_248 tb_1 tb_249 tb_250 hd_X7_remove ⟨Nat.le_of_ble_eq_true rfl, Nat.le_of_ble_eq_true rfl⟩ rfl (sw_rm (Nat.le_of_ble_eq_true rfl)) ⟨by show _ ≤ 600000; omega, by show _ ≤ 7302250; omega⟩ dL_law_155 (fun hj => ?_)
      refine g_aload_n (pc := 158) K 2 rfl rfl dL_law_158 ?_
      refine g_aload_n (pc := 159) K 0 rfl rfl dL_law_159 ?_
      refine g_iload_n (pc := 160) K 3 rfl rfl dL_law_160 ?_
      refine g_iconst (pc := 161) (v := 1) K dL_law_161 (by decide) ?_
      refine g_iadd (pc := 162) K dL_law_162 ?_
      replace h := Option.bind_eq_some_iff.mp h
      obtain ⟨x33, e34, h⟩ := h
      refine g_sld (pc := 163) K X e34 dL_law_163 ?_
      replace h := Option.bind_eq_some_iff.mp h
      obtain ⟨f35, e36, h⟩ := h
      replace h := sw_b2_eq h
      obtain ⟨x38, σ39, e37, h⟩ := h
      refine g_swap hj ?_
      refine g_callJ (pc := 164) (st := [I_ x31]) K [I_ x33] (c_X8_remove _ _ _ _ _ _ e37) hj.symm e36 cl_8 rfl tb_643 tb_640 tb_7 tb_641 tb_642 hd_X8_remove ⟨Nat.le_of_ble_eq_true rfl, Nat.le_of_ble_eq_true rfl⟩ rfl (sw_rm (Nat.le_of_ble_eq_true rfl)) ⟨by show _ ≤ 600000; omega, by show _ ≤ 7302250; omega⟩ dL_law_164 (fun hj => ?_)
      refine g_swap hj ?_
      replace hj := hj.symm
      refine g_icmp_eq (pc := 167) K 577 dL_law_167 (by decide) (fun c40 => ?_) (fun c40 => ?_)
      · replace h := (if_pos c40).symm.trans h
        refine g_sub K [0, 1, 2, 3] rfl ?_
        exact w_law_577 K X hT hrec _ _ _ _ _ _ _ _ hj h (by omega) (by omega)
      · replace h := (if_neg c40).symm.trans h
        refine g_iconst (pc := 170) (v := 0) K dL_law_170 (by decide) ?_
        exact absurd (Option.some.inj h) (by decide)
    replace h := (if_neg c4_1).symm.trans h
    by_cases c4_2 : ((x2 &&& 15)) = 2
    · replace h := (if_pos c4_2).symm.trans h
      refine g_tabIn (pc := 42) (off := 130) K 172 dL_law_42 (by rw [c4_2]; decide) (by rw [c4_2]; decide) (by rw [c4_2]; decide) (by decide) ?_
      refine g_aload_n (pc := 172) K 1 rfl rfl dL_law_172 ?_
      refine g_aload_n (pc := 173) K 0 rfl rfl dL_law_173 ?_
      refine g_iload_n (pc := 174) K 3 rfl rfl dL_law_174 ?_
      refine g_iconst (pc := 175) (v := 1) K dL_law_175 (by decide) ?_
      refine g_iadd (pc := 176) K dL_law_176 ?_
      replace h := Option.bind_eq_some_iff.mp h
      obtain ⟨x42, e43, h⟩ := h
      refine g_sld (pc := 177) K X e43 dL_law_177 ?_
      replace h := Option.bind_eq_some_iff.mp h
      obtain ⟨f44, e45, h⟩ := h
      replace h := sw_b2_eq h
      obtain ⟨x47, σ48, e46, h⟩ := h
      refine g_callJ (pc := 178) (st := []) K [I_ x42] (c_X7_get _ _ _ _ _ _ e46) hj e45 cl_7 rfl tb_281 tb_278 tb_1 tb_279 tb_280 hd_X7_get ⟨Nat.le_of_ble_eq_true rfl, Nat.le_of_ble_eq_true rfl⟩ rfl (sw_rm (Nat.le_of_ble_eq_true rfl)) ⟨by show _ ≤ 600000; omega, by show _ ≤ 7302250; omega⟩ dL_law_178 (fun hj => ?_)
      refine g_aload_n (pc := 181) K 2 rfl rfl dL_law_181 ?_
      refine g_aload_n (pc := 182) K 0 rfl rfl dL_law_182 ?_
      refine g_iload_n (pc := 183) K 3 rfl rfl dL_law_183 ?_
      refine g_iconst (pc := 184) (v := 1) K dL_law_184 (by decide) ?_
      refine g_iadd (pc := 185) K dL_law_185 ?_
      replace h := Option.bind_eq_some_iff.mp h
      obtain ⟨x49, e50, h⟩ := h
      refine g_sld (pc := 186) K X e50 dL_law_186 ?_
      replace h := Option.bind_eq_some_iff.mp h
      obtain ⟨f51, e52, h⟩ := h
      replace h := Option.bind_eq_some_iff.mp h
      obtain ⟨x54, e53, h⟩ := h
      refine g_swap hj ?_
      refine g_callJ (pc := 187) (st := [I_ x47]) K [I_ x49] (c_X8_get _ _ _ _ _ _ e53) hj.symm e52 cl_8 rfl tb_659 tb_656 tb_7 tb_657 tb_658 hd_X8_get ⟨Nat.le_of_ble_eq_true rfl, Nat.le_of_ble_eq_true rfl⟩ rfl (sw_rm (Nat.le_of_ble_eq_true rfl)) ⟨by show _ ≤ 600000; omega, by show _ ≤ 7302250; omega⟩ dL_law_187 (fun hj => ?_)
      refine g_swap hj ?_
      replace hj := hj.symm
      change sw_dj σ48.1 σ48.2 fm at hj
      refine g_icmp_eq (pc := 190) K 577 dL_law_190 (by decide) (fun c55 => ?_) (fun c55 => ?_)
      · replace h := (if_pos c55).symm.trans h
        refine g_sub K [0, 1, 2, 3] rfl ?_
        exact w_law_577 K X hT hrec _ _ _ _ _ _ _ _ hj h (by omega) (by omega)
      · replace h := (if_neg c55).symm.trans h
        refine g_iconst (pc := 193) (v := 0) K dL_law_193 (by decide) ?_
        exact absurd (Option.some.inj h) (by decide)
    replace h := (if_neg c4_2).symm.trans h
    by_cases c4_3 : ((x2 &&& 15)) = 3
    · replace h := (if_pos c4_3).symm.trans h
      refine g_tabIn (pc := 42) (off := 153) K 195 dL_law_42 (by rw [c4_3]; decide) (by rw [c4_3]; decide) (by rw [c4_3]; decide) (by decide) ?_
      refine g_aload_n (pc := 195) K 1 rfl rfl dL_law_195 ?_
      replace h := Option.bind_eq_some_iff.mp h
      obtain ⟨f57, e58, h⟩ := h
      replace h := Option.bind_eq_some_iff.mp h
      obtain ⟨x60, e59, h⟩ := h
      refine g_callJ (pc := 196) (st := []) K [] (c_X7_size _ _ _ _ _ e59) hj e58 cl_7 rfl tb_289 tb_286 tb_1 tb_287 tb_288 hd_X7_size ⟨Nat.le_of_ble_eq_true rfl, Nat.le_of_ble_eq_true rfl⟩ rfl (sw_rm (Nat.le_of_ble_eq_true rfl)) ⟨by show _ ≤ 600000; omega, by show _ ≤ 7302250; omega⟩ dL_law_196 (fun hj => ?_)
      change sw_dj n fc fm at hj
      refine g_aload_n (pc := 199) K 2 rfl rfl dL_law_199 ?_
      replace h := Option.bind_eq_some_iff.mp h
      obtain ⟨f61, e62, h⟩ := h
      replace h := Option.bind_eq_some_iff.mp h
      obtain ⟨x64, e63, h⟩ := h
      refine g_swap hj ?_
      refine g_callJ (pc := 200) (st := [I_ x60]) K [] (c_X8_size _ _ _ _ _ e63) hj.symm e62 cl_8 rfl tb_663 tb_660 tb_7 tb_661 tb_662 hd_X8_size ⟨Nat.le_of_ble_eq_true rfl, Nat.le_of_ble_eq_true rfl⟩ rfl (sw_rm (Nat.le_of_ble_eq_true rfl)) ⟨by show _ ≤ 600000; omega, by show _ ≤ 7302250; omega⟩ dL_law_200 (fun hj => ?_)
      refine g_swap hj ?_
      replace hj := hj.symm
      change sw_dj n fc fm at hj
      refine g_icmp_eq (pc := 203) K 577 dL_law_203 (by decide) (fun c65 => ?_) (fun c65 => ?_)
      · replace h := (if_pos c65).symm.trans h
        refine g_sub K [0, 1, 2, 3] rfl ?_
        exact w_law_577 K X hT hrec _ _ _ _ _ _ _ _ hj h (by omega) (by omega)
      · replace h := (if_neg c65).symm.trans h
        refine g_iconst (pc := 206) (v := 0) K dL_law_206 (by decide) ?_
        exact absurd (Option.some.inj h) (by decide)
    replace h := (if_neg c4_3).symm.trans h
    by_cases c4_4 : ((x2 &&& 15)) = 4
    · replace h := (if_pos c4_4).symm.trans h
      refine g_tabIn (pc := 42) (off := 166) K 208 dL_law_42 (by rw [c4_4]; decide) (by rw [c4_4]; decide) (by rw [c4_4]; decide) (by decide) ?_
      refine g_aload_n (pc := 208) K 1 rfl rfl dL_law_208 ?_
      replace h := Option.bind_eq_some_iff.mp h
      obtain ⟨f67, e68, h⟩ := h
      replace h := Option.bind_eq_some_iff.mp h
      obtain ⟨x70, e69, h⟩ := h
      refine g_callJ (pc := 209) (st := []) K [] (c_X7_height _ _ _ _ _ e69) hj e68 cl_7 rfl tb_293 tb_290 tb_1 tb_291 tb_292 hd_X7_height ⟨Nat.le_of_ble_eq_true rfl, Nat.le_of_ble_eq_true rfl⟩ rfl (sw_rm (Nat.le_of_ble_eq_true rfl)) ⟨by show _ ≤ 600000; omega, by show _ ≤ 7302250; omega⟩ dL_law_209 (fun hj => ?_)
      change sw_dj n fc fm at hj
      refine g_aload_n (pc := 212) K 2 rfl rfl dL_law_212 ?_
      replace h := Option.bind_eq_some_iff.mp h
      obtain ⟨f71, e72, h⟩ := h
      replace h := Option.bind_eq_some_iff.mp h
      obtain ⟨x74, e73, h⟩ := h
      refine g_swap hj ?_
      refine g_callJ (pc := 213) (st := [I_ x70]) K [] (c_X8_height _ _ _ _ _ e73) hj.symm e72 cl_8 rfl tb_667 tb_664 tb_7 tb_665 tb_666 hd_X8_height ⟨Nat.le_of_ble_eq_true rfl, Nat.le_of_ble_eq_true rfl⟩ rfl (sw_rm (Nat.le_of_ble_eq_true rfl)) ⟨by show _ ≤ 600000; omega, by show _ ≤ 7302250; omega⟩ dL_law_213 (fun hj => ?_)
      refine g_swap hj ?_
      replace hj := hj.symm
      change sw_dj n fc fm at hj
      refine g_icmp_eq (pc := 216) K 577 dL_law_216 (by decide) (fun c75 => ?_) (fun c75 => ?_)
      · replace h := (if_pos c75).symm.trans h
        refine g_sub K [0, 1, 2, 3] rfl ?_
        exact w_law_577 K X hT hrec _ _ _ _ _ _ _ _ hj h (by omega) (by omega)
      · replace h := (if_neg c75).symm.trans h
        refine g_iconst (pc := 219) (v := 0) K dL_law_219 (by decide) ?_
        exact absurd (Option.some.inj h) (by decide)
    replace h := (if_neg c4_4).symm.trans h
    by_cases c4_5 : ((x2 &&& 15)) = 5
    · replace h := (if_pos c4_5).symm.trans h
      refine g_tabIn (pc := 42) (off := 179) K 221 dL_law_42 (by rw [c4_5]; decide) (by rw [c4_5]; decide) (by rw [c4_5]; decide) (by decide) ?_
      refine g_aload_n (pc := 221) K 1 rfl rfl dL_law_221 ?_
      replace h := Option.bind_eq_some_iff.mp h
      obtain ⟨f77, e78, h⟩ := h
      replace h := Option.bind_eq_some_iff.mp h
      obtain ⟨x80, e79, h⟩ := h
      refine g_callJ (pc := 222) (st := []) K [] (c_X7_root _ _ _ _ _ e79) hj e78 cl_7 rfl tb_297 tb_294 tb_1 tb_295 tb_296 hd_X7_root ⟨Nat.le_of_ble_eq_true rfl, Nat.le_of_ble_eq_true rfl⟩ rfl (sw_rm (Nat.le_of_ble_eq_true rfl)) ⟨by show _ ≤ 600000; omega, by show _ ≤ 7302250; omega⟩ dL_law_222 (fun hj => ?_)
      change sw_dj n fc fm at hj
      refine g_aload_n (pc := 225) K 2 rfl rfl dL_law_225 ?_
      replace h := Option.bind_eq_some_iff.mp h
      obtain ⟨f81, e82, h⟩ := h
      replace h := Option.bind_eq_some_iff.mp h
      obtain ⟨x84, e83, h⟩ := h
      refine g_swap hj ?_
      refine g_callJ (pc := 226) (st := [I_ x80]) K [] (c_X8_root _ _ _ _ _ e83) hj.symm e82 cl_8 rfl tb_675 tb_672 tb_7 tb_673 tb_674 hd_X8_root ⟨Nat.le_of_ble_eq_true rfl, Nat.le_of_ble_eq_true rfl⟩ rfl (sw_rm (Nat.le_of_ble_eq_true rfl)) ⟨by show _ ≤ 600000; omega, by show _ ≤ 7302250; omega⟩ dL_law_226 (fun hj => ?_)
      refine g_swap hj ?_
      replace hj := hj.symm
      change sw_dj n fc fm at hj
      refine g_icmp_eq (pc := 229) K 577 dL_law_229 (by decide) (fun c85 => ?_) (fun c85 => ?_)
      · replace h := (if_pos c85).symm.trans h
        refine g_sub K [0, 1, 2, 3] rfl ?_
        exact w_law_577 K X hT hrec _ _ _ _ _ _ _ _ hj h (by omega) (by omega)
      · replace h := (if_neg c85).symm.trans h
        refine g_iconst (pc := 232) (v := 0) K dL_law_232 (by decide) ?_
        exact absurd (Option.some.inj h) (by decide)
    replace h := (if_neg c4_5).symm.trans h
    by_cases c4_6 : ((x2 &&& 15)) = 6
    · replace h := (if_pos c4_6).symm.trans h
      refine g_tabIn (pc := 42) (off := 192) K 234 dL_law_42 (by rw [c4_6]; decide) (by rw [c4_6]; decide) (by rw [c4_6]; decide) (by decide) ?_
      refine g_aload_n (pc := 234) K 1 rfl rfl dL_law_234 ?_
      refine g_aload_n (pc := 235) K 0 rfl rfl dL_law_235 ?_
      refine g_iload_n (pc := 236) K 3 rfl rfl dL_law_236 ?_
      refine g_iconst (pc := 237) (v := 1) K dL_law_237 (by decide) ?_
      refine g_iadd (pc := 238) K dL_law_238 ?_
      replace h := Option.bind_eq_some_iff.mp h
      obtain ⟨x87, e88, h⟩ := h
      refine g_sld (pc := 239) K X e88 dL_law_239 ?_
      refine g_aload_n (pc := 240) K 0 rfl rfl dL_law_240 ?_
      refine g_iload_n (pc := 241) K 3 rfl rfl dL_law_241 ?_
      refine g_iconst (pc := 242) (v := 2) K dL_law_242 (by decide) ?_
      refine g_iadd (pc := 243) K dL_law_243 ?_
      replace h := Option.bind_eq_some_iff.mp h
      obtain ⟨x89, e90, h⟩ := h
      refine g_sld (pc := 244) K X e90 dL_law_244 ?_
      replace h := Option.bind_eq_some_iff.mp h
      obtain ⟨f91, e92, h⟩ := h
      replace h := Option.bind_eq_some_iff.mp h
      obtain ⟨x94, e93, h⟩ := h
      refine g_callJ (pc := 245) (st := []) K [I_ x87, I_ x89] (c_X7_within _ _ _ _ _ _ _ e93) hj e92 cl_7 rfl tb_301 tb_298 tb_1 tb_299 tb_300 hd_X7_within ⟨Nat.le_of_ble_eq_true rfl, Nat.le_of_ble_eq_true rfl⟩ rfl (sw_rm (Nat.le_of_ble_eq_true rfl)) ⟨by show _ ≤ 600000; omega, by show _ ≤ 7302250; omega⟩ dL_law_245 (fun hj => ?_)
      change sw_dj n fc fm at hj
      refine g_aload_n (pc := 248) K 2 rfl rfl dL_law_248 ?_
      refine g_aload_n (pc := 249) K 0 rfl rfl dL_law_249 ?_
      refine g_iload_n (pc := 250) K 3 rfl rfl dL_law_250 ?_
      refine g_iconst (pc := 251) (v := 1) K dL_law_251 (by decide) ?_
      refine g_iadd (pc := 252) K dL_law_252 ?_
      replace h := Option.bind_eq_some_iff.mp h
      obtain ⟨x95, e96, h⟩ := h
      refine g_sld (pc := 253) K X e96 dL_law_253 ?_
      refine g_aload_n (pc := 254) K 0 rfl rfl dL_law_254 ?_
      refine g_iload_n (pc := 255) K 3 rfl rfl dL_law_255 ?_
      refine g_iconst (pc := 256) (v := 2) K dL_law_256 (by decide) ?_
      refine g_iadd (pc := 257) K dL_law_257 ?_
      replace h := Option.bind_eq_some_iff.mp h
      obtain ⟨x97, e98, h⟩ := h
      refine g_sld (pc := 258) K X e98 dL_law_258 ?_
      replace h := Option.bind_eq_some_iff.mp h
      obtain ⟨f99, e100, h⟩ := h
      replace h := Option.bind_eq_some_iff.mp h
      obtain ⟨x102, e101, h⟩ := h
      refine g_swap hj ?_
      refine g_callJ (pc := 259) (st := [I_ x94]) K [I_ x95, I_ x97] (c_X8_within _ _ _ _ _ _ _ e101) hj.symm e100 cl_8 rfl tb_671 tb_668 tb_7 tb_669 tb_670 hd_X8_within ⟨Nat.le_of_ble_eq_true rfl, Nat.le_of_ble_eq_true rfl⟩ rfl (sw_rm (Nat.le_of_ble_eq_true rfl)) ⟨by show _ ≤ 600000; omega, by show _ ≤ 7302250; omega⟩ dL_law_259 (fun hj => ?_)
      refine g_swap hj ?_
      replace hj := hj.symm
      change sw_dj n fc fm at hj
      refine g_icmp_eq (pc := 262) K 577 dL_law_262 (by decide) (fun c103 => ?_) (fun c103 => ?_)
      · replace h := (if_pos c103).symm.trans h
        refine g_sub K [0, 1, 2, 3] rfl ?_
        exact w_law_577 K X hT hrec _ _ _ _ _ _ _ _ hj h (by omega) (by omega)
      · replace h := (if_neg c103).symm.trans h
        refine g_iconst (pc := 265) (v := 0) K dL_law_265 (by decide) ?_
        exact absurd (Option.some.inj h) (by decide)
    replace h := (if_neg c4_6).symm.trans h
    by_cases c4_7 : ((x2 &&& 15)) = 7
    · replace h := (if_pos c4_7).symm.trans h
      refine g_tabIn (pc := 42) (off := 225) K 267 dL_law_42 (by rw [c4_7]; decide) (by rw [c4_7]; decide) (by rw [c4_7]; decide) (by decide) ?_
      refine g_aload_n (pc := 267) K 1 rfl rfl dL_law_267 ?_
      refine g_aload_n (pc := 268) K 0 rfl rfl dL_law_268 ?_
      refine g_iload_n (pc := 269) K 3 rfl rfl dL_law_269 ?_
      refine g_iconst (pc := 270) (v := 1) K dL_law_270 (by decide) ?_
      refine g_iadd (pc := 271) K dL_law_271 ?_
      replace h := Option.bind_eq_some_iff.mp h
      obtain ⟨x105, e106, h⟩ := h
      refine g_sld (pc := 272) K X e106 dL_law_272 ?_
      refine g_aload_n (pc := 273) K 0 rfl rfl dL_law_273 ?_
      refine g_iload_n (pc := 274) K 3 rfl rfl dL_law_274 ?_
      refine g_iconst (pc := 275) (v := 2) K dL_law_275 (by decide) ?_
      refine g_iadd (pc := 276) K dL_law_276 ?_
      replace h := Option.bind_eq_some_iff.mp h
      obtain ⟨x107, e108, h⟩ := h
      refine g_sld (pc := 277) K X e108 dL_law_277 ?_
      refine g_aload_n (pc := 278) K 0 rfl rfl dL_law_278 ?_
      refine g_iload_n (pc := 279) K 3 rfl rfl dL_law_279 ?_
      refine g_iconst (pc := 280) (v := 3) K dL_law_280 (by decide) ?_
      refine g_iadd (pc := 281) K dL_law_281 ?_
      replace h := Option.bind_eq_some_iff.mp h
      obtain ⟨x109, e110, h⟩ := h
      refine g_sld (pc := 282) K X e110 dL_law_282 ?_
      refine g_if_eq (pc := 283) K 290 dL_law_283 (by decide) (fun c111 => ?_) (fun c111 => ?_)
      · replace h := (if_pos c111).symm.trans h
        refine g_iconst (pc := 290) (v := 0) K dL_law_290 (by decide) ?_
        refine g_sub K [0, 1, 2, 3] rfl ?_
        exact w_law_291 K X hT hrec _ _ _ _ _ _ _ _ _ _ _ _ hj h (by omega) (by omega)
      · replace h := (if_neg c111).symm.trans h
        refine g_iconst (pc := 286) (v := 1) K dL_law_286 (by decide) ?_
        refine g_goto (pc := 287) (tgt := 291) K dL_law_287 (by decide) ?_
        refine g_sub K [0, 1, 2, 3] rfl ?_
        exact w_law_291 K X hT hrec _ _ _ _ _ _ _ _ _ _ _ _ hj h (by omega) (by omega)
    replace h := (if_neg c4_7).symm.trans h
    by_cases c4_8 : ((x2 &&& 15)) = 8
    · replace h := (if_pos c4_8).symm.trans h
      refine g_tabIn (pc := 42) (off := 284) K 326 dL_law_42 (by rw [c4_8]; decide) (by rw [c4_8]; decide) (by rw [c4_8]; decide) (by decide) ?_
      refine g_aload_n (pc := 326) K 1 rfl rfl dL_law_326 ?_
      refine g_aload_n (pc := 327) K 0 rfl rfl dL_law_327 ?_
      refine g_iload_n (pc := 328) K 3 rfl rfl dL_law_328 ?_
      refine g_iconst (pc := 329) (v := 1) K dL_law_329 (by decide) ?_
      refine g_iadd (pc := 330) K dL_law_330 ?_
      replace h := Option.bind_eq_some_iff.mp h
      obtain ⟨x113, e114, h⟩ := h
      refine g_sld (pc := 331) K X e114 dL_law_331 ?_
      replace h := Option.bind_eq_some_iff.mp h
      obtain ⟨f115, e116, h⟩ := h
      replace h := Option.bind_eq_some_iff.mp h
      obtain ⟨x118, e117, h⟩ := h
      refine g_callJ (pc := 332) (st := []) K [I_ x113] (c_X7_token _ _ _ _ _ _ e117) hj e116 cl_7 rfl tb_381 tb_378 tb_1 tb_379 tb_380 hd_X7_token ⟨Nat.le_of_ble_eq_true rfl, Nat.le_of_ble_eq_true rfl⟩ rfl (sw_rm (Nat.le_of_ble_eq_true rfl)) ⟨by show _ ≤ 600000; omega, by show _ ≤ 7302250; omega⟩ dL_law_332 (fun hj => ?_)
      change sw_dj n fc fm at hj
      refine g_aload_n (pc := 335) K 2 rfl rfl dL_law_335 ?_
      refine g_aload_n (pc := 336) K 0 rfl rfl dL_law_336 ?_
      refine g_iload_n (pc := 337) K 3 rfl rfl dL_law_337 ?_
      refine g_iconst (pc := 338) (v := 1) K dL_law_338 (by decide) ?_
      refine g_iadd (pc := 339) K dL_law_339 ?_
      replace h := Option.bind_eq_some_iff.mp h
      obtain ⟨x119, e120, h⟩ := h
      refine g_sld (pc := 340) K X e120 dL_law_340 ?_
      replace h := Option.bind_eq_some_iff.mp h
      obtain ⟨f121, e122, h⟩ := h
      replace h := Option.bind_eq_some_iff.mp h
      obtain ⟨x124, e123, h⟩ := h
      refine g_swap hj ?_
      refine g_callJ (pc := 341) (st := [I_ x118]) K [I_ x119] (c_X8_token _ _ _ _ _ _ e123) hj.symm e122 cl_8 rfl tb_704 tb_701 tb_7 tb_702 tb_703 hd_X8_token ⟨Nat.le_of_ble_eq_true rfl, Nat.le_of_ble_eq_true rfl⟩ rfl (sw_rm (Nat.le_of_ble_eq_true rfl)) ⟨by show _ ≤ 600000; omega, by show _ ≤ 7302250; omega⟩ dL_law_341 (fun hj => ?_)
      refine g_swap hj ?_
      replace hj := hj.symm
      change sw_dj n fc fm at hj
      refine g_icmp_eq (pc := 344) K 577 dL_law_344 (by decide) (fun c125 => ?_) (fun c125 => ?_)
      · replace h := (if_pos c125).symm.trans h
        refine g_sub K [0, 1, 2, 3] rfl ?_
        exact w_law_577 K X hT hrec _ _ _ _ _ _ _ _ hj h (by omega) (by omega)
      · replace h := (if_neg c125).symm.trans h
        refine g_iconst (pc := 347) (v := 0) K dL_law_347 (by decide) ?_
        exact absurd (Option.some.inj h) (by decide)
    replace h := (if_neg c4_8).symm.trans h
    by_cases c4_9 : ((x2 &&& 15)) = 9
    · replace h := (if_pos c4_9).symm.trans h
      refine g_tabIn (pc := 42) (off := 307) K 349 dL_law_42 (by rw [c4_9]; decide) (by rw [c4_9]; decide) (by rw [c4_9]; decide) (by decide) ?_
      refine g_aload_n (pc := 349) K 1 rfl rfl dL_law_349 ?_
      refine g_aload_n (pc := 350) K 0 rfl rfl dL_law_350 ?_
      refine g_iload_n (pc := 351) K 3 rfl rfl dL_law_351 ?_
      refine g_iconst (pc := 352) (v := 1) K dL_law_352 (by decide) ?_
      refine g_iadd (pc := 353) K dL_law_353 ?_
      replace h := Option.bind_eq_some_iff.mp h
      obtain ⟨x127, e128, h⟩ := h
      refine g_sld (pc := 354) K X e128 dL_law_354 ?_
      refine g_aload_n (pc := 355) K 0 rfl rfl dL_law_355 ?_
      refine g_iload_n (pc := 356) K 3 rfl rfl dL_law_356 ?_
      refine g_iconst (pc := 357) (v := 2) K dL_law_357 (by decide) ?_
      refine g_iadd (pc := 358) K dL_law_358 ?_
      replace h := Option.bind_eq_some_iff.mp h
      obtain ⟨x129, e130, h⟩ := h
      refine g_sld (pc := 359) K X e130 dL_law_359 ?_
      replace h := Option.bind_eq_some_iff.mp h
      obtain ⟨f131, e132, h⟩ := h
      replace h := sw_b2_eq h
      obtain ⟨x134, σ135, e133, h⟩ := h
      refine g_callJ (pc := 360) (st := []) K [I_ x127, I_ x129] (c_X7_alter _ _ _ _ _ _ _ e133) hj e132 cl_7 rfl tb_389 tb_386 tb_1 tb_387 tb_388 hd_X7_alter ⟨Nat.le_of_ble_eq_true rfl, Nat.le_of_ble_eq_true rfl⟩ rfl (sw_rm (Nat.le_of_ble_eq_true rfl)) ⟨by show _ ≤ 600000; omega, by show _ ≤ 7302250; omega⟩ dL_law_360 (fun hj => ?_)
      refine g_aload_n (pc := 363) K 2 rfl rfl dL_law_363 ?_
      refine g_aload_n (pc := 364) K 0 rfl rfl dL_law_364 ?_
      refine g_iload_n (pc := 365) K 3 rfl rfl dL_law_365 ?_
      refine g_iconst (pc := 366) (v := 1) K dL_law_366 (by decide) ?_
      refine g_iadd (pc := 367) K dL_law_367 ?_
      replace h := Option.bind_eq_some_iff.mp h
      obtain ⟨x136, e137, h⟩ := h
      refine g_sld (pc := 368) K X e137 dL_law_368 ?_
      refine g_aload_n (pc := 369) K 0 rfl rfl dL_law_369 ?_
      refine g_iload_n (pc := 370) K 3 rfl rfl dL_law_370 ?_
      refine g_iconst (pc := 371) (v := 2) K dL_law_371 (by decide) ?_
      refine g_iadd (pc := 372) K dL_law_372 ?_
      replace h := Option.bind_eq_some_iff.mp h
      obtain ⟨x138, e139, h⟩ := h
      refine g_sld (pc := 373) K X e139 dL_law_373 ?_
      replace h := Option.bind_eq_some_iff.mp h
      obtain ⟨f140, e141, h⟩ := h
      replace h := sw_b2_eq h
      obtain ⟨x143, σ144, e142, h⟩ := h
      refine g_swap hj ?_
      refine g_callJ (pc := 374) (st := [I_ x134]) K [I_ x136, I_ x138] (c_X8_alter _ _ _ _ _ _ _ e142) hj.symm e141 cl_8 rfl tb_708 tb_705 tb_7 tb_706 tb_707 hd_X8_alter ⟨Nat.le_of_ble_eq_true rfl, Nat.le_of_ble_eq_true rfl⟩ rfl (sw_rm (Nat.le_of_ble_eq_true rfl)) ⟨by show _ ≤ 600000; omega, by show _ ≤ 7302250; omega⟩ dL_law_374 (fun hj => ?_)
      refine g_swap hj ?_
      replace hj := hj.symm
      refine g_icmp_eq (pc := 377) K 577 dL_law_377 (by decide) (fun c145 => ?_) (fun c145 => ?_)
      · replace h := (if_pos c145).symm.trans h
        refine g_sub K [0, 1, 2, 3] rfl ?_
        exact w_law_577 K X hT hrec _ _ _ _ _ _ _ _ hj h (by omega) (by omega)
      · replace h := (if_neg c145).symm.trans h
        refine g_iconst (pc := 380) (v := 0) K dL_law_380 (by decide) ?_
        exact absurd (Option.some.inj h) (by decide)
    replace h := (if_neg c4_9).symm.trans h
    by_cases c4_10 : ((x2 &&& 15)) = 10
    · replace h := (if_pos c4_10).symm.trans h
      refine g_tabIn (pc := 42) (off := 340) K 382 dL_law_42 (by rw [c4_10]; decide) (by rw [c4_10]; decide) (by rw [c4_10]; decide) (by decide) ?_
      refine g_aload_n (pc := 382) K 1 rfl rfl dL_law_382 ?_
      refine g_aload_n (pc := 383) K 0 rfl rfl dL_law_383 ?_
      refine g_iload_n (pc := 384) K 3 rfl rfl dL_law_384 ?_
      refine g_iconst (pc := 385) (v := 1) K dL_law_385 (by decide) ?_
      refine g_iadd (pc := 386) K dL_law_386 ?_
      replace h := Option.bind_eq_some_iff.mp h
      obtain ⟨x147, e148, h⟩ := h
      refine g_sld (pc := 387) K X e148 dL_law_387 ?_
      replace h := Option.bind_eq_some_iff.mp h
      obtain ⟨f149, e150, h⟩ := h
      replace h := sw_b2_eq h
      obtain ⟨x152, σ153, e151, h⟩ := h
      refine g_callJ (pc := 388) (st := []) K [I_ x147] (c_X7_trim _ _ _ _ _ _ e151) hj e150 cl_7 rfl tb_393 tb_390 tb_1 tb_391 tb_392 hd_X7_trim ⟨Nat.le_of_ble_eq_true rfl, Nat.le_of_ble_eq_true rfl⟩ rfl (sw_rm (Nat.le_of_ble_eq_true rfl)) ⟨by show _ ≤ 600000; omega, by show _ ≤ 7302250; omega⟩ dL_law_388 (fun hj => ?_)
      refine g_aload_n (pc := 391) K 2 rfl rfl dL_law_391 ?_
      refine g_aload_n (pc := 392) K 0 rfl rfl dL_law_392 ?_
      refine g_iload_n (pc := 393) K 3 rfl rfl dL_law_393 ?_
      refine g_iconst (pc := 394) (v := 1) K dL_law_394 (by decide) ?_
      refine g_iadd (pc := 395) K dL_law_395 ?_
      replace h := Option.bind_eq_some_iff.mp h
      obtain ⟨x154, e155, h⟩ := h
      refine g_sld (pc := 396) K X e155 dL_law_396 ?_
      replace h := Option.bind_eq_some_iff.mp h
      obtain ⟨f156, e157, h⟩ := h
      replace h := sw_b2_eq h
      obtain ⟨x159, σ160, e158, h⟩ := h
      refine g_swap hj ?_
      refine g_callJ (pc := 397) (st := [I_ x152]) K [I_ x154] (c_X8_trim _ _ _ _ _ _ e158) hj.symm e157 cl_8 rfl tb_712 tb_709 tb_7 tb_710 tb_711 hd_X8_trim ⟨Nat.le_of_ble_eq_true rfl, Nat.le_of_ble_eq_true rfl⟩ rfl (sw_rm (Nat.le_of_ble_eq_true rfl)) ⟨by show _ ≤ 600000; omega, by show _ ≤ 7302250; omega⟩ dL_law_397 (fun hj => ?_)
      refine g_swap hj ?_
      replace hj := hj.symm
      refine g_icmp_eq (pc := 400) K 577 dL_law_400 (by decide) (fun c161 => ?_) (fun c161 => ?_)
      · replace h := (if_pos c161).symm.trans h
        refine g_sub K [0, 1, 2, 3] rfl ?_
        exact w_law_577 K X hT hrec _ _ _ _ _ _ _ _ hj h (by omega) (by omega)
      · replace h := (if_neg c161).symm.trans h
        refine g_iconst (pc := 403) (v := 0) K dL_law_403 (by decide) ?_
        exact absurd (Option.some.inj h) (by decide)
    replace h := (if_neg c4_10).symm.trans h
    by_cases c4_11 : ((x2 &&& 15)) = 11
    · replace h := (if_pos c4_11).symm.trans h
      refine g_tabIn (pc := 42) (off := 363) K 405 dL_law_42 (by rw [c4_11]; decide) (by rw [c4_11]; decide) (by rw [c4_11]; decide) (by decide) ?_
      refine g_aload_n (pc := 405) K 1 rfl rfl dL_law_405 ?_
      refine g_aload_n (pc := 406) K 0 rfl rfl dL_law_406 ?_
      refine g_iload_n (pc := 407) K 3 rfl rfl dL_law_407 ?_
      refine g_iconst (pc := 408) (v := 1) K dL_law_408 (by decide) ?_
      refine g_iadd (pc := 409) K dL_law_409 ?_
      replace h := Option.bind_eq_some_iff.mp h
      obtain ⟨x163, e164, h⟩ := h
      refine g_sld (pc := 410) K X e164 dL_law_410 ?_
      refine g_aload_n (pc := 411) K 0 rfl rfl dL_law_411 ?_
      refine g_iload_n (pc := 412) K 3 rfl rfl dL_law_412 ?_
      refine g_iconst (pc := 413) (v := 2) K dL_law_413 (by decide) ?_
      refine g_iadd (pc := 414) K dL_law_414 ?_
      replace h := Option.bind_eq_some_iff.mp h
      obtain ⟨x165, e166, h⟩ := h
      refine g_sld (pc := 415) K X e166 dL_law_415 ?_
      refine g_aload_n (pc := 416) K 0 rfl rfl dL_law_416 ?_
      refine g_iload_n (pc := 417) K 3 rfl rfl dL_law_417 ?_
      refine g_iconst (pc := 418) (v := 3) K dL_law_418 (by decide) ?_
      refine g_iadd (pc := 419) K dL_law_419 ?_
      replace h := Option.bind_eq_some_iff.mp h
      obtain ⟨x167, e168, h⟩ := h
      refine g_sld (pc := 420) K X e168 dL_law_420 ?_
      replace h := Option.bind_eq_some_iff.mp h
      obtain ⟨f169, e170, h⟩ := h
      replace h := sw_b2_eq h
      obtain ⟨x172, σ173, e171, h⟩ := h
      refine g_callJ (pc := 421) (st := []) K [I_ x163, I_ x165, I_ x167] (c_X7_check _ _ _ _ _ _ _ _ e171) hj e170 cl_7 rfl tb_397 tb_394 tb_1 tb_395 tb_396 hd_X7_check ⟨Nat.le_of_ble_eq_true rfl, Nat.le_of_ble_eq_true rfl⟩ rfl (sw_rm (Nat.le_of_ble_eq_true rfl)) ⟨by show _ ≤ 600000; omega, by show _ ≤ 7302250; omega⟩ dL_law_421 (fun hj => ?_)
      refine g_aload_n (pc := 424) K 2 rfl rfl dL_law_424 ?_
      refine g_aload_n (pc := 425) K 0 rfl rfl dL_law_425 ?_
      refine g_iload_n (pc := 426) K 3 rfl rfl dL_law_426 ?_
      refine g_iconst (pc := 427) (v := 1) K dL_law_427 (by decide) ?_
      refine g_iadd (pc := 428) K dL_law_428 ?_
      replace h := Option.bind_eq_some_iff.mp h
      obtain ⟨x174, e175, h⟩ := h
      refine g_sld (pc := 429) K X e175 dL_law_429 ?_
      refine g_aload_n (pc := 430) K 0 rfl rfl dL_law_430 ?_
      refine g_iload_n (pc := 431) K 3 rfl rfl dL_law_431 ?_
      refine g_iconst (pc := 432) (v := 2) K dL_law_432 (by decide) ?_
      refine g_iadd (pc := 433) K dL_law_433 ?_
      replace h := Option.bind_eq_some_iff.mp h
      obtain ⟨x176, e177, h⟩ := h
      refine g_sld (pc := 434) K X e177 dL_law_434 ?_
      refine g_aload_n (pc := 435) K 0 rfl rfl dL_law_435 ?_
      refine g_iload_n (pc := 436) K 3 rfl rfl dL_law_436 ?_
      refine g_iconst (pc := 437) (v := 3) K dL_law_437 (by decide) ?_
      refine g_iadd (pc := 438) K dL_law_438 ?_
      replace h := Option.bind_eq_some_iff.mp h
      obtain ⟨x178, e179, h⟩ := h
      refine g_sld (pc := 439) K X e179 dL_law_439 ?_
      replace h := Option.bind_eq_some_iff.mp h
      obtain ⟨f180, e181, h⟩ := h
      replace h := sw_b2_eq h
      obtain ⟨x183, σ184, e182, h⟩ := h
      refine g_swap hj ?_
      refine g_callJ (pc := 440) (st := [I_ x172]) K [I_ x174, I_ x176, I_ x178] (c_X8_check _ _ _ _ _ _ _ _ e182) hj.symm e181 cl_8 rfl tb_716 tb_713 tb_7 tb_714 tb_715 hd_X8_check ⟨Nat.le_of_ble_eq_true rfl, Nat.le_of_ble_eq_true rfl⟩ rfl (sw_rm (Nat.le_of_ble_eq_true rfl)) ⟨by show _ ≤ 600000; omega, by show _ ≤ 7302250; omega⟩ dL_law_440 (fun hj => ?_)
      refine g_swap hj ?_
      replace hj := hj.symm
      refine g_icmp_eq (pc := 443) K 577 dL_law_443 (by decide) (fun c185 => ?_) (fun c185 => ?_)
      · replace h := (if_pos c185).symm.trans h
        refine g_sub K [0, 1, 2, 3] rfl ?_
        exact w_law_577 K X hT hrec _ _ _ _ _ _ _ _ hj h (by omega) (by omega)
      · replace h := (if_neg c185).symm.trans h
        refine g_iconst (pc := 446) (v := 0) K dL_law_446 (by decide) ?_
        exact absurd (Option.some.inj h) (by decide)
    replace h := (if_neg c4_11).symm.trans h
    by_cases c4_12 : ((x2 &&& 15)) = 12
    · replace h := (if_pos c4_12).symm.trans h
      refine g_tabIn (pc := 42) (off := 406) K 448 dL_law_42 (by rw [c4_12]; decide) (by rw [c4_12]; decide) (by rw [c4_12]; decide) (by decide) ?_
      refine g_aload_n (pc := 448) K 1 rfl rfl dL_law_448 ?_
      refine g_aload_n (pc := 449) K 0 rfl rfl dL_law_449 ?_
      refine g_iload_n (pc := 450) K 3 rfl rfl dL_law_450 ?_
      refine g_iconst (pc := 451) (v := 1) K dL_law_451 (by decide) ?_
      refine g_iadd (pc := 452) K dL_law_452 ?_
      replace h := Option.bind_eq_some_iff.mp h
      obtain ⟨x187, e188, h⟩ := h
      refine g_sld (pc := 453) K X e188 dL_law_453 ?_
      refine g_aload_n (pc := 454) K 0 rfl rfl dL_law_454 ?_
      refine g_iload_n (pc := 455) K 3 rfl rfl dL_law_455 ?_
      refine g_iconst (pc := 456) (v := 2) K dL_law_456 (by decide) ?_
      refine g_iadd (pc := 457) K dL_law_457 ?_
      replace h := Option.bind_eq_some_iff.mp h
      obtain ⟨x189, e190, h⟩ := h
      refine g_sld (pc := 458) K X e190 dL_law_458 ?_
      refine g_aload_n (pc := 459) K 0 rfl rfl dL_law_459 ?_
      refine g_iload_n (pc := 460) K 3 rfl rfl dL_law_460 ?_
      refine g_iconst (pc := 461) (v := 3) K dL_law_461 (by decide) ?_
      refine g_iadd (pc := 462) K dL_law_462 ?_
      replace h := Option.bind_eq_some_iff.mp h
      obtain ⟨x191, e192, h⟩ := h
      refine g_sld (pc := 463) K X e192 dL_law_463 ?_
      replace h := Option.bind_eq_some_iff.mp h
      obtain ⟨f193, e194, h⟩ := h
      replace h := sw_b2_eq h
      obtain ⟨x196, σ197, e195, h⟩ := h
      refine g_callJ (pc := 464) (st := []) K [I_ x187, I_ x189, I_ x191] (c_X7_count _ _ _ _ _ _ _ _ e195) hj e194 cl_7 rfl tb_482 tb_479 tb_1 tb_480 tb_481 hd_X7_count ⟨Nat.le_of_ble_eq_true rfl, Nat.le_of_ble_eq_true rfl⟩ rfl (sw_rm (Nat.le_of_ble_eq_true rfl)) ⟨by show _ ≤ 600000; omega, by show _ ≤ 7302250; omega⟩ dL_law_464 (fun hj => ?_)
      refine g_aload_n (pc := 467) K 2 rfl rfl dL_law_467 ?_
      refine g_aload_n (pc := 468) K 0 rfl rfl dL_law_468 ?_
      refine g_iload_n (pc := 469) K 3 rfl rfl dL_law_469 ?_
      refine g_iconst (pc := 470) (v := 1) K dL_law_470 (by decide) ?_
      refine g_iadd (pc := 471) K dL_law_471 ?_
      replace h := Option.bind_eq_some_iff.mp h
      obtain ⟨x198, e199, h⟩ := h
      refine g_sld (pc := 472) K X e199 dL_law_472 ?_
      refine g_aload_n (pc := 473) K 0 rfl rfl dL_law_473 ?_
      refine g_iload_n (pc := 474) K 3 rfl rfl dL_law_474 ?_
      refine g_iconst (pc := 475) (v := 2) K dL_law_475 (by decide) ?_
      refine g_iadd (pc := 476) K dL_law_476 ?_
      replace h := Option.bind_eq_some_iff.mp h
      obtain ⟨x200, e201, h⟩ := h
      refine g_sld (pc := 477) K X e201 dL_law_477 ?_
      refine g_aload_n (pc := 478) K 0 rfl rfl dL_law_478 ?_
      refine g_iload_n (pc := 479) K 3 rfl rfl dL_law_479 ?_
      refine g_iconst (pc := 480) (v := 3) K dL_law_480 (by decide) ?_
      refine g_iadd (pc := 481) K dL_law_481 ?_
      replace h := Option.bind_eq_some_iff.mp h
      obtain ⟨x202, e203, h⟩ := h
      refine g_sld (pc := 482) K X e203 dL_law_482 ?_
      replace h := Option.bind_eq_some_iff.mp h
      obtain ⟨f204, e205, h⟩ := h
      replace h := sw_b2_eq h
      obtain ⟨x207, σ208, e206, h⟩ := h
      refine g_swap hj ?_
      refine g_callJ (pc := 483) (st := [I_ x196]) K [I_ x198, I_ x200, I_ x202] (c_X8_count _ _ _ _ _ _ _ _ e206) hj.symm e205 cl_8 rfl tb_776 tb_773 tb_7 tb_774 tb_775 hd_X8_count ⟨Nat.le_of_ble_eq_true rfl, Nat.le_of_ble_eq_true rfl⟩ rfl (sw_rm (Nat.le_of_ble_eq_true rfl)) ⟨by show _ ≤ 600000; omega, by show _ ≤ 7302250; omega⟩ dL_law_483 (fun hj => ?_)
      refine g_swap hj ?_
      replace hj := hj.symm
      refine g_icmp_eq (pc := 486) K 577 dL_law_486 (by decide) (fun c209 => ?_) (fun c209 => ?_)
      · replace h := (if_pos c209).symm.trans h
        refine g_sub K [0, 1, 2, 3] rfl ?_
        exact w_law_577 K X hT hrec _ _ _ _ _ _ _ _ hj h (by omega) (by omega)
      · replace h := (if_neg c209).symm.trans h
        refine g_iconst (pc := 489) (v := 0) K dL_law_489 (by decide) ?_
        exact absurd (Option.some.inj h) (by decide)
    replace h := (if_neg c4_12).symm.trans h
    by_cases c4_13 : ((x2 &&& 15)) = 13
    · replace h := (if_pos c4_13).symm.trans h
      refine g_tabIn (pc := 42) (off := 449) K 491 dL_law_42 (by rw [c4_13]; decide) (by rw [c4_13]; decide) (by rw [c4_13]; decide) (by decide) ?_
      refine g_aload_n (pc := 491) K 1 rfl rfl dL_law_491 ?_
      refine g_aload_n (pc := 492) K 0 rfl rfl dL_law_492 ?_
      refine g_iload_n (pc := 493) K 3 rfl rfl dL_law_493 ?_
      refine g_iconst (pc := 494) (v := 1) K dL_law_494 (by decide) ?_
      refine g_iadd (pc := 495) K dL_law_495 ?_
      replace h := Option.bind_eq_some_iff.mp h
      obtain ⟨x211, e212, h⟩ := h
      refine g_sld (pc := 496) K X e212 dL_law_496 ?_
      refine g_aload_n (pc := 497) K 0 rfl rfl dL_law_497 ?_
      refine g_iload_n (pc := 498) K 3 rfl rfl dL_law_498 ?_
      refine g_iconst (pc := 499) (v := 2) K dL_law_499 (by decide) ?_
      refine g_iadd (pc := 500) K dL_law_500 ?_
      replace h := Option.bind_eq_some_iff.mp h
      obtain ⟨x213, e214, h⟩ := h
      refine g_sld (pc := 501) K X e214 dL_law_501 ?_
      replace h := Option.bind_eq_some_iff.mp h
      obtain ⟨f215, e216, h⟩ := h
      replace h := Option.bind_eq_some_iff.mp h
      obtain ⟨x218, e217, h⟩ := h
      refine g_callJ (pc := 502) (st := []) K [I_ x211, I_ x213] (c_X7_row _ _ _ _ _ _ _ e217) hj e216 cl_7 rfl tb_491 tb_488 tb_1 tb_489 tb_490 hd_X7_row ⟨Nat.le_of_ble_eq_true rfl, Nat.le_of_ble_eq_true rfl⟩ rfl (sw_rm (Nat.le_of_ble_eq_true rfl)) ⟨by show _ ≤ 600000; omega, by show _ ≤ 7302250; omega⟩ dL_law_502 (fun hj => ?_)
      change sw_dj n fc fm at hj
      refine g_aload_n (pc := 505) K 2 rfl rfl dL_law_505 ?_
      refine g_aload_n (pc := 506) K 0 rfl rfl dL_law_506 ?_
      refine g_iload_n (pc := 507) K 3 rfl rfl dL_law_507 ?_
      refine g_iconst (pc := 508) (v := 1) K dL_law_508 (by decide) ?_
      refine g_iadd (pc := 509) K dL_law_509 ?_
      replace h := Option.bind_eq_some_iff.mp h
      obtain ⟨x219, e220, h⟩ := h
      refine g_sld (pc := 510) K X e220 dL_law_510 ?_
      refine g_aload_n (pc := 511) K 0 rfl rfl dL_law_511 ?_
      refine g_iload_n (pc := 512) K 3 rfl rfl dL_law_512 ?_
      refine g_iconst (pc := 513) (v := 2) K dL_law_513 (by decide) ?_
      refine g_iadd (pc := 514) K dL_law_514 ?_
      replace h := Option.bind_eq_some_iff.mp h
      obtain ⟨x221, e222, h⟩ := h
      refine g_sld (pc := 515) K X e222 dL_law_515 ?_
      replace h := Option.bind_eq_some_iff.mp h
      obtain ⟨f223, e224, h⟩ := h
      replace h := Option.bind_eq_some_iff.mp h
      obtain ⟨x226, e225, h⟩ := h
      refine g_swap hj ?_
      refine g_callJ (pc := 516) (st := [I_ x218]) K [I_ x219, I_ x221] (c_X8_row _ _ _ _ _ _ _ e225) hj.symm e224 cl_8 rfl tb_780 tb_777 tb_7 tb_778 tb_779 hd_X8_row ⟨Nat.le_of_ble_eq_true rfl, Nat.le_of_ble_eq_true rfl⟩ rfl (sw_rm (Nat.le_of_ble_eq_true rfl)) ⟨by show _ ≤ 600000; omega, by show _ ≤ 7302250; omega⟩ dL_law_516 (fun hj => ?_)
      refine g_swap hj ?_
      replace hj := hj.symm
      change sw_dj n fc fm at hj
      refine g_icmp_eq (pc := 519) K 577 dL_law_519 (by decide) (fun c227 => ?_) (fun c227 => ?_)
      · replace h := (if_pos c227).symm.trans h
        refine g_sub K [0, 1, 2, 3] rfl ?_
        exact w_law_577 K X hT hrec _ _ _ _ _ _ _ _ hj h (by omega) (by omega)
      · replace h := (if_neg c227).symm.trans h
        refine g_iconst (pc := 522) (v := 0) K dL_law_522 (by decide) ?_
        exact absurd (Option.some.inj h) (by decide)
    replace h := (if_neg c4_13).symm.trans h
    by_cases c4_14 : ((x2 &&& 15)) = 14
    · replace h := (if_pos c4_14).symm.trans h
      refine g_tabIn (pc := 42) (off := 482) K 524 dL_law_42 (by rw [c4_14]; decide) (by rw [c4_14]; decide) (by rw [c4_14]; decide) (by decide) ?_
      refine g_aload_n (pc := 524) K 1 rfl rfl dL_law_524 ?_
      refine g_aload_n (pc := 525) K 0 rfl rfl dL_law_525 ?_
      refine g_iload_n (pc := 526) K 3 rfl rfl dL_law_526 ?_
      refine g_iconst (pc := 527) (v := 1) K dL_law_527 (by decide) ?_
      refine g_iadd (pc := 528) K dL_law_528 ?_
      replace h := Option.bind_eq_some_iff.mp h
      obtain ⟨x229, e230, h⟩ := h
      refine g_sld (pc := 529) K X e230 dL_law_529 ?_
      refine g_aload_n (pc := 530) K 0 rfl rfl dL_law_530 ?_
      refine g_iload_n (pc := 531) K 3 rfl rfl dL_law_531 ?_
      refine g_iconst (pc := 532) (v := 2) K dL_law_532 (by decide) ?_
      refine g_iadd (pc := 533) K dL_law_533 ?_
      replace h := Option.bind_eq_some_iff.mp h
      obtain ⟨x231, e232, h⟩ := h
      refine g_sld (pc := 534) K X e232 dL_law_534 ?_
      refine g_aload_n (pc := 535) K 0 rfl rfl dL_law_535 ?_
      refine g_iload_n (pc := 536) K 3 rfl rfl dL_law_536 ?_
      refine g_iconst (pc := 537) (v := 3) K dL_law_537 (by decide) ?_
      refine g_iadd (pc := 538) K dL_law_538 ?_
      replace h := Option.bind_eq_some_iff.mp h
      obtain ⟨x233, e234, h⟩ := h
      refine g_sld (pc := 539) K X e234 dL_law_539 ?_
      refine g_aload_n (pc := 540) K 0 rfl rfl dL_law_540 ?_
      refine g_iload_n (pc := 541) K 3 rfl rfl dL_law_541 ?_
      refine g_iconst (pc := 542) (v := 4) K dL_law_542 (by decide) ?_
      refine g_iadd (pc := 543) K dL_law_543 ?_
      replace h := Option.bind_eq_some_iff.mp h
      obtain ⟨x235, e236, h⟩ := h
      refine g_sld (pc := 544) K X e236 dL_law_544 ?_
      replace h := Option.bind_eq_some_iff.mp h
      obtain ⟨f237, e238, h⟩ := h
      replace h := Option.bind_eq_some_iff.mp h
      obtain ⟨x240, e239, h⟩ := h
      refine g_callJ (pc := 545) (st := []) K [I_ x229, I_ x231, I_ x233, I_ x235] (c_X7_digest _ _ _ _ _ _ _ _ _ e239) hj e238 cl_7 rfl tb_495 tb_492 tb_1 tb_493 tb_494 hd_X7_digest ⟨Nat.le_of_ble_eq_true rfl, Nat.le_of_ble_eq_true rfl⟩ rfl (sw_rm (Nat.le_of_ble_eq_true rfl)) ⟨by show _ ≤ 600000; omega, by show _ ≤ 7302250; omega⟩ dL_law_545 (fun hj => ?_)
      change sw_dj n fc fm at hj
      refine g_aload_n (pc := 548) K 2 rfl rfl dL_law_548 ?_
      refine g_aload_n (pc := 549) K 0 rfl rfl dL_law_549 ?_
      refine g_iload_n (pc := 550) K 3 rfl rfl dL_law_550 ?_
      refine g_iconst (pc := 551) (v := 1) K dL_law_551 (by decide) ?_
      refine g_iadd (pc := 552) K dL_law_552 ?_
      replace h := Option.bind_eq_some_iff.mp h
      obtain ⟨x241, e242, h⟩ := h
      refine g_sld (pc := 553) K X e242 dL_law_553 ?_
      refine g_aload_n (pc := 554) K 0 rfl rfl dL_law_554 ?_
      refine g_iload_n (pc := 555) K 3 rfl rfl dL_law_555 ?_
      refine g_iconst (pc := 556) (v := 2) K dL_law_556 (by decide) ?_
      refine g_iadd (pc := 557) K dL_law_557 ?_
      replace h := Option.bind_eq_some_iff.mp h
      obtain ⟨x243, e244, h⟩ := h
      refine g_sld (pc := 558) K X e244 dL_law_558 ?_
      refine g_aload_n (pc := 559) K 0 rfl rfl dL_law_559 ?_
      refine g_iload_n (pc := 560) K 3 rfl rfl dL_law_560 ?_
      refine g_iconst (pc := 561) (v := 3) K dL_law_561 (by decide) ?_
      refine g_iadd (pc := 562) K dL_law_562 ?_
      replace h := Option.bind_eq_some_iff.mp h
      obtain ⟨x245, e246, h⟩ := h
      refine g_sld (pc := 563) K X e246 dL_law_563 ?_
      refine g_aload_n (pc := 564) K 0 rfl rfl dL_law_564 ?_
      refine g_iload_n (pc := 565) K 3 rfl rfl dL_law_565 ?_
      refine g_iconst (pc := 566) (v := 4) K dL_law_566 (by decide) ?_
      refine g_iadd (pc := 567) K dL_law_567 ?_
      replace h := Option.bind_eq_some_iff.mp h
      obtain ⟨x247, e248, h⟩ := h
      refine g_sld (pc := 568) K X e248 dL_law_568 ?_
      replace h := Option.bind_eq_some_iff.mp h
      obtain ⟨f249, e250, h⟩ := h
      replace h := Option.bind_eq_some_iff.mp h
      obtain ⟨x252, e251, h⟩ := h
      refine g_swap hj ?_
      refine g_callJ (pc := 569) (st := [I_ x240]) K [I_ x241, I_ x243, I_ x245, I_ x247] (c_X8_digest _ _ _ _ _ _ _ _ _ e251) hj.symm e250 cl_8 rfl tb_679 tb_676 tb_7 tb_677 tb_678 hd_X8_digest ⟨Nat.le_of_ble_eq_true rfl, Nat.le_of_ble_eq_true rfl⟩ rfl (sw_rm (Nat.le_of_ble_eq_true rfl)) ⟨by show _ ≤ 600000; omega, by show _ ≤ 7302250; omega⟩ dL_law_569 (fun hj => ?_)
      refine g_swap hj ?_
      replace hj := hj.symm
      change sw_dj n fc fm at hj
      refine g_icmp_eq (pc := 572) K 577 dL_law_572 (by decide) (fun c253 => ?_) (fun c253 => ?_)
      · replace h := (if_pos c253).symm.trans h
        refine g_sub K [0, 1, 2, 3] rfl ?_
        exact w_law_577 K X hT hrec _ _ _ _ _ _ _ _ hj h (by omega) (by omega)
      · replace h := (if_neg c253).symm.trans h
        refine g_iconst (pc := 575) (v := 0) K dL_law_575 (by decide) ?_
        exact absurd (Option.some.inj h) (by decide)
    replace h := (if_neg c4_14).symm.trans h
    refine g_tabOut (pc := 42) K 577 dL_law_42 (sw_out15 c4_0 c4_1 c4_2 c4_3 c4_4 c4_5 c4_6 c4_7 c4_8 c4_9 c4_10 c4_11 c4_12 c4_13 c4_14) (by decide) ?_
    refine g_sub K [0, 1, 2, 3] rfl ?_
    exact w_law_577 K X hT hrec _ _ _ _ _ _ _ _ hj h (by omega) (by omega)
def b_law_28 (L : Nat) (xs : Nat → Int32) : Nat → Nat → Nat → Int32 → Nat → (Nat → Option sw_E) → (Nat → Option sw_E) → Option Int32
  | 0 => fun _ _ _ _ _ _ => none
  | n + 1 => B_law_28 L xs (b_law_28 L xs n)
theorem wl_law_28 {p : Program} {l : Launch} {e : Env} {s : State} {m : MethodId} {args : Array Value} {below : List Frame} {meth : Method} {c : Code} {Q : State → Prop} {A : Nat → Prop} {D : va_G} {cT : Nat → ClassId} {b L : Nat} {xs : Nat → Int32} (K : sw_C p s m args c cL_law 4 RL A D cT) (X : sw_X b L xs s A) (hT : ∀ (ce sl pc : Nat) (lv : List (Nat × sw_U)) (n : Nat) (fc fm : Nat → Option sw_E), ce ≤ 600000 → sl ≤ 7302250 → decode cL_law pc = .ok (.ireturn, 1) → sw_G p l e room_1 s m args below meth c Q 4 A D cT (sw_j n fc fm) ce sl pc lv [I_ 1]) : ∀ (k : Nat) (v1 : Nat) (v2 : Nat) (v3 : Int32) (n : Nat) (fc fm : Nat → Option sw_E) (ce sl : Nat), sw_dj n fc fm → b_law_28 L xs k v1 v2 v3 n fc fm = some 1 → ce + k * 36 ≤ 600000 → sl + k * 234 ≤ 7302250 → sw_G p l e room_1 s m args below meth c Q 4 A D cT (sw_j n fc fm) ce sl 28 [(0, P_ (some b)), (1, P_ (some v1)), (2, P_ (some v2)), (3, I_ v3)] [] := by
  intro k
  induction k with
  | zero =>
    intro v1 v2 v3 n fc fm ce sl hj h
    exact absurd (show none = some _ from h) (by simp)
  | succ k ih =>
    intro v1 v2 v3 n fc fm ce sl hj h hce hsl
    exact wB_law_28 K X hT (nn := k) (fun _ _ _ _ _ _ _ _ hj h h1 h2 => ih _ _ _ _ _ _ _ _ hj h h1 h2) _ _ _ _ _ _ _ _ hj h hce hsl
def f_law (L : Nat) (xs : Nat → Int32) (n : Nat) : Option Int32 :=
  (some (sw_nw (n, (fun _ => none)) (.inr (7, [.null, .null, .null, .null])))).bind fun σ1 =>
  (f_X7_init n ((sw_c0 L xs)) (σ1.1, σ1.2)).bind fun σ4 =>
  (some (sw_nw (σ4.1, (fun _ => none)) (.inr (8, [.int 0, .int 0, .int 0, .null, .null, .int 0, .null, .null, .null, .null, .null, .null, .int 0, .null, .null, .null, .int 0, .null, .null, .null, .null, .null, .null, .null, .null, .null, .int 0, .int 0, .int 0, .int 0, .null, .null])))).bind fun σ5 =>
  (f_X8_init σ4.1 ((sw_c0 L xs)) (σ5.1, σ5.2)).bind fun σ8 =>
  b_law_28 L xs 514 n σ4.1 1 σ8.1 σ4.2 σ8.2
set_option maxHeartbeats 8000000 in
set_option maxRecDepth 100000 in
theorem w_law_0 {p : Program} {l : Launch} {e : Env} {s : State} {m : MethodId} {args : Array Value} {below : List Frame} {meth : Method} {c : Code} {Q : State → Prop} {A : Nat → Prop} {D : va_G} {cT : Nat → ClassId} {b L : Nat} {xs : Nat → Int32} (K : sw_C p s m args c cL_law 4 RL A D cT) (X : sw_X b L xs s A) (hT : ∀ (ce sl pc : Nat) (lv : List (Nat × sw_U)) (n : Nat) (fc fm : Nat → Option sw_E), ce ≤ 600000 → sl ≤ 7302250 → decode cL_law pc = .ok (.ireturn, 1) → sw_G p l e room_1 s m args below meth c Q 4 A D cT (sw_j n fc fm) ce sl pc lv [I_ 1]) (n : Nat) (h : f_law L xs n = some 1) : sw_G p l e room_1 s m args below meth c Q 4 A D cT (sw_j n (fun _ => none) (fun _ => none)) 0 0 0 [(0, P_ (some b))] [] := by
  have hj : sw_dj n (fun _ => none) (fun _ => none) := ⟨fun _ => Or.inl rfl, fun _ _ h => (by cases h), fun _ _ h => (by cases h)⟩
  unfold f_law at h
  replace h := Option.bind_eq_some_iff.mp h
  obtain ⟨σ1, e2, h⟩ := h
  replace e2 := Option.some.inj e2
  refine g_new (pc := 0) K 7 [.null, .null, .null, .null] cl_7 hin_X7 tyX7 tyX7_ok tb_10 tb_11 tb_1 fs_X7 (by show _ ≤ 600000; omega) (by show _ ≤ 7302250; omega) dL_law_0 ?_
  rw [sw_j_nw]
  replace hj := sw_dj_nw hj (.inr (7, [.null, .null, .null, .null]))
  rw [e2] at hj ⊢
  refine g_dup (pc := 3) K rfl dL_law_3 ?_
  refine g_aload_n (pc := 4) K 0 rfl rfl dL_law_4 ?_
  refine g_iconst (pc := 5) (v := 0) K dL_law_5 (by decide) ?_
  refine g_cell (pc := 6) K X ⟨Nat.le_of_ble_eq_true rfl, Nat.le_of_ble_eq_true rfl⟩ (sw_rm (Nat.le_of_ble_eq_true rfl)) ⟨by show _ ≤ 600000; omega, by show _ ≤ 7302250; omega⟩ tb_499 tb_497 tb_0 tb_498 dL_law_6 ?_
  replace h := Option.bind_eq_some_iff.mp h
  obtain ⟨σ4, e3, h⟩ := h
  refine g_initJ (pc := 9) (st := [P_ (some n)]) K [I_ ((sw_c0 L xs))] (c_X7_init _ _ _ _ _ _ e3) hj tb_14 tb_12 tb_1 tb_13 rfl hd_X7_init ⟨Nat.le_of_ble_eq_true rfl, Nat.le_of_ble_eq_true rfl⟩ rfl (sw_rm (Nat.le_of_ble_eq_true rfl)) ⟨by show _ ≤ 600000; omega, by show _ ≤ 7302250; omega⟩ dL_law_9 (fun hj => ?_)
  refine g_astore_n (pc := 12) K [(1, P_ (some n)), (0, P_ (some b))] rfl (by decide) rfl dL_law_12 ?_
  replace h := Option.bind_eq_some_iff.mp h
  obtain ⟨σ5, e6, h⟩ := h
  replace e6 := Option.some.inj e6
  refine g_swap hj ?_
  refine g_new (pc := 13) K 8 [.int 0, .int 0, .int 0, .null, .null, .int 0, .null, .null, .null, .null, .null, .null, .int 0, .null, .null, .null, .int 0, .null, .null, .null, .null, .null, .null, .null, .null, .null, .int 0, .int 0, .int 0, .int 0, .null, .null] cl_8 hin_X8 tyX8 tyX8_ok tb_500 tb_501 tb_7 fs_X8 (by show _ ≤ 600000; omega) (by show _ ≤ 7302250; omega) dL_law_13 ?_
  rw [sw_j_nw]
  replace hj := sw_dj_nw hj.symm (.inr (8, [.int 0, .int 0, .int 0, .null, .null, .int 0, .null, .null, .null, .null, .null, .null, .int 0, .null, .null, .null, .int 0, .null, .null, .null, .null, .null, .null, .null, .null, .null, .int 0, .int 0, .int 0, .int 0, .null, .null]))
  rw [e6] at hj ⊢
  refine g_swap hj ?_
  replace hj := hj.symm
  refine g_dup (pc := 16) K rfl dL_law_16 ?_
  refine g_aload_n (pc := 17) K 1 rfl rfl dL_law_17 ?_
  refine g_iconst (pc := 18) (v := 0) K dL_law_18 (by decide) ?_
  refine g_cell (pc := 19) K X ⟨Nat.le_of_ble_eq_true rfl, Nat.le_of_ble_eq_true rfl⟩ (sw_rm (Nat.le_of_ble_eq_true rfl)) ⟨by show _ ≤ 600000; omega, by show _ ≤ 7302250; omega⟩ tb_499 tb_497 tb_0 tb_498 dL_law_19 ?_
  replace h := Option.bind_eq_some_iff.mp h
  obtain ⟨σ8, e7, h⟩ := h
  refine g_swap hj ?_
  refine g_initJ (pc := 22) (st := [P_ (some σ4.1)]) K [I_ ((sw_c0 L xs))] (c_X8_init _ _ _ _ _ _ e7) hj.symm tb_504 tb_502 tb_7 tb_503 rfl hd_X8_init ⟨Nat.le_of_ble_eq_true rfl, Nat.le_of_ble_eq_true rfl⟩ rfl (sw_rm (Nat.le_of_ble_eq_true rfl)) ⟨by show _ ≤ 600000; omega, by show _ ≤ 7302250; omega⟩ dL_law_22 (fun hj => ?_)
  refine g_swap hj ?_
  replace hj := hj.symm
  refine g_astore_n (pc := 25) K [(2, P_ (some σ4.1)), (1, P_ (some n)), (0, P_ (some b))] rfl (by decide) rfl dL_law_25 ?_
  refine g_iconst (pc := 26) (v := 1) K dL_law_26 (by decide) ?_
  refine g_istore_n (pc := 27) K [(3, I_ 1), (2, P_ (some σ4.1)), (1, P_ (some n)), (0, P_ (some b))] rfl (by decide) rfl dL_law_27 ?_
  refine g_sub K [3, 2, 1, 0] rfl ?_
  exact wl_law_28 K X hT 514 _ _ _ _ _ _ _ _ hj h (by omega) (by omega)
