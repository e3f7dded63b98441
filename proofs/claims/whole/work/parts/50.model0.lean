/-! THE REFERENCE'S STORE: ints by their field's number, rows by their place behind the object -/
def md_fs (m0 : Nat) (I : Nat → Int32) : List Value := [.int (I 0), .int (I 1), .int (I 2), .ref (m0 + 1), .ref (m0 + 2), .int (I 5), .ref (m0 + 3), .ref (m0 + 4), .ref (m0 + 5), .ref (m0 + 6), .ref (m0 + 7), .ref (m0 + 8), .int (I 12), .ref (m0 + 9), .ref (m0 + 10), .ref (m0 + 11), .int (I 16), .ref (m0 + 12), .ref (m0 + 13), .ref (m0 + 14), .ref (m0 + 15), .ref (m0 + 16), .ref (m0 + 17), .ref (m0 + 18), .ref (m0 + 19), .ref (m0 + 20), .int (I 26), .int (I 27), .int (I 28), .int (I 29), .ref (m0 + 21), .ref (m0 + 22)]
def md_len (t : Nat) : Nat := match t with
  | 1 => 61
  | 2 => 61
  | 3 => 512
  | 4 => 8
  | 5 => 512
  | 6 => 512
  | 7 => 512
  | 8 => 600
  | 9 => 60
  | 10 => 60
  | 11 => 60
  | 12 => 300
  | 13 => 300
  | 14 => 300
  | 15 => 300
  | 16 => 300
  | 17 => 300
  | 18 => 300
  | 19 => 300
  | 20 => 300
  | 21 => 300
  | 22 => 300
  | _ => 0
def md_J (t : Nat) : Bool := t == 10 || t == 11 || t == 19 || t == 20
def md_mk (m0 : Nat) (I : Nat → Int32) (Ar : Nat → Nat → Int32) (Aj : Nat → Nat → Int64) : Nat → Option sw_E := fun a =>
  if a = m0 then some (.inr (8, md_fs m0 I)) else if m0 < a ∧ a ≤ m0 + 22 then (if md_J (a - m0) = true then some (.inl (1, md_len (a - m0), .inr (.inl (Aj (a - m0))))) else some (.inl (0, md_len (a - m0), .inl (Ar (a - m0))))) else none
theorem md_0 (m0 : Nat) (I : Nat → Int32) (Ar : Nat → Nat → Int32) (Aj : Nat → Nat → Int64) : md_mk m0 I Ar Aj m0 = some (.inr (8, md_fs m0 I)) := by simp [md_mk]
theorem md_t (m0 : Nat) (I : Nat → Int32) (Ar : Nat → Nat → Int32) (Aj : Nat → Nat → Int64) (t : Nat) (h1 : 0 < t) (h2 : t ≤ 22) (hJ : md_J t = false) : md_mk m0 I Ar Aj (m0 + t) = some (.inl (0, md_len t, .inl (Ar t))) := by
  unfold md_mk
  rw [if_neg (by omega), if_pos (by omega), Nat.add_sub_cancel_left, hJ]
  rfl
theorem md_tJ (m0 : Nat) (I : Nat → Int32) (Ar : Nat → Nat → Int32) (Aj : Nat → Nat → Int64) (t : Nat) (h1 : 0 < t) (h2 : t ≤ 22) (hJ : md_J t = true) : md_mk m0 I Ar Aj (m0 + t) = some (.inl (1, md_len t, .inr (.inl (Aj t)))) := by
  unfold md_mk
  rw [if_neg (by omega), if_pos (by omega), Nat.add_sub_cancel_left, hJ]
  rfl
def md_u {α : Type} (f : Nat → Nat → α) (t j : Nat) (x : α) : Nat → Nat → α := fun s i => if s = t then (if i = j then x else f s i) else f s i
section MD
variable {n m0 : Nat} {I : Nat → Int32} {Ar : Nat → Nat → Int32} {Aj : Nat → Nat → Int64}
theorem md_ob : sw_ob 8 m0 (n, md_mk m0 I Ar Aj) = some (md_fs m0 I) := by simp [sw_ob, md_0]
theorem md_al (t : Nat) (h1 : 0 < t) (h2 : t ≤ 22) (hJ : md_J t = false) (i : Int32) : sw_al 0 (m0 + t) i (n, md_mk m0 I Ar Aj) = (sw_ix i (md_len t)).bind fun j => some (Ar t j) := by
  simp [sw_al, sw_ai, md_t m0 I Ar Aj t h1 h2 hJ]
theorem md_jl (t : Nat) (h1 : 0 < t) (h2 : t ≤ 22) (hJ : md_J t = true) (i : Int32) : sw_jl (m0 + t) i (n, md_mk m0 I Ar Aj) = (sw_ix i (md_len t)).bind fun j => some (Aj t j) := by
  simp [sw_jl, sw_aj, md_tJ m0 I Ar Aj t h1 h2 hJ]
theorem md_upA (t : Nat) (h1 : 0 < t) (h2 : t ≤ 22) (hJ : md_J t = false) (j : Nat) (x : Int32) : sw_up (n, md_mk m0 I Ar Aj) (m0 + t) (.inl (0, md_len t, .inl (upd (Ar t) j x))) = (n, md_mk m0 I (md_u Ar t j x) Aj) := by
  unfold sw_up
  congr 1
  funext a
  simp only
  by_cases ha : a = m0 + t
  · subst ha
    rw [if_pos rfl, md_t m0 I _ Aj t h1 h2 hJ]
    rw [show md_u Ar t j x t = upd (Ar t) j x from funext fun i => by simp [upd, md_u]]
  · rw [if_neg ha]
    unfold md_mk
    by_cases h0 : a = m0
    · rw [if_pos h0, if_pos h0]
    · rw [if_neg h0, if_neg h0]
      by_cases hr : m0 < a ∧ a ≤ m0 + 22
      · rw [if_pos hr, if_pos hr]
        have hat : a - m0 ≠ t := by omega
        rw [show md_u Ar t j x (a - m0) = Ar (a - m0) from funext fun i => by simp [md_u, hat]]
      · rw [if_neg hr, if_neg hr]
theorem md_upJ (t : Nat) (h1 : 0 < t) (h2 : t ≤ 22) (hJ : md_J t = true) (j : Nat) (x : Int64) : sw_up (n, md_mk m0 I Ar Aj) (m0 + t) (.inl (1, md_len t, .inr (.inl (vp_updL (Aj t) j x)))) = (n, md_mk m0 I Ar (md_u Aj t j x)) := by
  unfold sw_up
  congr 1
  funext a
  simp only
  by_cases ha : a = m0 + t
  · subst ha
    rw [if_pos rfl, md_tJ m0 I Ar _ t h1 h2 hJ]
    rw [show md_u Aj t j x t = vp_updL (Aj t) j x from funext fun i => by simp [vp_updL, md_u]]
  · rw [if_neg ha]
    unfold md_mk
    by_cases h0 : a = m0
    · rw [if_pos h0, if_pos h0]
    · rw [if_neg h0, if_neg h0]
      by_cases hr : m0 < a ∧ a ≤ m0 + 22
      · rw [if_pos hr, if_pos hr]
        have hat : a - m0 ≠ t := by omega
        rw [show md_u Aj t j x (a - m0) = Aj (a - m0) from funext fun i => by simp [md_u, hat]]
      · rw [if_neg hr, if_neg hr]
theorem md_as (t : Nat) (h1 : 0 < t) (h2 : t ≤ 22) (hJ : md_J t = false) (i x : Int32) : sw_as 0 (m0 + t) i x (n, md_mk m0 I Ar Aj) = (sw_ix i (md_len t)).bind fun j => some (n, md_mk m0 I (md_u Ar t j x) Aj) := by
  unfold sw_as
  rw [show sw_ai 0 (m0 + t) (n, md_mk m0 I Ar Aj) = some (md_len t, Ar t) by simp [sw_ai, md_t m0 I Ar Aj t h1 h2 hJ]]
  simp only [Option.bind_some, md_upA t h1 h2 hJ]
theorem md_js (t : Nat) (h1 : 0 < t) (h2 : t ≤ 22) (hJ : md_J t = true) (i : Int32) (x : Int64) : sw_js (m0 + t) i x (n, md_mk m0 I Ar Aj) = (sw_ix i (md_len t)).bind fun j => some (n, md_mk m0 I Ar (md_u Aj t j x)) := by
  unfold sw_js
  rw [show sw_aj (m0 + t) (n, md_mk m0 I Ar Aj) = some (md_len t, Aj t) by simp [sw_aj, md_tJ m0 I Ar Aj t h1 h2 hJ]]
  simp only [Option.bind_some, md_upJ t h1 h2 hJ]
theorem md_pt (k : Nat) (x : Int32) (hk : (md_fs m0 I).set k (.int x) = md_fs m0 (upd I k x)) (hl : k < 32) : sw_pt 8 m0 k (.int x) (n, md_mk m0 I Ar Aj) = some (n, md_mk m0 (upd I k x) Ar Aj) := by
  unfold sw_pt
  rw [md_ob, Option.bind_some, if_pos (show k < (md_fs m0 I).length from hl), hk]
  congr 1
  unfold sw_up
  congr 1
  funext a
  unfold md_mk
  by_cases h0 : a = m0
  · simp [h0]
  · simp [h0]
theorem md_g0 : sw_gI 8 m0 0 (n, md_mk m0 I Ar Aj) = some (I 0) := by unfold sw_gI; rw [md_ob]; rfl
theorem md_p0 (x : Int32) : sw_pt 8 m0 0 (.int x) (n, md_mk m0 I Ar Aj) = some (n, md_mk m0 (upd I 0 x) Ar Aj) := md_pt 0 x rfl (by decide)
theorem md_g1 : sw_gI 8 m0 1 (n, md_mk m0 I Ar Aj) = some (I 1) := by unfold sw_gI; rw [md_ob]; rfl
theorem md_p1 (x : Int32) : sw_pt 8 m0 1 (.int x) (n, md_mk m0 I Ar Aj) = some (n, md_mk m0 (upd I 1 x) Ar Aj) := md_pt 1 x rfl (by decide)
theorem md_g2 : sw_gI 8 m0 2 (n, md_mk m0 I Ar Aj) = some (I 2) := by unfold sw_gI; rw [md_ob]; rfl
theorem md_p2 (x : Int32) : sw_pt 8 m0 2 (.int x) (n, md_mk m0 I Ar Aj) = some (n, md_mk m0 (upd I 2 x) Ar Aj) := md_pt 2 x rfl (by decide)
theorem md_g5 : sw_gI 8 m0 5 (n, md_mk m0 I Ar Aj) = some (I 5) := by unfold sw_gI; rw [md_ob]; rfl
theorem md_p5 (x : Int32) : sw_pt 8 m0 5 (.int x) (n, md_mk m0 I Ar Aj) = some (n, md_mk m0 (upd I 5 x) Ar Aj) := md_pt 5 x rfl (by decide)
theorem md_g12 : sw_gI 8 m0 12 (n, md_mk m0 I Ar Aj) = some (I 12) := by unfold sw_gI; rw [md_ob]; rfl
theorem md_p12 (x : Int32) : sw_pt 8 m0 12 (.int x) (n, md_mk m0 I Ar Aj) = some (n, md_mk m0 (upd I 12 x) Ar Aj) := md_pt 12 x rfl (by decide)
theorem md_g16 : sw_gI 8 m0 16 (n, md_mk m0 I Ar Aj) = some (I 16) := by unfold sw_gI; rw [md_ob]; rfl
theorem md_p16 (x : Int32) : sw_pt 8 m0 16 (.int x) (n, md_mk m0 I Ar Aj) = some (n, md_mk m0 (upd I 16 x) Ar Aj) := md_pt 16 x rfl (by decide)
theorem md_g26 : sw_gI 8 m0 26 (n, md_mk m0 I Ar Aj) = some (I 26) := by unfold sw_gI; rw [md_ob]; rfl
theorem md_p26 (x : Int32) : sw_pt 8 m0 26 (.int x) (n, md_mk m0 I Ar Aj) = some (n, md_mk m0 (upd I 26 x) Ar Aj) := md_pt 26 x rfl (by decide)
theorem md_g27 : sw_gI 8 m0 27 (n, md_mk m0 I Ar Aj) = some (I 27) := by unfold sw_gI; rw [md_ob]; rfl
theorem md_p27 (x : Int32) : sw_pt 8 m0 27 (.int x) (n, md_mk m0 I Ar Aj) = some (n, md_mk m0 (upd I 27 x) Ar Aj) := md_pt 27 x rfl (by decide)
theorem md_g28 : sw_gI 8 m0 28 (n, md_mk m0 I Ar Aj) = some (I 28) := by unfold sw_gI; rw [md_ob]; rfl
theorem md_p28 (x : Int32) : sw_pt 8 m0 28 (.int x) (n, md_mk m0 I Ar Aj) = some (n, md_mk m0 (upd I 28 x) Ar Aj) := md_pt 28 x rfl (by decide)
theorem md_g29 : sw_gI 8 m0 29 (n, md_mk m0 I Ar Aj) = some (I 29) := by unfold sw_gI; rw [md_ob]; rfl
theorem md_p29 (x : Int32) : sw_pt 8 m0 29 (.int x) (n, md_mk m0 I Ar Aj) = some (n, md_mk m0 (upd I 29 x) Ar Aj) := md_pt 29 x rfl (by decide)
theorem md_r3 : sw_gR 8 m0 3 (n, md_mk m0 I Ar Aj) = some (some (m0 + 1)) := by unfold sw_gR; rw [md_ob]; rfl
theorem md_r4 : sw_gR 8 m0 4 (n, md_mk m0 I Ar Aj) = some (some (m0 + 2)) := by unfold sw_gR; rw [md_ob]; rfl
theorem md_r6 : sw_gR 8 m0 6 (n, md_mk m0 I Ar Aj) = some (some (m0 + 3)) := by unfold sw_gR; rw [md_ob]; rfl
theorem md_r7 : sw_gR 8 m0 7 (n, md_mk m0 I Ar Aj) = some (some (m0 + 4)) := by unfold sw_gR; rw [md_ob]; rfl
theorem md_r8 : sw_gR 8 m0 8 (n, md_mk m0 I Ar Aj) = some (some (m0 + 5)) := by unfold sw_gR; rw [md_ob]; rfl
theorem md_r9 : sw_gR 8 m0 9 (n, md_mk m0 I Ar Aj) = some (some (m0 + 6)) := by unfold sw_gR; rw [md_ob]; rfl
theorem md_r10 : sw_gR 8 m0 10 (n, md_mk m0 I Ar Aj) = some (some (m0 + 7)) := by unfold sw_gR; rw [md_ob]; rfl
theorem md_r11 : sw_gR 8 m0 11 (n, md_mk m0 I Ar Aj) = some (some (m0 + 8)) := by unfold sw_gR; rw [md_ob]; rfl
theorem md_r13 : sw_gR 8 m0 13 (n, md_mk m0 I Ar Aj) = some (some (m0 + 9)) := by unfold sw_gR; rw [md_ob]; rfl
theorem md_r14 : sw_gR 8 m0 14 (n, md_mk m0 I Ar Aj) = some (some (m0 + 10)) := by unfold sw_gR; rw [md_ob]; rfl
theorem md_r15 : sw_gR 8 m0 15 (n, md_mk m0 I Ar Aj) = some (some (m0 + 11)) := by unfold sw_gR; rw [md_ob]; rfl
theorem md_r17 : sw_gR 8 m0 17 (n, md_mk m0 I Ar Aj) = some (some (m0 + 12)) := by unfold sw_gR; rw [md_ob]; rfl
theorem md_r18 : sw_gR 8 m0 18 (n, md_mk m0 I Ar Aj) = some (some (m0 + 13)) := by unfold sw_gR; rw [md_ob]; rfl
theorem md_r19 : sw_gR 8 m0 19 (n, md_mk m0 I Ar Aj) = some (some (m0 + 14)) := by unfold sw_gR; rw [md_ob]; rfl
theorem md_r20 : sw_gR 8 m0 20 (n, md_mk m0 I Ar Aj) = some (some (m0 + 15)) := by unfold sw_gR; rw [md_ob]; rfl
theorem md_r21 : sw_gR 8 m0 21 (n, md_mk m0 I Ar Aj) = some (some (m0 + 16)) := by unfold sw_gR; rw [md_ob]; rfl
theorem md_r22 : sw_gR 8 m0 22 (n, md_mk m0 I Ar Aj) = some (some (m0 + 17)) := by unfold sw_gR; rw [md_ob]; rfl
theorem md_r23 : sw_gR 8 m0 23 (n, md_mk m0 I Ar Aj) = some (some (m0 + 18)) := by unfold sw_gR; rw [md_ob]; rfl
theorem md_r24 : sw_gR 8 m0 24 (n, md_mk m0 I Ar Aj) = some (some (m0 + 19)) := by unfold sw_gR; rw [md_ob]; rfl
theorem md_r25 : sw_gR 8 m0 25 (n, md_mk m0 I Ar Aj) = some (some (m0 + 20)) := by unfold sw_gR; rw [md_ob]; rfl
theorem md_r30 : sw_gR 8 m0 30 (n, md_mk m0 I Ar Aj) = some (some (m0 + 21)) := by unfold sw_gR; rw [md_ob]; rfl
theorem md_r31 : sw_gR 8 m0 31 (n, md_mk m0 I Ar Aj) = some (some (m0 + 22)) := by unfold sw_gR; rw [md_ob]; rfl
theorem md_l1 (i : Int32) : sw_al 0 (m0 + 1) i (n, md_mk m0 I Ar Aj) = (sw_ix i 61).bind fun j => some (Ar 1 j) := md_al 1 (by decide) (by decide) rfl i
theorem md_s1 (i x : Int32) : sw_as 0 (m0 + 1) i x (n, md_mk m0 I Ar Aj) = (sw_ix i 61).bind fun j => some (n, md_mk m0 I (md_u Ar 1 j x) Aj) := md_as 1 (by decide) (by decide) rfl i x
theorem md_l2 (i : Int32) : sw_al 0 (m0 + 2) i (n, md_mk m0 I Ar Aj) = (sw_ix i 61).bind fun j => some (Ar 2 j) := md_al 2 (by decide) (by decide) rfl i
theorem md_s2 (i x : Int32) : sw_as 0 (m0 + 2) i x (n, md_mk m0 I Ar Aj) = (sw_ix i 61).bind fun j => some (n, md_mk m0 I (md_u Ar 2 j x) Aj) := md_as 2 (by decide) (by decide) rfl i x
theorem md_l3 (i : Int32) : sw_al 0 (m0 + 3) i (n, md_mk m0 I Ar Aj) = (sw_ix i 512).bind fun j => some (Ar 3 j) := md_al 3 (by decide) (by decide) rfl i
theorem md_s3 (i x : Int32) : sw_as 0 (m0 + 3) i x (n, md_mk m0 I Ar Aj) = (sw_ix i 512).bind fun j => some (n, md_mk m0 I (md_u Ar 3 j x) Aj) := md_as 3 (by decide) (by decide) rfl i x
theorem md_l4 (i : Int32) : sw_al 0 (m0 + 4) i (n, md_mk m0 I Ar Aj) = (sw_ix i 8).bind fun j => some (Ar 4 j) := md_al 4 (by decide) (by decide) rfl i
theorem md_s4 (i x : Int32) : sw_as 0 (m0 + 4) i x (n, md_mk m0 I Ar Aj) = (sw_ix i 8).bind fun j => some (n, md_mk m0 I (md_u Ar 4 j x) Aj) := md_as 4 (by decide) (by decide) rfl i x
theorem md_l5 (i : Int32) : sw_al 0 (m0 + 5) i (n, md_mk m0 I Ar Aj) = (sw_ix i 512).bind fun j => some (Ar 5 j) := md_al 5 (by decide) (by decide) rfl i
theorem md_s5 (i x : Int32) : sw_as 0 (m0 + 5) i x (n, md_mk m0 I Ar Aj) = (sw_ix i 512).bind fun j => some (n, md_mk m0 I (md_u Ar 5 j x) Aj) := md_as 5 (by decide) (by decide) rfl i x
theorem md_l6 (i : Int32) : sw_al 0 (m0 + 6) i (n, md_mk m0 I Ar Aj) = (sw_ix i 512).bind fun j => some (Ar 6 j) := md_al 6 (by decide) (by decide) rfl i
theorem md_s6 (i x : Int32) : sw_as 0 (m0 + 6) i x (n, md_mk m0 I Ar Aj) = (sw_ix i 512).bind fun j => some (n, md_mk m0 I (md_u Ar 6 j x) Aj) := md_as 6 (by decide) (by decide) rfl i x
theorem md_l7 (i : Int32) : sw_al 0 (m0 + 7) i (n, md_mk m0 I Ar Aj) = (sw_ix i 512).bind fun j => some (Ar 7 j) := md_al 7 (by decide) (by decide) rfl i
theorem md_s7 (i x : Int32) : sw_as 0 (m0 + 7) i x (n, md_mk m0 I Ar Aj) = (sw_ix i 512).bind fun j => some (n, md_mk m0 I (md_u Ar 7 j x) Aj) := md_as 7 (by decide) (by decide) rfl i x
theorem md_l8 (i : Int32) : sw_al 0 (m0 + 8) i (n, md_mk m0 I Ar Aj) = (sw_ix i 600).bind fun j => some (Ar 8 j) := md_al 8 (by decide) (by decide) rfl i
theorem md_s8 (i x : Int32) : sw_as 0 (m0 + 8) i x (n, md_mk m0 I Ar Aj) = (sw_ix i 600).bind fun j => some (n, md_mk m0 I (md_u Ar 8 j x) Aj) := md_as 8 (by decide) (by decide) rfl i x
theorem md_l9 (i : Int32) : sw_al 0 (m0 + 9) i (n, md_mk m0 I Ar Aj) = (sw_ix i 60).bind fun j => some (Ar 9 j) := md_al 9 (by decide) (by decide) rfl i
theorem md_s9 (i x : Int32) : sw_as 0 (m0 + 9) i x (n, md_mk m0 I Ar Aj) = (sw_ix i 60).bind fun j => some (n, md_mk m0 I (md_u Ar 9 j x) Aj) := md_as 9 (by decide) (by decide) rfl i x
theorem md_l10 (i : Int32) : sw_jl (m0 + 10) i (n, md_mk m0 I Ar Aj) = (sw_ix i 60).bind fun j => some (Aj 10 j) := md_jl 10 (by decide) (by decide) rfl i
theorem md_s10 (i : Int32) (x : Int64) : sw_js (m0 + 10) i x (n, md_mk m0 I Ar Aj) = (sw_ix i 60).bind fun j => some (n, md_mk m0 I Ar (md_u Aj 10 j x)) := md_js 10 (by decide) (by decide) rfl i x
theorem md_l11 (i : Int32) : sw_jl (m0 + 11) i (n, md_mk m0 I Ar Aj) = (sw_ix i 60).bind fun j => some (Aj 11 j) := md_jl 11 (by decide) (by decide) rfl i
theorem md_s11 (i : Int32) (x : Int64) : sw_js (m0 + 11) i x (n, md_mk m0 I Ar Aj) = (sw_ix i 60).bind fun j => some (n, md_mk m0 I Ar (md_u Aj 11 j x)) := md_js 11 (by decide) (by decide) rfl i x
theorem md_l12 (i : Int32) : sw_al 0 (m0 + 12) i (n, md_mk m0 I Ar Aj) = (sw_ix i 300).bind fun j => some (Ar 12 j) := md_al 12 (by decide) (by decide) rfl i
theorem md_s12 (i x : Int32) : sw_as 0 (m0 + 12) i x (n, md_mk m0 I Ar Aj) = (sw_ix i 300).bind fun j => some (n, md_mk m0 I (md_u Ar 12 j x) Aj) := md_as 12 (by decide) (by decide) rfl i x
theorem md_l13 (i : Int32) : sw_al 0 (m0 + 13) i (n, md_mk m0 I Ar Aj) = (sw_ix i 300).bind fun j => some (Ar 13 j) := md_al 13 (by decide) (by decide) rfl i
theorem md_s13 (i x : Int32) : sw_as 0 (m0 + 13) i x (n, md_mk m0 I Ar Aj) = (sw_ix i 300).bind fun j => some (n, md_mk m0 I (md_u Ar 13 j x) Aj) := md_as 13 (by decide) (by decide) rfl i x
theorem md_l14 (i : Int32) : sw_al 0 (m0 + 14) i (n, md_mk m0 I Ar Aj) = (sw_ix i 300).bind fun j => some (Ar 14 j) := md_al 14 (by decide) (by decide) rfl i
theorem md_s14 (i x : Int32) : sw_as 0 (m0 + 14) i x (n, md_mk m0 I Ar Aj) = (sw_ix i 300).bind fun j => some (n, md_mk m0 I (md_u Ar 14 j x) Aj) := md_as 14 (by decide) (by decide) rfl i x
theorem md_l15 (i : Int32) : sw_al 0 (m0 + 15) i (n, md_mk m0 I Ar Aj) = (sw_ix i 300).bind fun j => some (Ar 15 j) := md_al 15 (by decide) (by decide) rfl i
theorem md_s15 (i x : Int32) : sw_as 0 (m0 + 15) i x (n, md_mk m0 I Ar Aj) = (sw_ix i 300).bind fun j => some (n, md_mk m0 I (md_u Ar 15 j x) Aj) := md_as 15 (by decide) (by decide) rfl i x
theorem md_l16 (i : Int32) : sw_al 0 (m0 + 16) i (n, md_mk m0 I Ar Aj) = (sw_ix i 300).bind fun j => some (Ar 16 j) := md_al 16 (by decide) (by decide) rfl i
theorem md_s16 (i x : Int32) : sw_as 0 (m0 + 16) i x (n, md_mk m0 I Ar Aj) = (sw_ix i 300).bind fun j => some (n, md_mk m0 I (md_u Ar 16 j x) Aj) := md_as 16 (by decide) (by decide) rfl i x
theorem md_l17 (i : Int32) : sw_al 0 (m0 + 17) i (n, md_mk m0 I Ar Aj) = (sw_ix i 300).bind fun j => some (Ar 17 j) := md_al 17 (by decide) (by decide) rfl i
theorem md_s17 (i x : Int32) : sw_as 0 (m0 + 17) i x (n, md_mk m0 I Ar Aj) = (sw_ix i 300).bind fun j => some (n, md_mk m0 I (md_u Ar 17 j x) Aj) := md_as 17 (by decide) (by decide) rfl i x
theorem md_l18 (i : Int32) : sw_al 0 (m0 + 18) i (n, md_mk m0 I Ar Aj) = (sw_ix i 300).bind fun j => some (Ar 18 j) := md_al 18 (by decide) (by decide) rfl i
theorem md_s18 (i x : Int32) : sw_as 0 (m0 + 18) i x (n, md_mk m0 I Ar Aj) = (sw_ix i 300).bind fun j => some (n, md_mk m0 I (md_u Ar 18 j x) Aj) := md_as 18 (by decide) (by decide) rfl i x
theorem md_l19 (i : Int32) : sw_jl (m0 + 19) i (n, md_mk m0 I Ar Aj) = (sw_ix i 300).bind fun j => some (Aj 19 j) := md_jl 19 (by decide) (by decide) rfl i
theorem md_s19 (i : Int32) (x : Int64) : sw_js (m0 + 19) i x (n, md_mk m0 I Ar Aj) = (sw_ix i 300).bind fun j => some (n, md_mk m0 I Ar (md_u Aj 19 j x)) := md_js 19 (by decide) (by decide) rfl i x
theorem md_l20 (i : Int32) : sw_jl (m0 + 20) i (n, md_mk m0 I Ar Aj) = (sw_ix i 300).bind fun j => some (Aj 20 j) := md_jl 20 (by decide) (by decide) rfl i
theorem md_s20 (i : Int32) (x : Int64) : sw_js (m0 + 20) i x (n, md_mk m0 I Ar Aj) = (sw_ix i 300).bind fun j => some (n, md_mk m0 I Ar (md_u Aj 20 j x)) := md_js 20 (by decide) (by decide) rfl i x
theorem md_l21 (i : Int32) : sw_al 0 (m0 + 21) i (n, md_mk m0 I Ar Aj) = (sw_ix i 300).bind fun j => some (Ar 21 j) := md_al 21 (by decide) (by decide) rfl i
theorem md_s21 (i x : Int32) : sw_as 0 (m0 + 21) i x (n, md_mk m0 I Ar Aj) = (sw_ix i 300).bind fun j => some (n, md_mk m0 I (md_u Ar 21 j x) Aj) := md_as 21 (by decide) (by decide) rfl i x
theorem md_l22 (i : Int32) : sw_al 0 (m0 + 22) i (n, md_mk m0 I Ar Aj) = (sw_ix i 300).bind fun j => some (Ar 22 j) := md_al 22 (by decide) (by decide) rfl i
theorem md_s22 (i x : Int32) : sw_as 0 (m0 + 22) i x (n, md_mk m0 I Ar Aj) = (sw_ix i 300).bind fun j => some (n, md_mk m0 I (md_u Ar 22 j x) Aj) := md_as 22 (by decide) (by decide) rfl i x
end MD
theorem sw_ix_nI {j n : Nat} (h : j < n) (hn : n < 2 ^ 31) : sw_ix (nI j) n = some j := by
  unfold sw_ix
  rw [if_pos ⟨nI_pos' (by omega), by rw [nI_clamp (by omega)]; exact h⟩, nI_clamp (by omega)]
def pv_mix (h x : Int32) : Int32 := ((h ^^^ x) * 16777619) ^^^ (((h ^^^ x) * 16777619).toUInt32 >>> ((15 : Int32).toUInt32 &&& Int32.toUInt32 31)).toInt32
theorem pv_add (h x : Int32) (σ : sw_S) : f_X8_add h x σ = some (pv_mix h x) := rfl
theorem pv_mx (h x : Int32) (σ : sw_S) : f_X7_mix h x σ = some (pv_mix h x) := rfl
