/-! the relation -/
def nb_inv (cn e o r : Nat) (rt rx : Int32) (eA eS eL eT eP eC oA oS oT rA : Nat → Int32) : Prop :=
  (2 ≤ cn ∧ cn ≤ 16 ∧ e ≤ cn ∧ o ≤ 8 ∧ r ≤ 4) ∧ (0 < rt ∧ 0 < rx) ∧ nb_ent e eA eS eL eT eP eC ∧ nb_own o oA oS oT ∧ nb_rou r rA
def i_Rel (_ : Nat) (u : SX) (v : SY) : Prop := ∃ (cn e o r : Nat) (rt rx ms fn pi dr : Int32) (eA eS eL eT eP eC qI qD oA oS oT oP rA rM fr sn : Nat → Int32), u = (nI cn, rt, rx, ms, nI e, nI o, nI r, fn, pi, dr, eA, eS, eL, eT, eP, eC, qI, qD, oA, oS, oT, oP, rA, rM, nb_fp 0 fr, nb_fp 1 fr, nb_fp 2 fr, nb_fp 3 fr, nb_fp 4 fr) ∧ v = (nI cn, rt, rx, ms, nI e, nI o, nI r, fn, pi, dr, eA, eS, eL, eT, eP, eC, qI, qD, sn, oA, oS, oT, oP, rA, rM, fr) ∧ nb_inv cn e o r rt rx eA eS eL eT eP eC oA oS oT rA
theorem i_up {k : Nat} {u : SX} {v : SY} (h : i_Rel k u v) : i_Rel (k + 4) u v := h
theorem nb_rel {k : Nat} {cn e o r : Nat} {rt rx ms fn pi dr : Int32} {eA eS eL eT eP eC qI qD oA oS oT oP rA rM fr sn : Nat → Int32} (h : nb_inv cn e o r rt rx eA eS eL eT eP eC oA oS oT rA) : i_Rel k (nI cn, rt, rx, ms, nI e, nI o, nI r, fn, pi, dr, eA, eS, eL, eT, eP, eC, qI, qD, oA, oS, oT, oP, rA, rM, nb_fp 0 fr, nb_fp 1 fr, nb_fp 2 fr, nb_fp 3 fr, nb_fp 4 fr) (nI cn, rt, rx, ms, nI e, nI o, nI r, fn, pi, dr, eA, eS, eL, eT, eP, eC, qI, qD, sn, oA, oS, oT, oP, rA, rM, fr) := ⟨cn, e, o, r, rt, rx, ms, fn, pi, dr, eA, eS, eL, eT, eP, eC, qI, qD, oA, oS, oT, oP, rA, rM, fr, sn, rfl, rfl, h⟩
/-! the constructors -/
def nb_clamp (x a b : Int32) : Int32 := if a ≤ x then (if x ≤ b then x else b) else a
theorem nx_clamp {post : Int32 → Prop} {x a b : Int32} (H : post (nb_clamp x a b)) : wpX_clamp post x a b := by
  unfold nb_clamp at H
  unfold wpX_clamp
  by_cases h1 : a ≤ x
  · rw [if_pos h1] at H
    by_cases h2 : x ≤ b
    · rw [if_pos h2] at H
      exact br_t h1 (br_t h2 H)
    · rw [if_neg h2] at H
      exact br_t h1 (br_f h2 H)
  · rw [if_neg h1] at H
    exact br_f h1 H
theorem nb_clamp_pos {x a b : Int32} (ha : 0 < a) (hb : 0 < b) : 0 < nb_clamp x a b := by
  unfold nb_clamp
  by_cases h1 : a ≤ x
  · rw [if_pos h1]
    by_cases h2 : x ≤ b
    · rw [if_pos h2]
      exact Int32.lt_of_lt_of_le ha h1
    · rw [if_neg h2]
      exact hb
  · rw [if_neg h1]
    exact ha
theorem nb_clamp_16 (x : Int32) : ∃ n : Nat, 2 ≤ n ∧ n ≤ 16 ∧ nb_clamp x 2 16 = nI n := by
  unfold nb_clamp
  by_cases h1 : (2 : Int32) ≤ x
  · rw [if_pos h1]
    by_cases h2 : x ≤ 16
    · rw [if_pos h2]
      obtain ⟨j, hj, rfl⟩ := nI_of2 (x := x) (M := 16) (n := 16) (by decide) (Int32.not_lt.mpr (Int32.le_trans (by decide) h1)) h2
      rw [show (2 : Int32) = nI 2 from rfl, nI_leI (by omega) (by omega)] at h1
      exact ⟨j, h1, hj, rfl⟩
    · rw [if_neg h2]
      exact ⟨16, by omega, by omega, rfl⟩
  · rw [if_neg h1]
    exact ⟨2, by omega, by omega, rfl⟩
section
variable {post : SY → Prop} {x2 x3 x4 z0 f0 f1 f2 f3 f4 f5 f6 f7 f8 f9 : Int32} {w0 w1 w2 w3 w4 w5 w6 w7 w8 w9 w10 w11 w12 w13 w14 w15 : Nat → Int32}
theorem ny_203 (H : post (f0, f1, z0, nb_clamp x4 1 5, f4, f5, f6, f7, f8, f9, w0, w1, w2, w3, w4, w5, w6, w7, w8, w9, w10, w11, w12, w13, w14, w15)) : wY_init_203 post x4 z0 f0 f1 f2 f3 f4 f5 f6 f7 f8 f9 w0 w1 w2 w3 w4 w5 w6 w7 w8 w9 w10 w11 w12 w13 w14 w15 := by
  unfold nb_clamp at H
  unfold wY_init_203
  by_cases h1 : (1 : Int32) ≤ x4
  · rw [if_pos h1] at H
    by_cases h2 : x4 ≤ 5
    · rw [if_pos h2] at H
      exact br_t h1 (br_t h2 H)
    · rw [if_neg h2] at H
      exact br_t h1 (br_f h2 H)
  · rw [if_neg h1] at H
    exact br_f h1 H
theorem ny_178 (H : wY_init_203 post x4 (nb_clamp x3 1 10) f0 z0 f2 f3 f4 f5 f6 f7 f8 f9 w0 w1 w2 w3 w4 w5 w6 w7 w8 w9 w10 w11 w12 w13 w14 w15) : wY_init_178 post x3 x4 z0 f0 f1 f2 f3 f4 f5 f6 f7 f8 f9 w0 w1 w2 w3 w4 w5 w6 w7 w8 w9 w10 w11 w12 w13 w14 w15 := by
  unfold nb_clamp at H
  unfold wY_init_178
  by_cases h1 : (1 : Int32) ≤ x3
  · rw [if_pos h1] at H
    by_cases h2 : x3 ≤ 10
    · rw [if_pos h2] at H
      exact br_t h1 (br_t h2 H)
    · rw [if_neg h2] at H
      exact br_t h1 (br_f h2 H)
  · rw [if_neg h1] at H
    exact br_f h1 H
theorem ny_153 (H : wY_init_178 post x3 x4 (nb_clamp x2 2 60) z0 f1 f2 f3 f4 f5 f6 f7 f8 f9 w0 w1 w2 w3 w4 w5 w6 w7 w8 w9 w10 w11 w12 w13 w14 w15) : wY_init_153 post x2 x3 x4 z0 f0 f1 f2 f3 f4 f5 f6 f7 f8 f9 w0 w1 w2 w3 w4 w5 w6 w7 w8 w9 w10 w11 w12 w13 w14 w15 := by
  unfold nb_clamp at H
  unfold wY_init_153
  by_cases h1 : (2 : Int32) ≤ x2
  · rw [if_pos h1] at H
    by_cases h2 : x2 ≤ 60
    · rw [if_pos h2] at H
      exact br_t h1 (br_t h2 H)
    · rw [if_neg h2] at H
      exact br_t h1 (br_f h2 H)
  · rw [if_neg h1] at H
    exact br_f h1 H
theorem ny_init {x1 : Int32} (H : wY_init_153 post x2 x3 x4 (nb_clamp x1 2 16) 0 0 0 0 0 0 0 0 0 0 (fun _ => 0) (fun _ => 0) (fun _ => 0) (fun _ => 0) (fun _ => 0) (fun _ => 0) (fun _ => 0) (fun _ => 0) (fun _ => 0) (fun _ => 0) (fun _ => 0) (fun _ => 0) (fun _ => 0) (fun _ => 0) (fun _ => 0) (fun _ => 0)) : wpY_init post x1 x2 x3 x4 := by
  unfold nb_clamp at H
  unfold wpY_init
  by_cases h1 : (2 : Int32) ≤ x1
  · rw [if_pos h1] at H
    by_cases h2 : x1 ≤ 16
    · rw [if_pos h2] at H
      exact br_t h1 (br_t h2 H)
    · rw [if_neg h2] at H
      exact br_t h1 (br_f h2 H)
  · rw [if_neg h1] at H
    exact br_f h1 H
end
theorem i_vc0 (k0 : Int32) (k1 : Int32) (k2 : Int32) (k3 : Int32) : wpX_init (fun u => wpY_init (fun v => i_Rel 4 u v) k0 k1 k2 k3) k0 k1 k2 k3 := by
  unfold wpX_init
  refine nx_clamp (nx_clamp (nx_clamp (nx_clamp ?_)))
  refine ny_init (ny_153 (ny_178 (ny_203 ?_)))
  obtain ⟨n, h2, h16, en⟩ := nb_clamp_16 k0
  rw [en]
  refine ⟨n, 0, 0, 0, nb_clamp k1 2 60, nb_clamp k2 1 10, nb_clamp k3 1 5, 0, 0, 0, fun _ => 0, fun _ => 0, fun _ => 0, fun _ => 0, fun _ => 0, fun _ => 0, fun _ => 0, fun _ => 0, fun _ => 0, fun _ => 0, fun _ => 0, fun _ => 0, fun _ => 0, fun _ => 0, fun _ => 0, fun _ => 0, rfl, rfl, ⟨h2, h16, by omega, by omega, by omega⟩, ⟨nb_clamp_pos (by decide) (by decide), nb_clamp_pos (by decide) (by decide)⟩, ⟨fun i hi => absurd hi (by omega), fun i hi => absurd hi (by omega), fun i j hi => absurd hi (by omega)⟩, fun i hi => absurd hi (by omega), fun i hi => absurd hi (by omega)⟩
