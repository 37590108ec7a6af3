/-! the queue of an entry -/
def nb_dq (i : Nat) (q : Nat → Int32) : Nat → Int32 := upd (upd q (3 * i) (q (3 * i + 1))) (3 * i + 1) ((upd q (3 * i) (q (3 * i + 1))) (3 * i + 2))
section
variable {cn e o r : Nat} {rt rx ms fn pi dr : Int32} {eA eS eL eT eP eC qI qD oA oS oT oP rA rM fr sn : Nat → Int32}
theorem nx_e15 {post : SX → Prop} {i q : Nat} {p d : Int32} (hi : i < 16) (hq : q < 3) (hC : eC i = nI q) (H : post (nI cn, rt, rx, ms, nI e, nI o, nI r, fn, pi, dr, eA, eS, eL, eT, eP, upd eC i (nI (q + 1)), upd qI (3 * i + q) p, upd qD (3 * i + q) d, oA, oS, oT, oP, rA, rM, nb_fp 0 fr, nb_fp 1 fr, nb_fp 2 fr, nb_fp 3 fr, nb_fp 4 fr)) : wX_enqueue_15 post (nI i) p d (nI cn) rt rx ms (nI e) (nI o) (nI r) fn pi dr eA eS eL eT eP eC qI qD oA oS oT oP rA rM (nb_fp 0 fr) (nb_fp 1 fr) (nb_fp 2 fr) (nb_fp 3 fr) (nb_fp 4 fr) := by
  have hv : vp_in (nI i) 16 := nb_ix hi (by omega)
  have hw : vp_in (nI (3 * i + q)) 48 := nb_ix (by omega) (by omega)
  unfold wX_enqueue_15
  rw [nb_cl (i := i) (by omega), hC]
  refine ⟨hv, nm_r (nb_3a i q) ?_⟩
  rw [nb_cl (i := 3 * i + q) (by omega), nI_1 q]
  exact ⟨hw, nm_e ⟨hw, nm_e ⟨hv, hv, nm_e H⟩⟩⟩
theorem nx_enq_lt {post : SX → Prop} {i q : Nat} {p d : Int32} (hi : i < 16) (hq : q < 3) (hC : eC i = nI q) (H : post (nI cn, rt, rx, ms, nI e, nI o, nI r, fn, pi, dr, eA, eS, eL, eT, eP, upd eC i (nI (q + 1)), upd qI (3 * i + q) p, upd qD (3 * i + q) d, oA, oS, oT, oP, rA, rM, nb_fp 0 fr, nb_fp 1 fr, nb_fp 2 fr, nb_fp 3 fr, nb_fp 4 fr)) : wpX_enqueue post (nI cn, rt, rx, ms, nI e, nI o, nI r, fn, pi, dr, eA, eS, eL, eT, eP, eC, qI, qD, oA, oS, oT, oP, rA, rM, nb_fp 0 fr, nb_fp 1 fr, nb_fp 2 fr, nb_fp 3 fr, nb_fp 4 fr) (nI i) p d := by
  have hv : vp_in (nI i) 16 := nb_ix hi (by omega)
  unfold wpX_enqueue
  refine ⟨hv, br_t ?_ (nx_e15 hi hq hC H)⟩
  rw [nb_cl (i := i) (by omega), hC]
  exact nI_lt (b := 3) hq (by omega)
theorem nx_drop {post : SX → Prop} {i : Nat} (hi : i < 16) (hC : eC i = nI 3) (H : post (nI cn, rt, rx, ms, nI e, nI o, nI r, fn, pi, dr + 1, eA, eS, eL, eT, eP, upd eC i 2, nb_dq i qI, nb_dq i qD, oA, oS, oT, oP, rA, rM, nb_fp 0 fr, nb_fp 1 fr, nb_fp 2 fr, nb_fp 3 fr, nb_fp 4 fr)) : wpX_dropOldestQueued post (nI cn, rt, rx, ms, nI e, nI o, nI r, fn, pi, dr, eA, eS, eL, eT, eP, eC, qI, qD, oA, oS, oT, oP, rA, rM, nb_fp 0 fr, nb_fp 1 fr, nb_fp 2 fr, nb_fp 3 fr, nb_fp 4 fr) (nI i) := by
  have hv : vp_in (nI i) 16 := nb_ix hi (by omega)
  have w0 : vp_in (nI (3 * i)) 48 := nb_ix (by omega) (by omega)
  have w1 : vp_in (nI (3 * i + 1)) 48 := nb_ix (by omega) (by omega)
  have w2 : vp_in (nI (3 * i + 2)) 48 := nb_ix (by omega) (by omega)
  have a0 : nI (3 * i) + 0 = nI (3 * i) := Int32.add_zero _
  have a1 : nI (3 * i) + 1 = nI (3 * i + 1) := nI_1 _
  have a2 : nI (3 * i + 1) + 1 = nI (3 * i + 2) := nI_1 _
  have c0 := nb_cl (i := 3 * i) (by omega)
  have c1 := nb_cl (i := 3 * i + 1) (by omega)
  have c2 := nb_cl (i := 3 * i + 2) (by omega)
  unfold wpX_dropOldestQueued
  refine nm_r (nb_30 i) ⟨3, ?_⟩
  refine br_f (by decide) ?_
  rw [a0, a1, c0, c1]
  refine ⟨w1, w0, nm_e ⟨w1, w0, nm_e (nm_r (e' := 1) (by decide) ?_)⟩⟩
  refine br_f (by decide) ?_
  rw [a1, a2, c1, c2]
  refine ⟨w2, w1, nm_e ⟨w2, w1, nm_e (nm_r (e' := 2) (by decide) ?_)⟩⟩
  refine br_t (by decide) ?_
  rw [nb_cl (i := i) (by omega), hC]
  exact ⟨hv, hv, nm_r (congrArg (upd eC i) (nI_pred 2)) (nm_e H)⟩
theorem nx_enq_3 {post : SX → Prop} {i : Nat} {p d : Int32} (hi : i < 16) (hC : eC i = nI 3) (H : post (nI cn, rt, rx, ms, nI e, nI o, nI r, fn, pi, dr + 1, eA, eS, eL, eT, eP, upd (upd eC i 2) i 3, upd (nb_dq i qI) (3 * i + 2) p, upd (nb_dq i qD) (3 * i + 2) d, oA, oS, oT, oP, rA, rM, nb_fp 0 fr, nb_fp 1 fr, nb_fp 2 fr, nb_fp 3 fr, nb_fp 4 fr)) : wpX_enqueue post (nI cn, rt, rx, ms, nI e, nI o, nI r, fn, pi, dr, eA, eS, eL, eT, eP, eC, qI, qD, oA, oS, oT, oP, rA, rM, nb_fp 0 fr, nb_fp 1 fr, nb_fp 2 fr, nb_fp 3 fr, nb_fp 4 fr) (nI i) p d := by
  have hv : vp_in (nI i) 16 := nb_ix hi (by omega)
  unfold wpX_enqueue
  refine ⟨hv, br_f ?_ (nx_drop hi hC (nx_e15 (q := 2) hi (by omega) pk_us H))⟩
  rw [nb_cl (i := i) (by omega), hC]
  decide
theorem ny_s344 {post : Int32 → SY → Prop} {i q : Nat} {p d : Int32} (hi : i < 16) (hq : q < 3) (hC : eC i = nI q) (H : post p (nI cn, rt, rx, ms, nI e, nI o, nI r, fn, pi, dr, eA, eS, eL, eT, eP, upd eC i (nI (q + 1)), upd qI (3 * i + q) p, upd qD (3 * i + q) d, sn, oA, oS, oT, oP, rA, rM, fr)) : wY_send_344 post d p (nI i) (nI cn) rt rx ms (nI e) (nI o) (nI r) fn pi dr eA eS eL eT eP eC qI qD sn oA oS oT oP rA rM fr := by
  have hv : vp_in (nI i) 16 := nb_ix hi (by omega)
  have hw : vp_in (nI (3 * i + q)) 48 := nb_ix (by omega) (by omega)
  unfold wY_send_344
  rw [nb_cl (i := i) (by omega), hC, nb_3a, nb_cl (i := 3 * i + q) (by omega), nI_1 q]
  exact ⟨hv, hw, nm_e ⟨hv, hw, nm_e ⟨hv, hv, nm_e H⟩⟩⟩
end
