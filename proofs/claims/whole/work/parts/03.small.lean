/-! frames and the small methods -/
def nb_sl (x : Int32) : Nat := (x &&& 63).toNatClampNeg
def nb_ev (fr : Nat → Int32) (fn k t l p h : Int32) : Nat → Int32 := nb_em fr (nb_sl fn) k t l p h
section
variable {cn e o r : Nat} {rt rx ms fn pi dr : Int32} {eA eS eL eT eP eC qI qD oA oS oT oP rA rM fr sn : Nat → Int32}
theorem nx_emit {post : SX → Prop} (k t l p h : Int32) (H : post (nI cn, rt, rx, ms, nI e, nI o, nI r, fn + 1, pi, dr, eA, eS, eL, eT, eP, eC, qI, qD, oA, oS, oT, oP, rA, rM, nb_fp 0 (nb_ev fr fn k t l p h), nb_fp 1 (nb_ev fr fn k t l p h), nb_fp 2 (nb_ev fr fn k t l p h), nb_fp 3 (nb_ev fr fn k t l p h), nb_fp 4 (nb_ev fr fn k t l p h))) : wpX_emit post (nI cn, rt, rx, ms, nI e, nI o, nI r, fn, pi, dr, eA, eS, eL, eT, eP, eC, qI, qD, oA, oS, oT, oP, rA, rM, nb_fp 0 fr, nb_fp 1 fr, nb_fp 2 fr, nb_fp 3 fr, nb_fp 4 fr) k t l p h := by
  obtain ⟨s, hs, es⟩ := nb_and63 fn
  have hi : vp_in (fn &&& 63) 64 := by rw [es]; exact nb_ix hs (by omega)
  unfold nb_ev at H
  rw [nb_fp0, nb_fp1, nb_fp2, nb_fp3, nb_fp4] at H
  unfold wpX_emit
  exact nm_e ⟨hi, nm_e ⟨hi, nm_e ⟨hi, nm_e ⟨hi, nm_e ⟨hi, nm_e (nm_e H)⟩⟩⟩⟩⟩
theorem ny_emit {post : SY → Prop} (k t l p h : Int32) (H : post (nI cn, rt, rx, ms, nI e, nI o, nI r, fn + 1, pi, dr, eA, eS, eL, eT, eP, eC, qI, qD, sn, oA, oS, oT, oP, rA, rM, nb_ev fr fn k t l p h)) : wpY_emit post (nI cn, rt, rx, ms, nI e, nI o, nI r, fn, pi, dr, eA, eS, eL, eT, eP, eC, qI, qD, sn, oA, oS, oT, oP, rA, rM, fr) k t l p h := by
  obtain ⟨s, hs, es⟩ := nb_and63 fn
  have e0 : (fn &&& 63) * 5 = nI (5 * s) := by
    rw [es, Nat.mul_comm 5 s]
    exact pk_mul s 5
  have e1 : nI (5 * s) + 1 = nI (5 * s + 1) := nI_1 _
  have e2 : nI (5 * s) + 2 = nI (5 * s + 2) := nI_add _ 2
  have e3 : nI (5 * s) + 3 = nI (5 * s + 3) := nI_add _ 3
  have e4 : nI (5 * s) + 4 = nI (5 * s + 4) := nI_add _ 4
  have hsl : nb_sl fn = s := by
    unfold nb_sl
    rw [es]
    exact nb_cl (by omega)
  unfold nb_ev nb_em at H
  rw [hsl] at H
  unfold wpY_emit
  refine nm_r e0 ?_
  rw [e1, e2, e3, e4, nb_cl (i := 5 * s) (by omega), nb_cl (i := 5 * s + 1) (by omega), nb_cl (i := 5 * s + 2) (by omega), nb_cl (i := 5 * s + 3) (by omega), nb_cl (i := 5 * s + 4) (by omega)]
  exact ⟨nb_ix (by omega) (by omega), nm_e ⟨nb_ix (by omega) (by omega), nm_e ⟨nb_ix (by omega) (by omega), nm_e ⟨nb_ix (by omega) (by omega), nm_e ⟨nb_ix (by omega) (by omega), nm_e (nm_e H)⟩⟩⟩⟩⟩
theorem nx_enterReachable {post : SX → Prop} {i : Nat} (hi : i < 16) (H : post (nI cn, rt, rx, ms, nI e, nI o, nI r, fn, pi, dr, eA, upd eS i 2, eL, upd eT i rt, upd eP i 0, eC, qI, qD, oA, oS, oT, oP, rA, rM, nb_fp 0 fr, nb_fp 1 fr, nb_fp 2 fr, nb_fp 3 fr, nb_fp 4 fr)) : wpX_enterReachable post (nI cn, rt, rx, ms, nI e, nI o, nI r, fn, pi, dr, eA, eS, eL, eT, eP, eC, qI, qD, oA, oS, oT, oP, rA, rM, nb_fp 0 fr, nb_fp 1 fr, nb_fp 2 fr, nb_fp 3 fr, nb_fp 4 fr) (nI i) := by
  have hv : vp_in (nI i) 16 := nb_ix hi (by omega)
  unfold wpX_enterReachable
  rw [nb_cl (by omega)]
  exact ⟨hv, nm_e ⟨hv, nm_e ⟨hv, nm_e H⟩⟩⟩
theorem nx_enterStale {post : SX → Prop} {i : Nat} (hi : i < 16) (H : post (nI cn, rt, rx, ms, nI e, nI o, nI r, fn, pi, dr, eA, upd eS i 3, eL, upd eT i 0, upd eP i 0, eC, qI, qD, oA, oS, oT, oP, rA, rM, nb_fp 0 fr, nb_fp 1 fr, nb_fp 2 fr, nb_fp 3 fr, nb_fp 4 fr)) : wpX_enterStale post (nI cn, rt, rx, ms, nI e, nI o, nI r, fn, pi, dr, eA, eS, eL, eT, eP, eC, qI, qD, oA, oS, oT, oP, rA, rM, nb_fp 0 fr, nb_fp 1 fr, nb_fp 2 fr, nb_fp 3 fr, nb_fp 4 fr) (nI i) := by
  have hv : vp_in (nI i) 16 := nb_ix hi (by omega)
  unfold wpX_enterStale
  rw [nb_cl (by omega)]
  exact ⟨hv, nm_e ⟨hv, nm_e ⟨hv, nm_e H⟩⟩⟩
theorem nx_transmit_3 {post : SX → Prop} {i : Nat} {p d : Int32} (hi : i < 16) (h3 : eS i = 3) (H : post (nI cn, rt, rx, ms, nI e, nI o, nI r, fn + 1, pi, dr, eA, upd eS i 4, eL, upd eT i 5, upd eP i 0, eC, qI, qD, oA, oS, oT, oP, rA, rM, nb_fp 0 (nb_ev fr fn 5 d (eL i) p (eA i)), nb_fp 1 (nb_ev fr fn 5 d (eL i) p (eA i)), nb_fp 2 (nb_ev fr fn 5 d (eL i) p (eA i)), nb_fp 3 (nb_ev fr fn 5 d (eL i) p (eA i)), nb_fp 4 (nb_ev fr fn 5 d (eL i) p (eA i)))) : wpX_transmit post (nI cn, rt, rx, ms, nI e, nI o, nI r, fn, pi, dr, eA, eS, eL, eT, eP, eC, qI, qD, oA, oS, oT, oP, rA, rM, nb_fp 0 fr, nb_fp 1 fr, nb_fp 2 fr, nb_fp 3 fr, nb_fp 4 fr) (nI i) p d := by
  have hv : vp_in (nI i) 16 := nb_ix hi (by omega)
  unfold wpX_transmit
  rw [nb_cl (by omega)]
  exact ⟨hv, hv, nx_emit _ _ _ _ _ ⟨hv, br_t h3 ⟨hv, nm_e ⟨hv, nm_e ⟨hv, nm_e H⟩⟩⟩⟩⟩
theorem nx_transmit_n {post : SX → Prop} {i : Nat} {p d : Int32} (hi : i < 16) (h3 : ¬ eS i = 3) (H : post (nI cn, rt, rx, ms, nI e, nI o, nI r, fn + 1, pi, dr, eA, eS, eL, eT, eP, eC, qI, qD, oA, oS, oT, oP, rA, rM, nb_fp 0 (nb_ev fr fn 5 d (eL i) p (eA i)), nb_fp 1 (nb_ev fr fn 5 d (eL i) p (eA i)), nb_fp 2 (nb_ev fr fn 5 d (eL i) p (eA i)), nb_fp 3 (nb_ev fr fn 5 d (eL i) p (eA i)), nb_fp 4 (nb_ev fr fn 5 d (eL i) p (eA i)))) : wpX_transmit post (nI cn, rt, rx, ms, nI e, nI o, nI r, fn, pi, dr, eA, eS, eL, eT, eP, eC, qI, qD, oA, oS, oT, oP, rA, rM, nb_fp 0 fr, nb_fp 1 fr, nb_fp 2 fr, nb_fp 3 fr, nb_fp 4 fr) (nI i) p d := by
  have hv : vp_in (nI i) 16 := nb_ix hi (by omega)
  unfold wpX_transmit
  rw [nb_cl (by omega)]
  exact ⟨hv, hv, nx_emit _ _ _ _ _ ⟨hv, br_f h3 H⟩⟩
theorem ny_enterReachable {post : SY → Prop} {i : Nat} (hi : i < 16) (H : post (nI cn, rt, rx, ms, nI e, nI o, nI r, fn, pi, dr, eA, upd eS i 2, eL, upd eT i rt, upd eP i 0, eC, qI, qD, sn, oA, oS, oT, oP, rA, rM, fr)) : wpY_enterReachable post (nI cn, rt, rx, ms, nI e, nI o, nI r, fn, pi, dr, eA, eS, eL, eT, eP, eC, qI, qD, sn, oA, oS, oT, oP, rA, rM, fr) (nI i) := by
  have hv : vp_in (nI i) 16 := nb_ix hi (by omega)
  unfold wpY_enterReachable
  rw [nb_cl (by omega)]
  exact ⟨hv, nm_e ⟨hv, nm_e ⟨hv, nm_e H⟩⟩⟩
theorem ny_enterStale {post : SY → Prop} {i : Nat} (hi : i < 16) (H : post (nI cn, rt, rx, ms, nI e, nI o, nI r, fn, pi, dr, eA, upd eS i 3, eL, upd eT i 0, upd eP i 0, eC, qI, qD, sn, oA, oS, oT, oP, rA, rM, fr)) : wpY_enterStale post (nI cn, rt, rx, ms, nI e, nI o, nI r, fn, pi, dr, eA, eS, eL, eT, eP, eC, qI, qD, sn, oA, oS, oT, oP, rA, rM, fr) (nI i) := by
  have hv : vp_in (nI i) 16 := nb_ix hi (by omega)
  unfold wpY_enterStale
  rw [nb_cl (by omega)]
  exact ⟨hv, nm_e ⟨hv, nm_e ⟨hv, nm_e H⟩⟩⟩
theorem ny_transmit_3 {post : SY → Prop} {i : Nat} {p d : Int32} (hi : i < 16) (h3 : eS i = 3) (H : post (nI cn, rt, rx, ms, nI e, nI o, nI r, fn + 1, pi, dr, eA, upd eS i 4, eL, upd eT i 5, upd eP i 0, eC, qI, qD, sn, oA, oS, oT, oP, rA, rM, nb_ev fr fn 5 d (eL i) p (eA i))) : wpY_transmit post (nI cn, rt, rx, ms, nI e, nI o, nI r, fn, pi, dr, eA, eS, eL, eT, eP, eC, qI, qD, sn, oA, oS, oT, oP, rA, rM, fr) (nI i) p d := by
  have hv : vp_in (nI i) 16 := nb_ix hi (by omega)
  unfold wpY_transmit
  rw [nb_cl (by omega)]
  exact ⟨hv, hv, ny_emit _ _ _ _ _ ⟨hv, br_t h3 ⟨hv, nm_e ⟨hv, nm_e ⟨hv, nm_e H⟩⟩⟩⟩⟩
theorem ny_transmit_n {post : SY → Prop} {i : Nat} {p d : Int32} (hi : i < 16) (h3 : ¬ eS i = 3) (H : post (nI cn, rt, rx, ms, nI e, nI o, nI r, fn + 1, pi, dr, eA, eS, eL, eT, eP, eC, qI, qD, sn, oA, oS, oT, oP, rA, rM, nb_ev fr fn 5 d (eL i) p (eA i))) : wpY_transmit post (nI cn, rt, rx, ms, nI e, nI o, nI r, fn, pi, dr, eA, eS, eL, eT, eP, eC, qI, qD, sn, oA, oS, oT, oP, rA, rM, fr) (nI i) p d := by
  have hv : vp_in (nI i) 16 := nb_ix hi (by omega)
  unfold wpY_transmit
  rw [nb_cl (by omega)]
  exact ⟨hv, hv, ny_emit _ _ _ _ _ ⟨hv, br_f h3 H⟩⟩
end
