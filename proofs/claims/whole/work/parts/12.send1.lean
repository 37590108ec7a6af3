/-! sending -/
section
variable {cn e o r : Nat} {rt rx ms fn pi dr : Int32} {eA eS eL eT eP eC qI qD oA oS oT oP rA rM fr sn : Nat → Int32}
theorem nj_s37 (I : nb_inv cn e o r rt rx eA eS eL eT eP eC oA oS oT rA) {h d : Int32} (hh : nb_ok h) : ∃ (e1 : Nat) (fn1 dr1 : Int32) (eA1 eS1 eL1 eT1 eP1 eC1 qI1 qD1 fr1 : Nat → Int32), nb_inv cn e1 o r rt rx eA1 eS1 eL1 eT1 eP1 eC1 oA oS oT rA ∧
    (∀ post : Int32 → SX → Prop, post (pi + 1) (nI cn, rt, rx, ms, nI e1, nI o, nI r, fn1, pi + 1, dr1, eA1, eS1, eL1, eT1, eP1, eC1, qI1, qD1, oA, oS, oT, oP, rA, rM, nb_fp 0 fr1, nb_fp 1 fr1, nb_fp 2 fr1, nb_fp 3 fr1, nb_fp 4 fr1) → wX_send_37 post d h (nI cn) rt rx ms (nI e) (nI o) (nI r) fn pi dr eA eS eL eT eP eC qI qD oA oS oT oP rA rM (nb_fp 0 fr) (nb_fp 1 fr) (nb_fp 2 fr) (nb_fp 3 fr) (nb_fp 4 fr)) ∧
    (∀ post : Int32 → SY → Prop, post (pi + 1) (nI cn, rt, rx, ms, nI e1, nI o, nI r, fn1, pi + 1, dr1, eA1, eS1, eL1, eT1, eP1, eC1, qI1, qD1, sn, oA, oS, oT, oP, rA, rM, fr1) → wY_send_99 post d h (nI cn) rt rx ms (nI e) (nI o) (nI r) fn pi dr eA eS eL eT eP eC qI qD sn oA oS oT oP rA rM fr) := by
  have hb := I.1
  have hE := I.2.2.1
  rcases nb_find (fun j => eA j = h) e with hN | ⟨i, hi, hy, hl⟩
  · rcases nj_create (cn := cn) (e := e) (o := o) (r := r) (rt := rt) (rx := rx) (ms := ms) (fn := fn) (pi := pi + 1) (dr := dr) (qI := qI) (qD := qD) (oA := oA) (oS := oS) (oT := oT) (oP := oP) (rA := rA) (rM := rM) (fr := fr) (sn := sn) hb.2.1 hb.1 hb.2.2.1 hE h hN with ⟨hX, hY⟩ | ⟨e1, eA1, eS1, eL1, eT1, eP1, eC1, qI1, qD1, he1, hE1, hn1, hX, hY⟩
    · refine ⟨e, fn, dr + 1, eA, eS, eL, eT, eP, eC, qI, qD, fr, I, fun post H => ?_, fun post H => ?_⟩
      · unfold wX_send_37
        refine nm_e (nx_findEntry_n (by omega) hN (br_t rfl ?_))
        unfold wpX_startResolution
        exact hX _ (br_t rfl (nm_e H))
      · unfold wY_send_99
        refine nm_e (ny_find_n (by omega) hN (br_f (by decide) ?_))
        exact hY _ (br_f (by decide) (nm_e H))
    · have hv : vp_in (nI e1) 16 := nb_ix (by omega) (by omega)
      have hw : vp_in (nI (3 * e1)) 48 := nb_ix (by omega) (by omega)
      refine ⟨e1 + 1, fn + 1, dr, upd eA1 e1 h, upd eS1 e1 1, upd eL1 e1 0, upd eT1 e1 rx, upd eP1 e1 1, upd eC1 e1 1, upd qI1 (3 * e1) (pi + 1), upd qD1 (3 * e1) d, nb_ev fr fn 1 h 0 0 0, ⟨⟨hb.1, hb.2.1, by omega, hb.2.2.2⟩, I.2.1, nb_ent_app hE1 hn1 hh (Or.inl ⟨rfl, rfl, I.2.1.2, 1, by omega, rfl⟩), I.2.2.2⟩, fun post H => ?_, fun post H => ?_⟩
      · unfold wX_send_37
        refine nm_e (nx_findEntry_n (by omega) hN (br_t rfl ?_))
        unfold wpX_startResolution
        refine hX _ (br_f (nb_m1 (by omega)) ?_)
        rw [nb_cl (i := e1) (by omega)]
        refine ⟨hv, nm_e ⟨hv, nm_e ⟨hv, nm_e (nx_enq_lt (q := 0) (by omega) (by omega) pk_us (nx_emit _ _ _ _ _ ?_))⟩⟩⟩
        rw [nb_uu]
        exact H
      · unfold wY_send_99
        refine nm_e (ny_find_n (by omega) hN (br_f (by decide) ?_))
        refine hY _ (br_t (nb_n0 (by omega)) ?_)
        rw [nb_30 e1, nb_cl (i := e1) (by omega), nb_cl (i := 3 * e1) (by omega)]
        refine ⟨hv, nm_e ⟨hv, nm_e ⟨hv, nm_e ⟨hw, nm_e ⟨hw, nm_e ⟨hv, nm_e (ny_emit _ _ _ _ _ ?_)⟩⟩⟩⟩⟩⟩
        rw [nb_uu, nb_uu, nb_uu, nb_uu]
        exact H
  · have hv : vp_in (nI i) 16 := nb_ix (by omega) (by omega)
    have hc := nb_cl (i := i) (by omega)
    have hm := nb_m1 (i := i) (by omega)
    have hn := nb_n0 (i := i) (by omega)
    have hei := hE.2.1 i hi
    by_cases h1 : eS i = 1
    · have h1' : eS (nI i).toNatClampNeg = 1 := by rw [hc]; exact h1
      obtain ⟨q, hq, hC⟩ := nb_ei_q hei
      have hC' : eC (nI i).toNatClampNeg = nI q := by rw [hc]; exact hC
      have hL : eL i = 0 ∧ 0 < eT i := by
        rcases hei with h | h | h | h | h
        · exact ⟨h.2.1, h.2.2.1⟩
        · exact absurd (h.1.symm.trans h1) (by decide)
        · exact absurd (h.1.symm.trans h1) (by decide)
        · exact absurd (h.1.symm.trans h1) (by decide)
        · exact absurd (h.1.symm.trans h1) (by decide)
      by_cases hq3 : q < 3
      · refine ⟨e, fn, dr, eA, eS, eL, eT, eP, upd eC i (nI (q + 1)), upd qI (3 * i + q) (pi + 1), upd qD (3 * i + q) d, fr, ⟨I.1, I.2.1, ?_, I.2.2.2⟩, fun post H => ?_, fun post H => ?_⟩
        · refine nb_ent_up i hE ?_ (fun j hj => ⟨rfl, rfl, rfl, rfl, pk_un hj⟩)
          rw [pk_us]
          exact Or.inl ⟨h1, hL.1, hL.2, q + 1, by omega, rfl⟩
        · unfold wX_send_37
          exact nm_e (nx_findEntry_s (by omega) i hi hy hl (br_f hm ⟨hv, br_t h1' (nx_enq_lt (by omega) hq3 hC H)⟩))
        · unfold wY_send_99
          refine nm_e (ny_find_s (by omega) i hi hy hl (br_t hn ⟨hv, br_t h1' ⟨hv, br_t ?_ (ny_s344 (by omega) hq3 hC H)⟩⟩))
          rw [hC']
          exact nI_lt (b := 3) hq3 (by omega)
      · obtain rfl : q = 3 := by omega
        refine ⟨e, fn, dr + 1, eA, eS, eL, eT, eP, upd (upd eC i 2) i 3, upd (nb_dq i qI) (3 * i + 2) (pi + 1), upd (nb_dq i qD) (3 * i + 2) d, fr, ⟨I.1, I.2.1, ?_, I.2.2.2⟩, fun post H => ?_, fun post H => ?_⟩
        · refine nb_ent_up i hE ?_ (fun j hj => ⟨rfl, rfl, rfl, rfl, (pk_un hj).trans (pk_un hj)⟩)
          rw [pk_us]
          exact Or.inl ⟨h1, hL.1, hL.2, 3, by omega, rfl⟩
        · unfold wX_send_37
          exact nm_e (nx_findEntry_s (by omega) i hi hy hl (br_f hm ⟨hv, br_t h1' (nx_enq_3 (by omega) hC H)⟩))
        · have w0 : vp_in (nI (3 * i)) 48 := nb_ix (by omega) (by omega)
          have w1 : vp_in (nI (3 * i + 1)) 48 := nb_ix (by omega) (by omega)
          have w2 : vp_in (nI (3 * i + 2)) 48 := nb_ix (by omega) (by omega)
          have a1 : nI (3 * i) + 1 = nI (3 * i + 1) := nI_1 _
          have a2 : nI (3 * i) + 2 = nI (3 * i + 2) := nI_add _ 2
          unfold wY_send_99
          refine nm_e (ny_find_s (by omega) i hi hy hl (br_t hn ⟨hv, br_t h1' ⟨hv, br_f ?_ ?_⟩⟩))
          · rw [hC']
            decide
          · rw [nb_30 i, a1, a2, hc, nb_cl (i := 3 * i) (by omega), nb_cl (i := 3 * i + 1) (by omega), nb_cl (i := 3 * i + 2) (by omega)]
            exact ⟨w1, w0, nm_e ⟨w1, w0, nm_e ⟨w2, w1, nm_e ⟨w2, w1, nm_e ⟨hv, nm_e (nm_e (ny_s344 (q := 2) (by omega) (by omega) pk_us H))⟩⟩⟩⟩⟩
    · have h1' : ¬ eS (nI i).toNatClampNeg = 1 := by rw [hc]; exact h1
      by_cases h3 : eS i = 3
      · refine ⟨e, fn + 1, dr, eA, upd eS i 4, eL, upd eT i 5, upd eP i 0, eC, qI, qD, nb_ev fr fn 5 d (eL i) (pi + 1) (eA i), ⟨I.1, I.2.1, ?_, I.2.2.2⟩, fun post H => ?_, fun post H => ?_⟩
        · refine nb_ent_up i hE ?_ (fun j hj => ⟨pk_un hj, rfl, pk_un hj, pk_un hj, rfl⟩)
          rw [pk_us, pk_us, pk_us]
          exact Or.inr (Or.inr (Or.inr (Or.inl ⟨rfl, by decide, rfl, nb_ei_c0 hei h1⟩)))
        · unfold wX_send_37
          exact nm_e (nx_findEntry_s (by omega) i hi hy hl (br_f hm ⟨hv, br_f h1' (nx_transmit_3 (by omega) h3 H)⟩))
        · unfold wY_send_99
          exact nm_e (ny_find_s (by omega) i hi hy hl (br_t hn ⟨hv, br_f h1' (ny_transmit_3 (by omega) h3 H)⟩))
      · refine ⟨e, fn + 1, dr, eA, eS, eL, eT, eP, eC, qI, qD, nb_ev fr fn 5 d (eL i) (pi + 1) (eA i), I, fun post H => ?_, fun post H => ?_⟩
        · unfold wX_send_37
          exact nm_e (nx_findEntry_s (by omega) i hi hy hl (br_f hm ⟨hv, br_f h1' (nx_transmit_n (by omega) h3 H)⟩))
        · unfold wY_send_99
          exact nm_e (ny_find_s (by omega) i hi hy hl (br_t hn ⟨hv, br_f h1' (ny_transmit_n (by omega) h3 H)⟩))
end
