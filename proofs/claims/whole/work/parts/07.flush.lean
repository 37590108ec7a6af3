/-! sending what is queued -/
section
variable {cn e o r : Nat} {rt rx ms fn pi dr : Int32} {eA eS eL eT eP eC qI qD oA oS oT oP rA rM fr sn : Nat → Int32}
theorem nj_fl {i q : Nat} (hi : i < 16) (hq : q ≤ 3) (hC : eC i = nI q) (h3 : ¬ eS i = 3) : ∀ d k : Nat, k + d = q → ∀ (fn : Int32) (fr : Nat → Int32), ∃ (fn1 : Int32) (fr1 : Nat → Int32),
    (∀ post : SX → Prop, post (nI cn, rt, rx, ms, nI e, nI o, nI r, fn1, pi, dr, eA, eS, eL, eT, eP, upd eC i 0, qI, qD, oA, oS, oT, oP, rA, rM, nb_fp 0 fr1, nb_fp 1 fr1, nb_fp 2 fr1, nb_fp 3 fr1, nb_fp 4 fr1) → wX_flush_14 post (nI i) (nI (3 * i)) (nI q) (d + 1) (nI k) (nI cn) rt rx ms (nI e) (nI o) (nI r) fn pi dr eA eS eL eT eP eC qI qD oA oS oT oP rA rM (nb_fp 0 fr) (nb_fp 1 fr) (nb_fp 2 fr) (nb_fp 3 fr) (nb_fp 4 fr)) ∧
    (∀ post : SY → Prop, post (nI cn, rt, rx, ms, nI e, nI o, nI r, fn1, pi, dr, eA, eS, eL, eT, eP, upd eC i 0, qI, qD, sn, oA, oS, oT, oP, rA, rM, fr1) → wY_flush_2 post (nI i) (d + 1) (nI k) (nI cn) rt rx ms (nI e) (nI o) (nI r) fn pi dr eA eS eL eT eP eC qI qD sn oA oS oT oP rA rM fr) := by
  have hv : vp_in (nI i) 16 := nb_ix hi (by omega)
  intro d
  induction d with
  | zero =>
    intro k hk fn fr
    refine ⟨fn, fr, fun post H => ?_, fun post H => ?_⟩
    · refine br_t (nI_le (by omega) (by omega)) ?_
      rw [nb_cl (i := i) (by omega)]
      exact ⟨hv, nm_e H⟩
    · refine ⟨hv, br_t ?_ ?_⟩
      · rw [nb_cl (i := i) (by omega), hC]
        exact nI_le (by omega) (by omega)
      · rw [nb_cl (i := i) (by omega)]
        exact ⟨hv, nm_e H⟩
  | succ d ih =>
    intro k hk fn fr
    have hw : vp_in (nI (3 * i + k)) 48 := nb_ix (by omega) (by omega)
    obtain ⟨fn1, fr1, hX, hY⟩ := ih (k + 1) (by omega) (fn + 1) (nb_ev fr fn 5 (qD (3 * i + k)) (eL i) (qI (3 * i + k)) (eA i))
    refine ⟨fn1, fr1, fun post H => ?_, fun post H => ?_⟩
    · refine br_f (nI_ge (by omega) (by omega)) ?_
      rw [nI_add (3 * i) k, nb_cl (i := 3 * i + k) (by omega)]
      exact ⟨hw, hw, nx_transmit_n hi h3 (nm_r (nI_1 k) (hX post H))⟩
    · refine ⟨hv, br_f ?_ (br_f (nI_ge (b := 3) (by omega) (by omega)) ?_)⟩
      · rw [nb_cl (i := i) (by omega), hC]
        exact nI_ge (by omega) (by omega)
      · rw [nb_3a, nb_cl (i := 3 * i + k) (by omega)]
        exact ⟨hw, hw, ny_transmit_n hi h3 (nm_r (nI_1 k) (hY post H))⟩
theorem nj_flush {i q : Nat} (hi : i < 16) (hq : q ≤ 3) (hC : eC i = nI q) : ∃ (fn1 : Int32) (fr1 eS1 eT1 eP1 : Nat → Int32),
    ((eS1 = eS ∧ eT1 = eT ∧ eP1 = eP) ∨ (eS i = 3 ∧ eS1 = upd eS i 4 ∧ eT1 = upd eT i 5 ∧ eP1 = upd eP i 0)) ∧
    (∀ post : SX → Prop, post (nI cn, rt, rx, ms, nI e, nI o, nI r, fn1, pi, dr, eA, eS1, eL, eT1, eP1, upd eC i 0, qI, qD, oA, oS, oT, oP, rA, rM, nb_fp 0 fr1, nb_fp 1 fr1, nb_fp 2 fr1, nb_fp 3 fr1, nb_fp 4 fr1) → wpX_flush post (nI cn, rt, rx, ms, nI e, nI o, nI r, fn, pi, dr, eA, eS, eL, eT, eP, eC, qI, qD, oA, oS, oT, oP, rA, rM, nb_fp 0 fr, nb_fp 1 fr, nb_fp 2 fr, nb_fp 3 fr, nb_fp 4 fr) (nI i)) ∧
    (∀ post : SY → Prop, post (nI cn, rt, rx, ms, nI e, nI o, nI r, fn1, pi, dr, eA, eS1, eL, eT1, eP1, upd eC i 0, qI, qD, sn, oA, oS, oT, oP, rA, rM, fr1) → wpY_flush post (nI cn, rt, rx, ms, nI e, nI o, nI r, fn, pi, dr, eA, eS, eL, eT, eP, eC, qI, qD, sn, oA, oS, oT, oP, rA, rM, fr) (nI i)) := by
  have hv : vp_in (nI i) 16 := nb_ix hi (by omega)
  have hC' : eC (nI i).toNatClampNeg = nI q := by rw [nb_cl (i := i) (by omega)]; exact hC
  have hin : ∀ post : SX → Prop, (∃ n, wX_flush_14 post (nI i) (nI (3 * i)) (nI q) n (nI 0) (nI cn) rt rx ms (nI e) (nI o) (nI r) fn pi dr eA eS eL eT eP eC qI qD oA oS oT oP rA rM (nb_fp 0 fr) (nb_fp 1 fr) (nb_fp 2 fr) (nb_fp 3 fr) (nb_fp 4 fr)) → wpX_flush post (nI cn, rt, rx, ms, nI e, nI o, nI r, fn, pi, dr, eA, eS, eL, eT, eP, eC, qI, qD, oA, oS, oT, oP, rA, rM, nb_fp 0 fr, nb_fp 1 fr, nb_fp 2 fr, nb_fp 3 fr, nb_fp 4 fr) (nI i) := by
    intro post h
    unfold wpX_flush
    exact nm_r (nb_30 i) ⟨hv, nm_r hC' h⟩
  have hin2 : ∀ post : SY → Prop, (∃ n, wY_flush_2 post (nI i) n (nI 0) (nI cn) rt rx ms (nI e) (nI o) (nI r) fn pi dr eA eS eL eT eP eC qI qD sn oA oS oT oP rA rM fr) → wpY_flush post (nI cn, rt, rx, ms, nI e, nI o, nI r, fn, pi, dr, eA, eS, eL, eT, eP, eC, qI, qD, sn, oA, oS, oT, oP, rA, rM, fr) (nI i) := by
    intro post h
    unfold wpY_flush
    exact h
  by_cases h3 : eS i = 3
  · by_cases h0 : q = 0
    · subst h0
      refine ⟨fn, fr, eS, eT, eP, Or.inl ⟨rfl, rfl, rfl⟩, fun post H => hin post ⟨1, ?_⟩, fun post H => hin2 post ⟨1, ?_⟩⟩
      · refine br_t (nI_le (by omega) (by omega)) ?_
        rw [nb_cl (i := i) (by omega)]
        exact ⟨hv, nm_e H⟩
      · refine ⟨hv, br_t ?_ ?_⟩
        · rw [hC']
          exact nI_le (by omega) (by omega)
        · rw [nb_cl (i := i) (by omega)]
          exact ⟨hv, nm_e H⟩
    · obtain ⟨d, rfl⟩ : ∃ d, q = d + 1 := ⟨q - 1, by omega⟩
      have hw : vp_in (nI (3 * i)) 48 := nb_ix (by omega) (by omega)
      have h3' : ¬ upd eS i 4 i = 3 := by rw [pk_us]; decide
      obtain ⟨fn1, fr1, hX, hY⟩ := nj_fl (cn := cn) (e := e) (o := o) (r := r) (rt := rt) (rx := rx) (ms := ms) (pi := pi) (dr := dr) (eA := eA) (eS := upd eS i 4) (eL := eL) (eT := upd eT i 5) (eP := upd eP i 0) (qI := qI) (qD := qD) (oA := oA) (oS := oS) (oT := oT) (oP := oP) (rA := rA) (rM := rM) (sn := sn) hi hq hC h3' d 1 (by omega) (fn + 1) (nb_ev fr fn 5 (qD (3 * i)) (eL i) (qI (3 * i)) (eA i))
      refine ⟨fn1, fr1, upd eS i 4, upd eT i 5, upd eP i 0, Or.inr ⟨h3, rfl, rfl, rfl⟩, fun post H => hin post ⟨d + 2, ?_⟩, fun post H => hin2 post ⟨d + 2, ?_⟩⟩
      · refine br_f (nI_ge (by omega) (by omega)) ?_
        rw [nI_add (3 * i) 0, Nat.add_zero, nb_cl (i := 3 * i) (by omega)]
        exact ⟨hw, hw, nx_transmit_3 hi h3 (nm_r (nI_1 0) (hX post H))⟩
      · refine ⟨hv, br_f ?_ (br_f (nI_ge (b := 3) (by omega) (by omega)) ?_)⟩
        · rw [hC']
          exact nI_ge (by omega) (by omega)
        · rw [nb_3a, Nat.add_zero, nb_cl (i := 3 * i) (by omega)]
          exact ⟨hw, hw, ny_transmit_3 hi h3 (nm_r (nI_1 0) (hY post H))⟩
  · obtain ⟨fn1, fr1, hX, hY⟩ := nj_fl (cn := cn) (e := e) (o := o) (r := r) (rt := rt) (rx := rx) (ms := ms) (pi := pi) (dr := dr) (eA := eA) (eS := eS) (eL := eL) (eT := eT) (eP := eP) (qI := qI) (qD := qD) (oA := oA) (oS := oS) (oT := oT) (oP := oP) (rA := rA) (rM := rM) (sn := sn) hi hq hC h3 q 0 (by omega) fn fr
    exact ⟨fn1, fr1, eS, eT, eP, Or.inl ⟨rfl, rfl, rfl⟩, fun post H => hin post ⟨q + 1, hX post H⟩, fun post H => hin2 post ⟨q + 1, hY post H⟩⟩
theorem nx_flush_0 {post : SX → Prop} {i : Nat} (hi : i < 16) (hC : eC i = 0) (H : post (nI cn, rt, rx, ms, nI e, nI o, nI r, fn, pi, dr, eA, eS, eL, eT, eP, eC, qI, qD, oA, oS, oT, oP, rA, rM, nb_fp 0 fr, nb_fp 1 fr, nb_fp 2 fr, nb_fp 3 fr, nb_fp 4 fr)) : wpX_flush post (nI cn, rt, rx, ms, nI e, nI o, nI r, fn, pi, dr, eA, eS, eL, eT, eP, eC, qI, qD, oA, oS, oT, oP, rA, rM, nb_fp 0 fr, nb_fp 1 fr, nb_fp 2 fr, nb_fp 3 fr, nb_fp 4 fr) (nI i) := by
  have hv : vp_in (nI i) 16 := nb_ix hi (by omega)
  unfold wpX_flush
  refine nm_r (nb_30 i) ⟨hv, nm_r (e' := nI 0) ?_ ⟨1, ?_⟩⟩
  · rw [nb_cl (i := i) (by omega)]
    exact hC
  · refine br_t (nI_le (b := 0) (by omega) (by omega)) ?_
    rw [nb_cl (i := i) (by omega), nb_uv hC]
    exact ⟨hv, nm_e H⟩
theorem nx_fail_n {post : SX → Prop} {m i : Nat} (hm : m < 16) (hi : i ≤ m) (hr : r ≤ 4) (hn : ∀ j, j < r → ¬ rA j = eA i) (H : post (nI cn, rt, rx, ms, nI m, nI o, nI r, fn, pi, dr + eC i, nb_sh i m eA, nb_sh i m eS, nb_sh i m eL, nb_sh i m eT, nb_sh i m eP, nb_sh i m eC, nb_sq i m qI, nb_sq i m qD, oA, oS, oT, oP, rA, rM, nb_fp 0 fr, nb_fp 1 fr, nb_fp 2 fr, nb_fp 3 fr, nb_fp 4 fr)) : wpX_failEntry post (nI cn, rt, rx, ms, nI (m + 1), nI o, nI r, fn, pi, dr, eA, eS, eL, eT, eP, eC, qI, qD, oA, oS, oT, oP, rA, rM, nb_fp 0 fr, nb_fp 1 fr, nb_fp 2 fr, nb_fp 3 fr, nb_fp 4 fr) (nI i) := by
  have hv : vp_in (nI i) 16 := nb_ix (by omega) (by omega)
  unfold wpX_failEntry
  rw [nb_cl (by omega)]
  exact ⟨hv, nm_e ⟨hv, nx_findRouter_n hr hn (br_t rfl (nx_deleteEntry hm hi H))⟩⟩
theorem nx_fail_s {post : SX → Prop} {m i : Nat} (hm : m < 16) (hi : i ≤ m) (hr : r ≤ 4) (j : Nat) (hj : j < r) (hy : rA j = eA i) (hn : ∀ l, l < j → ¬ rA l = eA i) (H : post (nI cn, rt, rx, ms, nI m, nI o, nI r, fn, pi, dr + eC i, nb_sh i m eA, nb_sh i m eS, nb_sh i m eL, nb_sh i m eT, nb_sh i m eP, nb_sh i m eC, nb_sq i m qI, nb_sq i m qD, oA, oS, oT, oP, rA, upd rM j 1, nb_fp 0 fr, nb_fp 1 fr, nb_fp 2 fr, nb_fp 3 fr, nb_fp 4 fr)) : wpX_failEntry post (nI cn, rt, rx, ms, nI (m + 1), nI o, nI r, fn, pi, dr, eA, eS, eL, eT, eP, eC, qI, qD, oA, oS, oT, oP, rA, rM, nb_fp 0 fr, nb_fp 1 fr, nb_fp 2 fr, nb_fp 3 fr, nb_fp 4 fr) (nI i) := by
  have hv : vp_in (nI i) 16 := nb_ix (by omega) (by omega)
  unfold wpX_failEntry
  rw [nb_cl (by omega)]
  refine ⟨hv, nm_e ⟨hv, nx_findRouter_s hr j hj hy hn (br_f (nb_m1 (by omega)) ?_)⟩⟩
  rw [nb_cl (by omega)]
  exact ⟨nb_ix (by omega) (by omega), nm_e (nx_deleteEntry hm hi H)⟩
theorem ny_fail_n {post : SY → Prop} {m i : Nat} (hm : m < 16) (hi : i ≤ m) (hr : r ≤ 4) (hn : ∀ j, j < r → ¬ rA j = eA i) (H : post (nI cn, rt, rx, ms, nI m, nI o, nI r, fn, pi, dr + eC i, nb_sh i m eA, nb_sh i m eS, nb_sh i m eL, nb_sh i m eT, nb_sh i m eP, nb_sh i m eC, nb_sq i m qI, nb_sq i m qD, sn, oA, oS, oT, oP, rA, rM, fr)) : wpY_fail post (nI cn, rt, rx, ms, nI (m + 1), nI o, nI r, fn, pi, dr, eA, eS, eL, eT, eP, eC, qI, qD, sn, oA, oS, oT, oP, rA, rM, fr) (nI i) := by
  have hv : vp_in (nI i) 16 := nb_ix (by omega) (by omega)
  unfold wpY_fail
  rw [nb_cl (by omega)]
  exact ⟨hv, nm_e ⟨hv, nm_e (ny_deleteAt hm hi (ny_findRouter_n hr hn (br_t (by decide) H)))⟩⟩
theorem ny_fail_s {post : SY → Prop} {m i : Nat} (hm : m < 16) (hi : i ≤ m) (hr : r ≤ 4) (j : Nat) (hj : j < r) (hy : rA j = eA i) (hn : ∀ l, l < j → ¬ rA l = eA i) (H : post (nI cn, rt, rx, ms, nI m, nI o, nI r, fn, pi, dr + eC i, nb_sh i m eA, nb_sh i m eS, nb_sh i m eL, nb_sh i m eT, nb_sh i m eP, nb_sh i m eC, nb_sq i m qI, nb_sq i m qD, sn, oA, oS, oT, oP, rA, upd rM j 1, fr)) : wpY_fail post (nI cn, rt, rx, ms, nI (m + 1), nI o, nI r, fn, pi, dr, eA, eS, eL, eT, eP, eC, qI, qD, sn, oA, oS, oT, oP, rA, rM, fr) (nI i) := by
  have hv : vp_in (nI i) 16 := nb_ix (by omega) (by omega)
  unfold wpY_fail
  rw [nb_cl (by omega)]
  refine ⟨hv, nm_e ⟨hv, nm_e (ny_deleteAt hm hi (ny_findRouter_s hr j hj hy hn (br_f (nb_nn (by omega)) ?_)))⟩⟩
  rw [nb_cl (by omega)]
  exact ⟨nb_ix (by omega) (by omega), nm_e H⟩
end
