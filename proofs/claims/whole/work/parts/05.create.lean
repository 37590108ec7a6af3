/-! creation -/
section
variable {cn e o r : Nat} {rt rx ms fn pi dr : Int32} {eA eS eL eT eP eC qI qD oA oS oT oP rA rM fr sn : Nat → Int32}
theorem nx_c28 {post : Int32 → SX → Prop} {a : Int32} (he : e < 16) (H : post (nI e) (nI cn, rt, rx, ms, nI (e + 1), nI o, nI r, fn, pi, dr, upd eA e a, eS, upd eL e 0, eT, eP, upd eC e 0, qI, qD, oA, oS, oT, oP, rA, rM, nb_fp 0 fr, nb_fp 1 fr, nb_fp 2 fr, nb_fp 3 fr, nb_fp 4 fr)) : wX_createEntry_28 post a (nI cn) rt rx ms (nI e) (nI o) (nI r) fn pi dr eA eS eL eT eP eC qI qD oA oS oT oP rA rM (nb_fp 0 fr) (nb_fp 1 fr) (nb_fp 2 fr) (nb_fp 3 fr) (nb_fp 4 fr) := by
  have hv : vp_in (nI e) 16 := nb_ix he (by omega)
  unfold wX_createEntry_28
  refine nm_r (nI_1 e) ?_
  rw [nb_cl (by omega)]
  exact ⟨hv, nm_e ⟨hv, nm_e ⟨hv, nm_e H⟩⟩⟩
theorem ny_c55 {post : Int32 → SY → Prop} {a : Int32} (he : e < 16) (H : post (nI e) (nI cn, rt, rx, ms, nI (e + 1), nI o, nI r, fn, pi, dr, upd eA e a, upd eS e 0, upd eL e 0, upd eT e 0, upd eP e 0, upd eC e 0, qI, qD, sn, oA, oS, oT, oP, rA, rM, fr)) : wY_create_55 post a (nI cn) rt rx ms (nI e) (nI o) (nI r) fn pi dr eA eS eL eT eP eC qI qD sn oA oS oT oP rA rM fr := by
  have hv : vp_in (nI e) 16 := nb_ix he (by omega)
  unfold wY_create_55
  rw [nb_cl (by omega)]
  exact ⟨hv, nm_e ⟨hv, nm_e ⟨hv, nm_e ⟨hv, nm_e ⟨hv, nm_e ⟨hv, nm_e (nm_r (nI_1 e) H)⟩⟩⟩⟩⟩⟩
theorem ny_c15_n {post : Int32 → SY → Prop} {a : Int32} (hb : e ≤ 16) (hn : ∀ j, j < e → eS j = 1) (H : post (-1) (nI cn, rt, rx, ms, nI e, nI o, nI r, fn, pi, dr, eA, eS, eL, eT, eP, eC, qI, qD, sn, oA, oS, oT, oP, rA, rM, fr)) : ∃ n, wY_create_15 post a (-1) (nI cn) rt rx ms (nI e) (nI o) (nI r) fn pi dr eA eS eL eT eP eC qI qD sn oA oS oT oP rA rM fr n 0 := by
  have key : ∀ d j : Nat, j + d = e → wY_create_15 post a (-1) (nI cn) rt rx ms (nI e) (nI o) (nI r) fn pi dr eA eS eL eT eP eC qI qD sn oA oS oT oP rA rM fr (d + 1) (nI j) := by
    intro d
    induction d with
    | zero =>
      intro j hj
      exact br_t (nI_le (by omega) (by omega)) (br_f (by decide) H)
    | succ d ih =>
      intro j hj
      refine br_f (nI_ge (by omega) (by omega)) ⟨nb_ix (by omega) (by omega), br_t ?_ (nm_r (nI_1 j) (ih (j + 1) (by omega)))⟩
      rw [nb_cl (by omega)]
      exact hn j (by omega)
  exact ⟨e + 1, key e 0 (by omega)⟩
theorem ny_c15_s {post : Int32 → SY → Prop} {a : Int32} (hb : e ≤ 16) (i : Nat) (hi : i < e) (hy : ¬ eS i = 1) (hn : ∀ j, j < i → eS j = 1) (H : wY_create_44 post a (nI i) (nI cn) rt rx ms (nI e) (nI o) (nI r) fn pi dr eA eS eL eT eP eC qI qD sn oA oS oT oP rA rM fr) : ∃ n, wY_create_15 post a (-1) (nI cn) rt rx ms (nI e) (nI o) (nI r) fn pi dr eA eS eL eT eP eC qI qD sn oA oS oT oP rA rM fr n 0 := by
  have key : ∀ d j : Nat, j + d = i → wY_create_15 post a (-1) (nI cn) rt rx ms (nI e) (nI o) (nI r) fn pi dr eA eS eL eT eP eC qI qD sn oA oS oT oP rA rM fr (d + 1) (nI j) := by
    intro d
    induction d with
    | zero =>
      intro j hj
      obtain rfl : j = i := by omega
      refine br_f (nI_ge (by omega) (by omega)) ⟨nb_ix (by omega) (by omega), br_f ?_ H⟩
      rw [nb_cl (by omega)]
      exact hy
    | succ d ih =>
      intro j hj
      refine br_f (nI_ge (by omega) (by omega)) ⟨nb_ix (by omega) (by omega), br_t ?_ (nm_r (nI_1 j) (ih (j + 1) (by omega)))⟩
      rw [nb_cl (by omega)]
      exact hn j (by omega)
  exact ⟨i + 1, key i 0 (by omega)⟩
theorem nj_create (hc : cn ≤ 16) (h2 : 2 ≤ cn) (he : e ≤ cn) (E : nb_ent e eA eS eL eT eP eC) (a : Int32) (hn : ∀ j, j < e → ¬ eA j = a) :
    ((∀ post : Int32 → SX → Prop, post (-1) (nI cn, rt, rx, ms, nI e, nI o, nI r, fn, pi, dr, eA, eS, eL, eT, eP, eC, qI, qD, oA, oS, oT, oP, rA, rM, nb_fp 0 fr, nb_fp 1 fr, nb_fp 2 fr, nb_fp 3 fr, nb_fp 4 fr) → wpX_createEntry post (nI cn, rt, rx, ms, nI e, nI o, nI r, fn, pi, dr, eA, eS, eL, eT, eP, eC, qI, qD, oA, oS, oT, oP, rA, rM, nb_fp 0 fr, nb_fp 1 fr, nb_fp 2 fr, nb_fp 3 fr, nb_fp 4 fr) a) ∧ (∀ post : Int32 → SY → Prop, post (-1) (nI cn, rt, rx, ms, nI e, nI o, nI r, fn, pi, dr, eA, eS, eL, eT, eP, eC, qI, qD, sn, oA, oS, oT, oP, rA, rM, fr) → wpY_create post (nI cn, rt, rx, ms, nI e, nI o, nI r, fn, pi, dr, eA, eS, eL, eT, eP, eC, qI, qD, sn, oA, oS, oT, oP, rA, rM, fr) a)) ∨
    ∃ (e1 : Nat) (eA1 eS1 eL1 eT1 eP1 eC1 qI1 qD1 : Nat → Int32), e1 < cn ∧ nb_ent e1 eA1 eS1 eL1 eT1 eP1 eC1 ∧ (∀ j, j < e1 → ¬ eA1 j = a) ∧
      (∀ post : Int32 → SX → Prop, post (nI e1) (nI cn, rt, rx, ms, nI (e1 + 1), nI o, nI r, fn, pi, dr, upd eA1 e1 a, eS1, upd eL1 e1 0, eT1, eP1, upd eC1 e1 0, qI1, qD1, oA, oS, oT, oP, rA, rM, nb_fp 0 fr, nb_fp 1 fr, nb_fp 2 fr, nb_fp 3 fr, nb_fp 4 fr) → wpX_createEntry post (nI cn, rt, rx, ms, nI e, nI o, nI r, fn, pi, dr, eA, eS, eL, eT, eP, eC, qI, qD, oA, oS, oT, oP, rA, rM, nb_fp 0 fr, nb_fp 1 fr, nb_fp 2 fr, nb_fp 3 fr, nb_fp 4 fr) a) ∧
      (∀ post : Int32 → SY → Prop, post (nI e1) (nI cn, rt, rx, ms, nI (e1 + 1), nI o, nI r, fn, pi, dr, upd eA1 e1 a, upd eS1 e1 0, upd eL1 e1 0, upd eT1 e1 0, upd eP1 e1 0, upd eC1 e1 0, qI1, qD1, sn, oA, oS, oT, oP, rA, rM, fr) → wpY_create post (nI cn, rt, rx, ms, nI e, nI o, nI r, fn, pi, dr, eA, eS, eL, eT, eP, eC, qI, qD, sn, oA, oS, oT, oP, rA, rM, fr) a) := by
  by_cases h : e < cn
  · refine Or.inr ⟨e, eA, eS, eL, eT, eP, eC, qI, qD, h, E, hn, fun post H => ?_, fun post H => ?_⟩
    · unfold wpX_createEntry
      exact br_t (nI_lt h (by omega)) (nx_c28 (by omega) H)
    · unfold wpY_create
      exact br_t (nI_lt h (by omega)) (ny_c55 (by omega) H)
  · have hx : ¬ nI e < nI cn := nI_nlt (by omega) (by omega)
    rcases nb_find (fun j => ¬ eS j = 1) e with hN | ⟨i, hi, hy, hl⟩
    · have hN' : ∀ j, j < e → eS j = 1 := fun j hj => Classical.byContradiction (hN j hj)
      refine Or.inl ⟨fun post H => ?_, fun post H => ?_⟩
      · unfold wpX_createEntry
        exact br_f hx (nx_oldestNotIncomplete_n (by omega) hN' (br_t rfl H))
      · unfold wpY_create
        exact br_f hx (ny_c15_n (by omega) hN' H)
    · have hl' : ∀ j, j < i → eS j = 1 := fun j hj => Classical.byContradiction (hl j hj)
      obtain ⟨m, rfl⟩ : ∃ m, e = m + 1 := ⟨e - 1, by omega⟩
      refine Or.inr ⟨m, nb_sh i m eA, nb_sh i m eS, nb_sh i m eL, nb_sh i m eT, nb_sh i m eP, nb_sh i m eC, nb_sq i m qI, nb_sq i m qD, by omega, nb_ent_del E (by omega), nb_sh_no hn (by omega), fun post H => ?_, fun post H => ?_⟩
      · unfold wpX_createEntry
        exact br_f hx (nx_oldestNotIncomplete_s (by omega) i hi hy hl' (br_f (nb_m1 (by omega)) (nx_deleteEntry (by omega) (by omega) (nx_c28 (by omega) H))))
      · unfold wpY_create
        refine br_f hx (ny_c15_s (by omega) i hi hy hl' ?_)
        unfold wY_create_44
        exact br_t (nb_n0 (by omega)) (ny_deleteAt (by omega) (by omega) (ny_c55 (by omega) H))
end
