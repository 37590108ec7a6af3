/-! deletion -/
theorem nb_3a (j k : Nat) : nI j * 3 + nI k = nI (3 * j + k) := by
  rw [show nI j * 3 = nI (j * 3) from pk_mul j 3, nI_add, Nat.mul_comm]
theorem nb_3b (j k : Nat) : nI j * 3 + 3 + nI k = nI (3 * j + k + 3) := by
  rw [show nI j * 3 = nI (j * 3) from pk_mul j 3, show nI (j * 3) + 3 = nI (j * 3 + 3) from nI_add _ 3, nI_add]
  exact congrArg nI (by omega)
theorem nb_3c (j k : Nat) : nI (j + 1) * 3 + nI k = nI (3 * j + k + 3) := by
  rw [nb_3a]
  exact congrArg nI (by omega)
theorem nb_30 (j : Nat) : nI j * 3 = nI (3 * j) := by
  rw [show nI j * 3 = nI (j * 3) from pk_mul j 3, Nat.mul_comm]
section
variable {cn e o r : Nat} {rt rx ms fn pi dr : Int32} {eA eS eL eT eP eC qI qD oA oS oT oP rA rM fr sn : Nat → Int32}
theorem nx_move78 {post : SX → Prop} {j : Nat} (hj : j < 15) (H : post (nI cn, rt, rx, ms, nI e, nI o, nI r, fn, pi, dr, eA, eS, eL, eT, eP, eC, nb_mk j 3 qI, nb_mk j 3 qD, oA, oS, oT, oP, rA, rM, nb_fp 0 fr, nb_fp 1 fr, nb_fp 2 fr, nb_fp 3 fr, nb_fp 4 fr)) : ∃ n, wX_moveEntryDown_78 post (nI j) (nI (j + 1)) (nI cn) rt rx ms (nI e) (nI o) (nI r) fn pi dr n 0 eA eS eL eT eP eC qI qD oA oS oT oP rA rM (nb_fp 0 fr) (nb_fp 1 fr) (nb_fp 2 fr) (nb_fp 3 fr) (nb_fp 4 fr) := by
  have key : ∀ d k : Nat, k + d = 3 → wX_moveEntryDown_78 post (nI j) (nI (j + 1)) (nI cn) rt rx ms (nI e) (nI o) (nI r) fn pi dr (d + 1) (nI k) eA eS eL eT eP eC (nb_mk j k qI) (nb_mk j k qD) oA oS oT oP rA rM (nb_fp 0 fr) (nb_fp 1 fr) (nb_fp 2 fr) (nb_fp 3 fr) (nb_fp 4 fr) := by
    intro d
    induction d with
    | zero =>
      intro k hk
      obtain rfl : k = 3 := by omega
      exact br_t (nI_le (a := 3) (by omega) (by omega)) H
    | succ d ih =>
      intro k hk
      refine br_f (nI_ge (b := 3) (by omega) (by omega)) ?_
      rw [nb_3c j k, nb_3a j k, nb_cl (i := 3 * j + k) (by omega), nb_cl (i := 3 * j + k + 3) (by omega)]
      exact ⟨nb_ix (by omega) (by omega), nb_ix (by omega) (by omega), nm_r (nb_mks (by omega) qI) ⟨nb_ix (by omega) (by omega), nb_ix (by omega) (by omega), nm_r (nb_mks (by omega) qD) (nm_r (nI_1 k) (ih (k + 1) (by omega)))⟩⟩
  have := key 3 0 (by omega)
  rw [nb_mk0, nb_mk0] at this
  exact ⟨4, this⟩
theorem nx_moveDown {post : SX → Prop} {j : Nat} (hj : j < 15) (H : post (nI cn, rt, rx, ms, nI e, nI o, nI r, fn, pi, dr, upd eA j (eA (j + 1)), upd eS j (eS (j + 1)), upd eL j (eL (j + 1)), upd eT j (eT (j + 1)), upd eP j (eP (j + 1)), upd eC j (eC (j + 1)), nb_mk j 3 qI, nb_mk j 3 qD, oA, oS, oT, oP, rA, rM, nb_fp 0 fr, nb_fp 1 fr, nb_fp 2 fr, nb_fp 3 fr, nb_fp 4 fr)) : wpX_moveEntryDown post (nI cn, rt, rx, ms, nI e, nI o, nI r, fn, pi, dr, eA, eS, eL, eT, eP, eC, qI, qD, oA, oS, oT, oP, rA, rM, nb_fp 0 fr, nb_fp 1 fr, nb_fp 2 fr, nb_fp 3 fr, nb_fp 4 fr) (nI j) := by
  have h0 : vp_in (nI j) 16 := nb_ix (by omega) (by omega)
  have h1 : vp_in (nI (j + 1)) 16 := nb_ix (by omega) (by omega)
  unfold wpX_moveEntryDown
  refine nm_r (nI_1 j) ?_
  rw [nb_cl (i := j) (by omega), nb_cl (i := j + 1) (by omega)]
  exact ⟨h1, h0, nm_e ⟨h1, h0, nm_e ⟨h1, h0, nm_e ⟨h1, h0, nm_e ⟨h1, h0, nm_e ⟨h1, h0, nm_e (nx_move78 hj H)⟩⟩⟩⟩⟩⟩
theorem nx_deleteEntry {post : SX → Prop} {m i : Nat} (hm : m < 16) (hi : i ≤ m) (H : post (nI cn, rt, rx, ms, nI m, nI o, nI r, fn, pi, dr, nb_sh i m eA, nb_sh i m eS, nb_sh i m eL, nb_sh i m eT, nb_sh i m eP, nb_sh i m eC, nb_sq i m qI, nb_sq i m qD, oA, oS, oT, oP, rA, rM, nb_fp 0 fr, nb_fp 1 fr, nb_fp 2 fr, nb_fp 3 fr, nb_fp 4 fr)) : wpX_deleteEntry post (nI cn, rt, rx, ms, nI (m + 1), nI o, nI r, fn, pi, dr, eA, eS, eL, eT, eP, eC, qI, qD, oA, oS, oT, oP, rA, rM, nb_fp 0 fr, nb_fp 1 fr, nb_fp 2 fr, nb_fp 3 fr, nb_fp 4 fr) (nI i) := by
  have key : ∀ d t : Nat, t + d = m → i ≤ t → wX_deleteEntry_12 post (d + 1) (nI t) (nI cn) rt rx ms (nI m) (nI o) (nI r) fn pi dr (nb_sh i t eA) (nb_sh i t eS) (nb_sh i t eL) (nb_sh i t eT) (nb_sh i t eP) (nb_sh i t eC) (nb_sq i t qI) (nb_sq i t qD) oA oS oT oP rA rM (nb_fp 0 fr) (nb_fp 1 fr) (nb_fp 2 fr) (nb_fp 3 fr) (nb_fp 4 fr) := by
    intro d
    induction d with
    | zero =>
      intro t ht hit
      obtain rfl : t = m := by omega
      exact br_t (nI_le (by omega) (by omega)) H
    | succ d ih =>
      intro t ht hit
      refine br_f (nI_ge (by omega) (by omega)) (nx_moveDown (by omega) ?_)
      rw [nb_shs hit eA, nb_shs hit eS, nb_shs hit eL, nb_shs hit eT, nb_shs hit eP, nb_shs hit eC, nb_sqs hit qI, nb_sqs hit qD]
      exact nm_r (nI_1 t) (ih (t + 1) (by omega) (by omega))
  have := key (m - i) i (by omega) (by omega)
  rw [nb_sh0 i eA, nb_sh0 i eS, nb_sh0 i eL, nb_sh0 i eT, nb_sh0 i eP, nb_sh0 i eC, nb_sq0 i qI, nb_sq0 i qD] at this
  unfold wpX_deleteEntry
  exact nm_r (nI_pred m) ⟨_, this⟩
theorem ny_move98 {post : SY → Prop} {J2 : Int32 → (Nat → Int32) → (Nat → Int32) → (Nat → Int32) → (Nat → Int32) → (Nat → Int32) → (Nat → Int32) → (Nat → Int32) → (Nat → Int32) → (Nat → Int32) → (Nat → Int32) → (Nat → Int32) → (Nat → Int32) → (Nat → Int32) → (Nat → Int32) → (Nat → Int32) → (Nat → Int32) → Prop} {j : Nat} {F : Int32} (hj : j < 15) (H : J2 (nI (j + 1)) eA eS eL eT eP eC (nb_mk j 3 qI) (nb_mk j 3 qD) sn oA oS oT oP rA rM fr) : ∃ n, wY_deleteAt_98 post J2 (nI j) (nI cn) rt rx ms F (nI o) (nI r) fn pi dr n 0 eA eS eL eT eP eC qI qD sn oA oS oT oP rA rM fr := by
  have key : ∀ d k : Nat, k + d = 3 → wY_deleteAt_98 post J2 (nI j) (nI cn) rt rx ms F (nI o) (nI r) fn pi dr (d + 1) (nI k) eA eS eL eT eP eC (nb_mk j k qI) (nb_mk j k qD) sn oA oS oT oP rA rM fr := by
    intro d
    induction d with
    | zero =>
      intro k hk
      obtain rfl : k = 3 := by omega
      exact br_t (nI_le (a := 3) (by omega) (by omega)) (nm_r (nI_1 j) H)
    | succ d ih =>
      intro k hk
      refine br_f (nI_ge (b := 3) (by omega) (by omega)) ?_
      rw [nb_3b j k, nb_3a j k, nb_cl (i := 3 * j + k) (by omega), nb_cl (i := 3 * j + k + 3) (by omega)]
      exact ⟨nb_ix (by omega) (by omega), nb_ix (by omega) (by omega), nm_r (nb_mks (by omega) qI) ⟨nb_ix (by omega) (by omega), nb_ix (by omega) (by omega), nm_r (nb_mks (by omega) qD) (nm_r (nI_1 k) (ih (k + 1) (by omega)))⟩⟩
  have := key 3 0 (by omega)
  rw [nb_mk0, nb_mk0] at this
  exact ⟨4, this⟩
theorem ny_deleteAt {post : SY → Prop} {m i : Nat} (hm : m < 16) (hi : i ≤ m) (H : post (nI cn, rt, rx, ms, nI m, nI o, nI r, fn, pi, dr, nb_sh i m eA, nb_sh i m eS, nb_sh i m eL, nb_sh i m eT, nb_sh i m eP, nb_sh i m eC, nb_sq i m qI, nb_sq i m qD, sn, oA, oS, oT, oP, rA, rM, fr)) : wpY_deleteAt post (nI cn, rt, rx, ms, nI (m + 1), nI o, nI r, fn, pi, dr, eA, eS, eL, eT, eP, eC, qI, qD, sn, oA, oS, oT, oP, rA, rM, fr) (nI i) := by
  have key : ∀ d t : Nat, t + d = m → i ≤ t → wY_deleteAt_2 post (nI cn) rt rx ms (nI (m + 1)) (nI o) (nI r) fn pi dr (d + 1) (nI t) (nb_sh i t eA) (nb_sh i t eS) (nb_sh i t eL) (nb_sh i t eT) (nb_sh i t eP) (nb_sh i t eC) (nb_sq i t qI) (nb_sq i t qD) sn oA oS oT oP rA rM fr := by
    intro d
    induction d with
    | zero =>
      intro t ht hit
      obtain rfl : t = m := by omega
      refine br_t ?_ (nm_r (nI_pred t) H)
      rw [nI_pred]
      exact nI_le (by omega) (by omega)
    | succ d ih =>
      intro t ht hit
      have h0 : vp_in (nI t) 16 := nb_ix (by omega) (by omega)
      have h1 : vp_in (nI (t + 1)) 16 := nb_ix (by omega) (by omega)
      refine br_f ?_ ?_
      · rw [nI_pred]
        exact nI_ge (by omega) (by omega)
      · rw [nI_1 t, nb_cl (i := t) (by omega), nb_cl (i := t + 1) (by omega)]
        refine ⟨h1, h0, nm_e ⟨h1, h0, nm_e ⟨h1, h0, nm_e ⟨h1, h0, nm_e ⟨h1, h0, nm_e ⟨h1, h0, nm_e (ny_move98 (by omega) ?_)⟩⟩⟩⟩⟩⟩
        rw [nb_shs hit eA, nb_shs hit eS, nb_shs hit eL, nb_shs hit eT, nb_shs hit eP, nb_shs hit eC, nb_sqs hit qI, nb_sqs hit qD]
        exact ih (t + 1) (by omega) (by omega)
  have := key (m - i) i (by omega) (by omega)
  rw [nb_sh0 i eA, nb_sh0 i eS, nb_sh0 i eL, nb_sh0 i eT, nb_sh0 i eP, nb_sh0 i eC, nb_sq0 i qI, nb_sq0 i qD] at this
  unfold wpY_deleteAt
  exact ⟨_, this⟩
end
