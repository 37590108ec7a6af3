/-! the clock: own addresses -/
section
variable {cn e o r : Nat} {rt rx ms fn pi dr : Int32} {eA eS eL eT eP eC qI qD oA oS oT oP rA rM fr sn : Nat → Int32}
theorem nx_ageT_a {post : SX → Prop} {k : Nat} (hk : k < 8) (h : ¬ oT k - 1 ≤ 0) (H : post (nI cn, rt, rx, ms, nI e, nI o, nI r, fn, pi, dr, eA, eS, eL, eT, eP, eC, qI, qD, oA, oS, upd oT k (oT k - 1), oP, rA, rM, nb_fp 0 fr, nb_fp 1 fr, nb_fp 2 fr, nb_fp 3 fr, nb_fp 4 fr)) : wpX_ageTentative post (nI cn, rt, rx, ms, nI e, nI o, nI r, fn, pi, dr, eA, eS, eL, eT, eP, eC, qI, qD, oA, oS, oT, oP, rA, rM, nb_fp 0 fr, nb_fp 1 fr, nb_fp 2 fr, nb_fp 3 fr, nb_fp 4 fr) (nI k) := by
  have hv : vp_in (nI k) 8 := nb_ix hk (by omega)
  unfold wpX_ageTentative
  rw [nb_cl (by omega)]
  exact ⟨hv, hv, nm_e ⟨hv, br_f (by rw [pk_us]; exact h) H⟩⟩
theorem nx_ageT_b {post : SX → Prop} {k : Nat} (hk : k < 8) (h : oT k - 1 = 0) (hm : ms ≤ oP k) (H : post (nI cn, rt, rx, ms, nI e, nI o, nI r, fn, pi, dr, eA, eS, eL, eT, eP, eC, qI, qD, oA, upd oS k 2, upd (upd oT k (oT k - 1)) k 0, oP, rA, rM, nb_fp 0 fr, nb_fp 1 fr, nb_fp 2 fr, nb_fp 3 fr, nb_fp 4 fr)) : wpX_ageTentative post (nI cn, rt, rx, ms, nI e, nI o, nI r, fn, pi, dr, eA, eS, eL, eT, eP, eC, qI, qD, oA, oS, oT, oP, rA, rM, nb_fp 0 fr, nb_fp 1 fr, nb_fp 2 fr, nb_fp 3 fr, nb_fp 4 fr) (nI k) := by
  have hv : vp_in (nI k) 8 := nb_ix hk (by omega)
  unfold wpX_ageTentative
  rw [nb_cl (by omega)]
  exact ⟨hv, hv, nm_e ⟨hv, br_t (by rw [pk_us, h]; decide) ⟨hv, br_t hm ⟨hv, nm_e ⟨hv, nm_e H⟩⟩⟩⟩⟩
theorem nx_ageT_c {post : SX → Prop} {k : Nat} (hk : k < 8) (h : oT k - 1 = 0) (hm : ¬ ms ≤ oP k) (H : post (nI cn, rt, rx, ms, nI e, nI o, nI r, fn + 1, pi, dr, eA, eS, eL, eT, eP, eC, qI, qD, oA, oS, upd (upd oT k (oT k - 1)) k rx, upd oP k (oP k + 1), rA, rM, nb_fp 0 (nb_ev fr fn 3 (oA k) 0 0 0), nb_fp 1 (nb_ev fr fn 3 (oA k) 0 0 0), nb_fp 2 (nb_ev fr fn 3 (oA k) 0 0 0), nb_fp 3 (nb_ev fr fn 3 (oA k) 0 0 0), nb_fp 4 (nb_ev fr fn 3 (oA k) 0 0 0))) : wpX_ageTentative post (nI cn, rt, rx, ms, nI e, nI o, nI r, fn, pi, dr, eA, eS, eL, eT, eP, eC, qI, qD, oA, oS, oT, oP, rA, rM, nb_fp 0 fr, nb_fp 1 fr, nb_fp 2 fr, nb_fp 3 fr, nb_fp 4 fr) (nI k) := by
  have hv : vp_in (nI k) 8 := nb_ix hk (by omega)
  unfold wpX_ageTentative
  rw [nb_cl (by omega)]
  exact ⟨hv, hv, nm_e ⟨hv, br_t (by rw [pk_us, h]; decide) ⟨hv, br_f hm ⟨hv, nx_emit _ _ _ _ _ ⟨hv, hv, nm_e ⟨hv, nm_e H⟩⟩⟩⟩⟩⟩
theorem nx_own_0 {post : SX → Prop} {k n : Nat} (hk : k < o) (ho : o ≤ 8) (h1 : ¬ oS k = 1) (H : wX_tick_37 post n (nI (k + 1)) (nI cn) rt rx ms (nI e) (nI o) (nI r) fn pi dr eA eS eL eT eP eC qI qD oA oS oT oP rA rM (nb_fp 0 fr) (nb_fp 1 fr) (nb_fp 2 fr) (nb_fp 3 fr) (nb_fp 4 fr)) : wX_tick_37 post (n + 1) (nI k) (nI cn) rt rx ms (nI e) (nI o) (nI r) fn pi dr eA eS eL eT eP eC qI qD oA oS oT oP rA rM (nb_fp 0 fr) (nb_fp 1 fr) (nb_fp 2 fr) (nb_fp 3 fr) (nb_fp 4 fr) := by
  refine br_f (nI_ge hk (by omega)) ⟨nb_ix (by omega) (by omega), br_f ?_ (nm_r (nI_1 k) H)⟩
  rw [nb_cl (by omega)]
  exact h1
theorem ny_own_0 {post : SY → Prop} {k n : Nat} (hk : k < o) (ho : o ≤ 8) (h1 : ¬ oS k = 1) (H : wY_tick_308 post n (nI (k + 1)) (nI cn) rt rx ms (nI e) (nI o) (nI r) fn pi dr eA eS eL eT eP eC qI qD sn oA oS oT oP rA rM fr) : wY_tick_308 post (n + 1) (nI k) (nI cn) rt rx ms (nI e) (nI o) (nI r) fn pi dr eA eS eL eT eP eC qI qD sn oA oS oT oP rA rM fr := by
  refine br_f (nI_ge hk (by omega)) ⟨nb_ix (by omega) (by omega), br_f ?_ (nm_r (nI_1 k) H)⟩
  rw [nb_cl (by omega)]
  exact h1
theorem nx_own_a {post : SX → Prop} {k n : Nat} (hk : k < o) (ho : o ≤ 8) (h1 : oS k = 1) (h : ¬ oT k - 1 ≤ 0) (H : wX_tick_37 post n (nI (k + 1)) (nI cn) rt rx ms (nI e) (nI o) (nI r) fn pi dr eA eS eL eT eP eC qI qD oA oS (upd oT k (oT k - 1)) oP rA rM (nb_fp 0 fr) (nb_fp 1 fr) (nb_fp 2 fr) (nb_fp 3 fr) (nb_fp 4 fr)) : wX_tick_37 post (n + 1) (nI k) (nI cn) rt rx ms (nI e) (nI o) (nI r) fn pi dr eA eS eL eT eP eC qI qD oA oS oT oP rA rM (nb_fp 0 fr) (nb_fp 1 fr) (nb_fp 2 fr) (nb_fp 3 fr) (nb_fp 4 fr) := by
  refine br_f (nI_ge hk (by omega)) ⟨nb_ix (by omega) (by omega), br_t ?_ (nx_ageT_a (by omega) h (nm_r (nI_1 k) H))⟩
  rw [nb_cl (by omega)]
  exact h1
theorem ny_own_a {post : SY → Prop} {k n : Nat} (hk : k < o) (ho : o ≤ 8) (h1 : oS k = 1) (hz : ¬ oT k - 1 = 0) (H : wY_tick_308 post n (nI (k + 1)) (nI cn) rt rx ms (nI e) (nI o) (nI r) fn pi dr eA eS eL eT eP eC qI qD sn oA oS (upd oT k (oT k - 1)) oP rA rM fr) : wY_tick_308 post (n + 1) (nI k) (nI cn) rt rx ms (nI e) (nI o) (nI r) fn pi dr eA eS eL eT eP eC qI qD sn oA oS oT oP rA rM fr := by
  have hv : vp_in (nI k) 8 := nb_ix (by omega) (by omega)
  refine br_f (nI_ge hk (by omega)) ?_
  rw [nb_cl (by omega)]
  exact ⟨hv, br_t h1 ⟨hv, hv, nm_e ⟨hv, br_f (by rw [pk_us]; exact hz) (nm_r (nI_1 k) H)⟩⟩⟩
theorem nx_own_b {post : SX → Prop} {k n : Nat} (hk : k < o) (ho : o ≤ 8) (h1 : oS k = 1) (h : oT k - 1 = 0) (hm : ms ≤ oP k) (H : wX_tick_37 post n (nI (k + 1)) (nI cn) rt rx ms (nI e) (nI o) (nI r) fn pi dr eA eS eL eT eP eC qI qD oA (upd oS k 2) (upd (upd oT k (oT k - 1)) k 0) oP rA rM (nb_fp 0 fr) (nb_fp 1 fr) (nb_fp 2 fr) (nb_fp 3 fr) (nb_fp 4 fr)) : wX_tick_37 post (n + 1) (nI k) (nI cn) rt rx ms (nI e) (nI o) (nI r) fn pi dr eA eS eL eT eP eC qI qD oA oS oT oP rA rM (nb_fp 0 fr) (nb_fp 1 fr) (nb_fp 2 fr) (nb_fp 3 fr) (nb_fp 4 fr) := by
  refine br_f (nI_ge hk (by omega)) ⟨nb_ix (by omega) (by omega), br_t ?_ (nx_ageT_b (by omega) h hm (nm_r (nI_1 k) H))⟩
  rw [nb_cl (by omega)]
  exact h1
theorem ny_own_b {post : SY → Prop} {k n : Nat} (hk : k < o) (ho : o ≤ 8) (h1 : oS k = 1) (h : oT k - 1 = 0) (hm : ms ≤ oP k) (H : wY_tick_308 post n (nI (k + 1)) (nI cn) rt rx ms (nI e) (nI o) (nI r) fn pi dr eA eS eL eT eP eC qI qD sn oA (upd oS k 2) (upd (upd oT k (oT k - 1)) k 0) oP rA rM fr) : wY_tick_308 post (n + 1) (nI k) (nI cn) rt rx ms (nI e) (nI o) (nI r) fn pi dr eA eS eL eT eP eC qI qD sn oA oS oT oP rA rM fr := by
  have hv : vp_in (nI k) 8 := nb_ix (by omega) (by omega)
  refine br_f (nI_ge hk (by omega)) ?_
  rw [nb_cl (by omega)]
  exact ⟨hv, br_t h1 ⟨hv, hv, nm_e ⟨hv, br_t (by rw [pk_us]; exact h) ⟨hv, br_t hm ⟨hv, nm_e ⟨hv, nm_e (nm_r (nI_1 k) H)⟩⟩⟩⟩⟩⟩
theorem nx_own_c {post : SX → Prop} {k n : Nat} (hk : k < o) (ho : o ≤ 8) (h1 : oS k = 1) (h : oT k - 1 = 0) (hm : ¬ ms ≤ oP k) (H : wX_tick_37 post n (nI (k + 1)) (nI cn) rt rx ms (nI e) (nI o) (nI r) (fn + 1) pi dr eA eS eL eT eP eC qI qD oA oS (upd (upd oT k (oT k - 1)) k rx) (upd oP k (oP k + 1)) rA rM (nb_fp 0 (nb_ev fr fn 3 (oA k) 0 0 0)) (nb_fp 1 (nb_ev fr fn 3 (oA k) 0 0 0)) (nb_fp 2 (nb_ev fr fn 3 (oA k) 0 0 0)) (nb_fp 3 (nb_ev fr fn 3 (oA k) 0 0 0)) (nb_fp 4 (nb_ev fr fn 3 (oA k) 0 0 0))) : wX_tick_37 post (n + 1) (nI k) (nI cn) rt rx ms (nI e) (nI o) (nI r) fn pi dr eA eS eL eT eP eC qI qD oA oS oT oP rA rM (nb_fp 0 fr) (nb_fp 1 fr) (nb_fp 2 fr) (nb_fp 3 fr) (nb_fp 4 fr) := by
  refine br_f (nI_ge hk (by omega)) ⟨nb_ix (by omega) (by omega), br_t ?_ (nx_ageT_c (by omega) h hm (nm_r (nI_1 k) H))⟩
  rw [nb_cl (by omega)]
  exact h1
theorem ny_own_c {post : SY → Prop} {k n : Nat} (hk : k < o) (ho : o ≤ 8) (h1 : oS k = 1) (h : oT k - 1 = 0) (hm : ¬ ms ≤ oP k) (H : wY_tick_308 post n (nI (k + 1)) (nI cn) rt rx ms (nI e) (nI o) (nI r) (fn + 1) pi dr eA eS eL eT eP eC qI qD sn oA oS (upd (upd oT k (oT k - 1)) k rx) (upd oP k (oP k + 1)) rA rM (nb_ev fr fn 3 (oA k) 0 0 0)) : wY_tick_308 post (n + 1) (nI k) (nI cn) rt rx ms (nI e) (nI o) (nI r) fn pi dr eA eS eL eT eP eC qI qD sn oA oS oT oP rA rM fr := by
  have hv : vp_in (nI k) 8 := nb_ix (by omega) (by omega)
  refine br_f (nI_ge hk (by omega)) ?_
  rw [nb_cl (by omega)]
  exact ⟨hv, br_t h1 ⟨hv, hv, nm_e ⟨hv, br_t (by rw [pk_us]; exact h) ⟨hv, br_f hm ⟨hv, ny_emit _ _ _ _ _ ⟨hv, hv, nm_e ⟨hv, nm_e (nm_r (nI_1 k) H)⟩⟩⟩⟩⟩⟩⟩
theorem nj_own (ho : o ≤ 8) (hx : 0 < rx) : ∀ d k : Nat, k + d = o → ∀ (fn : Int32) (fr oS oT oP : Nat → Int32), nb_own o oA oS oT → ∃ (fn1 : Int32) (fr1 oS1 oT1 oP1 : Nat → Int32), nb_own o oA oS1 oT1 ∧
    (∀ post : SX → Prop, post (nI cn, rt, rx, ms, nI e, nI o, nI r, fn1, pi, dr, eA, eS, eL, eT, eP, eC, qI, qD, oA, oS1, oT1, oP1, rA, rM, nb_fp 0 fr1, nb_fp 1 fr1, nb_fp 2 fr1, nb_fp 3 fr1, nb_fp 4 fr1) → wX_tick_37 post (d + 1) (nI k) (nI cn) rt rx ms (nI e) (nI o) (nI r) fn pi dr eA eS eL eT eP eC qI qD oA oS oT oP rA rM (nb_fp 0 fr) (nb_fp 1 fr) (nb_fp 2 fr) (nb_fp 3 fr) (nb_fp 4 fr)) ∧
    (∀ post : SY → Prop, post (nI cn, rt, rx, ms, nI e, nI o, nI r, fn1, pi, dr, eA, eS, eL, eT, eP, eC, qI, qD, sn, oA, oS1, oT1, oP1, rA, rM, fr1) → wY_tick_308 post (d + 1) (nI k) (nI cn) rt rx ms (nI e) (nI o) (nI r) fn pi dr eA eS eL eT eP eC qI qD sn oA oS oT oP rA rM fr) := by
  intro d
  induction d with
  | zero =>
    intro k hk fn fr oS oT oP hO
    exact ⟨fn, fr, oS, oT, oP, hO, fun post H => br_t (nI_le (by omega) (by omega)) H, fun post H => br_t (nI_le (by omega) (by omega)) H⟩
  | succ d ih =>
    intro k hk fn fr oS oT oP hO
    have hko : k < o := by omega
    by_cases h1 : oS k = 1
    · have hT : 0 < oT k := by
        rcases (hO k hko).2 with h | h | h
        · exact h.2
        · exact absurd (h.symm.trans h1) (by decide)
        · exact absurd (h.symm.trans h1) (by decide)
      rcases nb_dec hT with ⟨p0, z0, l0⟩ | hz
      · obtain ⟨fn1, fr1, oS1, oT1, oP1, hO1, hX, hY⟩ := ih (k + 1) (by omega) fn fr oS (upd oT k (oT k - 1)) oP (nb_own_up k hO (Or.inl ⟨h1, by rw [pk_us]; exact p0⟩) (fun j hj => ⟨rfl, pk_un hj⟩))
        exact ⟨fn1, fr1, oS1, oT1, oP1, hO1, fun post H => nx_own_a hko ho h1 l0 (hX post H), fun post H => ny_own_a hko ho h1 z0 (hY post H)⟩
      · by_cases hm : ms ≤ oP k
        · obtain ⟨fn1, fr1, oS1, oT1, oP1, hO1, hX, hY⟩ := ih (k + 1) (by omega) fn fr (upd oS k 2) (upd (upd oT k (oT k - 1)) k 0) oP (nb_own_up k hO (Or.inr (Or.inl pk_us)) (fun j hj => ⟨pk_un hj, (pk_un hj).trans (pk_un hj)⟩))
          exact ⟨fn1, fr1, oS1, oT1, oP1, hO1, fun post H => nx_own_b hko ho h1 hz hm (hX post H), fun post H => ny_own_b hko ho h1 hz hm (hY post H)⟩
        · obtain ⟨fn1, fr1, oS1, oT1, oP1, hO1, hX, hY⟩ := ih (k + 1) (by omega) (fn + 1) (nb_ev fr fn 3 (oA k) 0 0 0) oS (upd (upd oT k (oT k - 1)) k rx) (upd oP k (oP k + 1)) (nb_own_up k hO (Or.inl ⟨h1, by rw [pk_us]; exact hx⟩) (fun j hj => ⟨rfl, (pk_un hj).trans (pk_un hj)⟩))
          exact ⟨fn1, fr1, oS1, oT1, oP1, hO1, fun post H => nx_own_c hko ho h1 hz hm (hX post H), fun post H => ny_own_c hko ho h1 hz hm (hY post H)⟩
    · obtain ⟨fn1, fr1, oS1, oT1, oP1, hO1, hX, hY⟩ := ih (k + 1) (by omega) fn fr oS oT oP hO
      exact ⟨fn1, fr1, oS1, oT1, oP1, hO1, fun post H => nx_own_0 hko ho h1 (hX post H), fun post H => ny_own_0 hko ho h1 (hY post H)⟩
end
