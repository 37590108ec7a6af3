/-! sending off the link -/
def nb_clr (t : Nat) (a : Nat → Int32) : Nat → Int32 := fun j => if j < t then 0 else a j
theorem nb_clr0 (a : Nat → Int32) : nb_clr 0 a = a := by
  funext j
  exact if_neg (by omega)
theorem nb_clrs (t : Nat) (a : Nat → Int32) : upd (nb_clr t a) t 0 = nb_clr (t + 1) a := by
  funext j
  simp only [upd, nb_clr]
  by_cases hj : j = t
  · subst hj
    rw [if_pos rfl, if_pos (by omega)]
  · rw [if_neg hj]
    by_cases hk : j < t
    · rw [if_pos hk, if_pos (by omega)]
    · rw [if_neg hk, if_neg (by omega)]
section
variable {cn e o r : Nat} {rt rx ms fn pi dr : Int32} {eA eS eL eT eP eC qI qD oA oS oT oP rA rM fr sn : Nat → Int32}
theorem nj_clear {d : Int32} (hr : r ≤ 4) : ∃ rM1 : Nat → Int32,
    (∀ post : SX → Prop, post (nI cn, rt, rx, ms, nI e, nI o, nI r, fn, pi, dr, eA, eS, eL, eT, eP, eC, qI, qD, oA, oS, oT, oP, rA, rM1, nb_fp 0 fr, nb_fp 1 fr, nb_fp 2 fr, nb_fp 3 fr, nb_fp 4 fr) → wpX_clearMarksIfAllMarked post (nI cn, rt, rx, ms, nI e, nI o, nI r, fn, pi, dr, eA, eS, eL, eT, eP, eC, qI, qD, oA, oS, oT, oP, rA, rM, nb_fp 0 fr, nb_fp 1 fr, nb_fp 2 fr, nb_fp 3 fr, nb_fp 4 fr)) ∧
    (∀ post : Int32 → SY → Prop, wY_send_94 post d (nI cn) rt rx ms (nI e) (nI o) (nI r) fn pi dr eA eS eL eT eP eC qI qD sn oA oS oT oP rA rM1 fr → ∃ n, wY_send_35 post d (nI cn) rt rx ms (nI e) (nI o) (nI r) fn pi dr eA eS eL eT eP eC qI qD sn oA oS oT oP rA rM fr n 1 0) := by
  rcases nb_find (fun j => rM j = 0) r with hN | ⟨i, hi, hy, hl⟩
  · refine ⟨nb_clr r rM, fun post H => ?_, fun post H => ?_⟩
    · have key : ∀ m t : Nat, t + m = r → wX_clearMarksIfAllMarked_11 post (nI cn) rt rx ms (nI e) (nI o) (nI r) fn pi dr (m + 1) (nI t) eA eS eL eT eP eC qI qD oA oS oT oP rA (nb_clr t rM) (nb_fp 0 fr) (nb_fp 1 fr) (nb_fp 2 fr) (nb_fp 3 fr) (nb_fp 4 fr) := by
        intro m
        induction m with
        | zero =>
          intro t ht
          obtain rfl : t = r := by omega
          exact br_t (nI_le (by omega) (by omega)) H
        | succ m ih =>
          intro t ht
          refine br_f (nI_ge (by omega) (by omega)) ?_
          rw [nb_cl (by omega)]
          exact ⟨nb_ix (by omega) (by omega), nm_r (nb_clrs t rM) (nm_r (nI_1 t) (ih (t + 1) (by omega)))⟩
      have := key r 0 (by omega)
      rw [nb_clr0] at this
      unfold wpX_clearMarksIfAllMarked
      exact nx_firstUnmarkedRouter_n hr hN (br_t rfl ⟨_, this⟩)
    · have key : ∀ m t : Nat, t + m = r → wY_send_71 post d (nI cn) rt rx ms (nI e) (nI o) (nI r) fn pi dr (m + 1) (nI t) eA eS eL eT eP eC qI qD sn oA oS oT oP rA (nb_clr t rM) fr := by
        intro m
        induction m with
        | zero =>
          intro t ht
          obtain rfl : t = r := by omega
          exact br_t (nI_le (by omega) (by omega)) H
        | succ m ih =>
          intro t ht
          refine br_f (nI_ge (by omega) (by omega)) ?_
          rw [nb_cl (by omega)]
          exact ⟨nb_ix (by omega) (by omega), nm_r (nb_clrs t rM) (nm_r (nI_1 t) (ih (t + 1) (by omega)))⟩
      have h0 := key r 0 (by omega)
      rw [nb_clr0] at h0
      have key2 : ∀ m j : Nat, j + m = r → wY_send_35 post d (nI cn) rt rx ms (nI e) (nI o) (nI r) fn pi dr eA eS eL eT eP eC qI qD sn oA oS oT oP rA rM fr (m + 1) 1 (nI j) := by
        intro m
        induction m with
        | zero =>
          intro j hj
          exact br_t (nI_le (by omega) (by omega)) (br_f (by decide) ⟨_, h0⟩)
        | succ m ih =>
          intro j hj
          refine br_f (nI_ge (by omega) (by omega)) ⟨nb_ix (by omega) (by omega), br_f ?_ (nm_r (nI_1 j) (ih (j + 1) (by omega)))⟩
          rw [nb_cl (by omega)]
          exact hN j (by omega)
      exact ⟨_, key2 r 0 (by omega)⟩
  · refine ⟨rM, fun post H => ?_, fun post H => ?_⟩
    · unfold wpX_clearMarksIfAllMarked
      exact nx_firstUnmarkedRouter_s hr i hi hy hl (br_f (nb_m1 (by omega)) H)
    · have key2 : ∀ (m j : Nat) (x : Int32), j + m = r → (x = 0 ∨ j ≤ i) → wY_send_35 post d (nI cn) rt rx ms (nI e) (nI o) (nI r) fn pi dr eA eS eL eT eP eC qI qD sn oA oS oT oP rA rM fr (m + 1) x (nI j) := by
        intro m
        induction m with
        | zero =>
          intro j x hj hx
          have hx0 : x = 0 := by
            rcases hx with h | h
            · exact h
            · omega
          exact br_t (nI_le (by omega) (by omega)) (br_t hx0 H)
        | succ m ih =>
          intro j x hj hx
          refine br_f (nI_ge (by omega) (by omega)) ⟨nb_ix (by omega) (by omega), br_c (fun _ => nm_r (nI_1 j) (ih (j + 1) 0 (by omega) (Or.inl rfl))) (fun hz => nm_r (nI_1 j) (ih (j + 1) x (by omega) ?_))⟩
          rw [nb_cl (by omega)] at hz
          rcases hx with h | h
          · exact Or.inl h
          · by_cases hji : j = i
            · subst hji
              exact absurd hy hz
            · exact Or.inr (by omega)
      exact ⟨_, key2 r 0 1 (by omega) (Or.inr (by omega))⟩
end
theorem i_vc_send {k : Nat} {u : SX} {v : SY} (I : i_Rel k u v) (hk : k + 4 ≤ 2052) (v1 : Int32) (v2 : Int32) : wpX_send (fun r u' => wpY_send (fun r' v' => r' = r ∧ i_Rel (k + 4) u' v') v v1 (lw_bz v2)) u v1 (lw_bz v2) := by
  obtain ⟨cn, e, o, r, rt, rx, ms, fn, pi, dr, eA, eS, eL, eT, eP, eC, qI, qD, oA, oS, oT, oP, rA, rM, fr, sn, rfl, rfl, I⟩ := I
  have hR := nb_rel (k := k + 4) (ms := ms) (fn := fn) (pi := pi) (dr := dr) (qI := qI) (qD := qD) (oP := oP) (rM := rM) (fr := fr) (sn := sn) I
  have hb := I.1
  generalize lw_bz v2 = b
  by_cases hv : nb_ok v1
  · by_cases h0 : b = 0
    · obtain ⟨e1, fn1, dr1, eA1, eS1, eL1, eT1, eP1, eC1, qI1, qD1, fr1, I1, hX, hY⟩ := nj_s37 (ms := ms) (fn := fn) (pi := pi) (dr := dr) (qI := qI) (qD := qD) (oP := oP) (rM := rM) (fr := fr) (sn := sn) (h := v1) (d := v1) I hv
      unfold wpX_send
      refine nx_valid_t hv (br_f (by decide) (br_t h0 (br_t h0 (hX _ ?_))))
      unfold wpY_send
      exact ny_valid_t hv (br_f (by decide) (br_t h0 (br_t h0 (hY _ ⟨rfl, nb_rel I1⟩))))
    · by_cases hr : r = 0
      · have hr' : nI r = 0 := by rw [hr]; rfl
        unfold wpX_send
        refine nx_valid_t hv (br_f (by decide) (br_f h0 (br_t hr' ?_)))
        unfold wpY_send
        exact ny_valid_t hv (br_f (by decide) (br_f h0 (br_t hr' ⟨rfl, hR⟩)))
      · have hr' : ¬ nI r = 0 := nI_ne0 (by omega) (by omega)
        obtain ⟨rM1, cX, cY⟩ := nj_clear (cn := cn) (e := e) (o := o) (r := r) (rt := rt) (rx := rx) (ms := ms) (fn := fn) (pi := pi) (dr := dr) (eA := eA) (eS := eS) (eL := eL) (eT := eT) (eP := eP) (eC := eC) (qI := qI) (qD := qD) (oA := oA) (oS := oS) (oT := oT) (oP := oP) (rA := rA) (rM := rM) (fr := fr) (sn := sn) (d := v1) hb.2.2.2.2
        obtain ⟨x, hx, sX, sY⟩ := nj_sel (cn := cn) (e := e) (o := o) (rt := rt) (rx := rx) (ms := ms) (fn := fn) (pi := pi) (dr := dr) (eA := eA) (eS := eS) (eL := eL) (eT := eT) (eP := eP) (eC := eC) (qI := qI) (qD := qD) (oA := oA) (oS := oS) (oT := oT) (oP := oP) (rM := rM1) (fr := fr) (sn := sn) hb.2.2.2.2 I.2.2.2.2
        obtain ⟨e1, fn1, dr1, eA1, eS1, eL1, eT1, eP1, eC1, qI1, qD1, fr1, I1, hX, hY⟩ := nj_s37 (ms := ms) (fn := fn) (pi := pi) (dr := dr) (qI := qI) (qD := qD) (oP := oP) (rM := rM1) (fr := fr) (sn := sn) (h := x) (d := v1) I (hx (by omega))
        unfold wpX_send
        refine nx_valid_t hv (br_f (by decide) (br_f h0 (br_f hr' (br_f h0 (cX _ (sX _ (hX _ ?_)))))))
        unfold wpY_send
        exact ny_valid_t hv (br_f (by decide) (br_f h0 (br_f hr' (br_f h0 (cY _ (sY _ (hY _ ⟨rfl, nb_rel I1⟩)))))))
  · unfold wpX_send
    refine nx_valid_f hv (br_t rfl ?_)
    unfold wpY_send
    exact ny_valid_f hv (br_t rfl ⟨rfl, hR⟩)
