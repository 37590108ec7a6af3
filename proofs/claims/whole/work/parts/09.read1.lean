/-! validity, selection -/
def nb_oz (x : Int32) : Prop := 0 ≤ x ∧ x ≤ 65535
theorem nx_valid_t {post : Int32 → Prop} {x : Int32} (h : nb_ok x) (H : post 1) : wpX_isValid post x := br_f (Int32.not_lt.mpr h.1) (br_f (Int32.not_lt.mpr h.2) H)
theorem nx_valid_f {post : Int32 → Prop} {x : Int32} (h : ¬ nb_ok x) (H : post 0) : wpX_isValid post x := by
  by_cases h1 : x < 1
  · exact br_t h1 H
  · exact br_f h1 (br_t (Int32.not_le.mp fun h2 => h ⟨Int32.not_lt.mp h1, h2⟩) H)
theorem nx_voz_t {post : Int32 → Prop} {x : Int32} (h : nb_oz x) (H : post 1) : wpX_isValidOrZero post x := br_f (Int32.not_lt.mpr h.1) (br_f (Int32.not_lt.mpr h.2) H)
theorem nx_voz_f {post : Int32 → Prop} {x : Int32} (h : ¬ nb_oz x) (H : post 0) : wpX_isValidOrZero post x := by
  by_cases h1 : x < 0
  · exact br_t h1 H
  · exact br_f h1 (br_t (Int32.not_le.mp fun h2 => h ⟨Int32.not_lt.mp h1, h2⟩) H)
theorem nb_ei_q {S L T P C : Int32} (h : nb_ei S L T P C) : ∃ q : Nat, q ≤ 3 ∧ C = nI q := by
  rcases h with h | h | h | h | h
  · exact h.2.2.2
  · exact ⟨0, by omega, h.2.2.2⟩
  · exact ⟨0, by omega, h.2.2.2⟩
  · exact ⟨0, by omega, h.2.2.2⟩
  · exact ⟨0, by omega, h.2.2⟩
section
variable {cn e o r : Nat} {rt rx ms fn pi dr : Int32} {eA eS eL eT eP eC qI qD oA oS oT oP rA rM fr sn : Nat → Int32}
theorem ny_valid_t {post : Int32 → Prop} {x : Int32} (h : nb_ok x) (H : post 1) : wpY_valid post (nI cn, rt, rx, ms, nI e, nI o, nI r, fn, pi, dr, eA, eS, eL, eT, eP, eC, qI, qD, sn, oA, oS, oT, oP, rA, rM, fr) x := by
  unfold wpY_valid
  exact br_f (Int32.not_lt.mpr h.1) (br_f (Int32.not_lt.mpr h.2) H)
theorem ny_valid_f {post : Int32 → Prop} {x : Int32} (h : ¬ nb_ok x) (H : post 0) : wpY_valid post (nI cn, rt, rx, ms, nI e, nI o, nI r, fn, pi, dr, eA, eS, eL, eT, eP, eC, qI, qD, sn, oA, oS, oT, oP, rA, rM, fr) x := by
  unfold wpY_valid
  by_cases h1 : x < 1
  · exact br_t h1 H
  · exact br_f h1 (br_t (Int32.not_le.mp fun h2 => h ⟨Int32.not_lt.mp h1, h2⟩) H)
theorem ny_sel_n {post : Int32 → Prop} (hb : r ≤ 4) (hn : ∀ j, j < r → ¬ rM j = 0) (H : post (rA 0)) : ∃ n, wY_selected_11 post (nI cn) rt rx ms (nI e) (nI o) (nI r) fn pi dr eA eS eL eT eP eC qI qD sn oA oS oT oP rA rM fr n 0 := by
  have key : ∀ d j : Nat, j + d = r → wY_selected_11 post (nI cn) rt rx ms (nI e) (nI o) (nI r) fn pi dr eA eS eL eT eP eC qI qD sn oA oS oT oP rA rM fr (d + 1) (nI j) := by
    intro d
    induction d with
    | zero =>
      intro j hj
      exact br_t (nI_le (by omega) (by omega)) H
    | succ d ih =>
      intro j hj
      refine br_f (nI_ge (by omega) (by omega)) ⟨nb_ix (by omega) (by omega), br_f ?_ (nm_r (nI_1 j) (ih (j + 1) (by omega)))⟩
      rw [nb_cl (by omega)]
      exact hn j (by omega)
  exact ⟨r + 1, key r 0 (by omega)⟩
theorem ny_sel_s {post : Int32 → Prop} (hb : r ≤ 4) (i : Nat) (hi : i < r) (hy : rM i = 0) (hn : ∀ j, j < i → ¬ rM j = 0) (H : post (rA i)) : ∃ n, wY_selected_11 post (nI cn) rt rx ms (nI e) (nI o) (nI r) fn pi dr eA eS eL eT eP eC qI qD sn oA oS oT oP rA rM fr n 0 := by
  have key : ∀ d j : Nat, j + d = i → wY_selected_11 post (nI cn) rt rx ms (nI e) (nI o) (nI r) fn pi dr eA eS eL eT eP eC qI qD sn oA oS oT oP rA rM fr (d + 1) (nI j) := by
    intro d
    induction d with
    | zero =>
      intro j hj
      obtain rfl : j = i := by omega
      refine br_f (nI_ge (by omega) (by omega)) ?_
      rw [nb_cl (by omega)]
      exact ⟨nb_ix (by omega) (by omega), br_t hy ⟨nb_ix (by omega) (by omega), H⟩⟩
    | succ d ih =>
      intro j hj
      refine br_f (nI_ge (by omega) (by omega)) ⟨nb_ix (by omega) (by omega), br_f ?_ (nm_r (nI_1 j) (ih (j + 1) (by omega)))⟩
      rw [nb_cl (by omega)]
      exact hn j (by omega)
  exact ⟨i + 1, key i 0 (by omega)⟩
theorem nj_sel (hb : r ≤ 4) (hR : nb_rou r rA) : ∃ x : Int32, (0 < r → nb_ok x) ∧ (∀ post : Int32 → Prop, post x → wpX_selectedRouter post (nI cn, rt, rx, ms, nI e, nI o, nI r, fn, pi, dr, eA, eS, eL, eT, eP, eC, qI, qD, oA, oS, oT, oP, rA, rM, nb_fp 0 fr, nb_fp 1 fr, nb_fp 2 fr, nb_fp 3 fr, nb_fp 4 fr)) ∧ (∀ post : Int32 → Prop, post x → wpY_selected post (nI cn, rt, rx, ms, nI e, nI o, nI r, fn, pi, dr, eA, eS, eL, eT, eP, eC, qI, qD, sn, oA, oS, oT, oP, rA, rM, fr)) := by
  by_cases h0 : r = 0
  · subst h0
    refine ⟨0, fun h => absurd h (by omega), fun post H => ?_, fun post H => ?_⟩
    · unfold wpX_selectedRouter
      exact br_t rfl H
    · unfold wpY_selected
      exact br_t rfl H
  · have hz : ¬ nI r = 0 := nI_ne0 (by omega) (by omega)
    rcases nb_find (fun j => rM j = 0) r with hN | ⟨i, hi, hy, hl⟩
    · refine ⟨rA 0, fun h => hR 0 h, fun post H => ?_, fun post H => ?_⟩
      · unfold wpX_selectedRouter
        exact br_f hz (nx_firstUnmarkedRouter_n hb hN (br_t rfl H))
      · unfold wpY_selected
        exact br_f hz (ny_sel_n hb hN H)
    · refine ⟨rA i, fun h => hR i hi, fun post H => ?_, fun post H => ?_⟩
      · unfold wpX_selectedRouter
        refine br_f hz (nx_firstUnmarkedRouter_s hb i hi hy hl (br_f (nb_m1 (by omega)) ⟨nb_ix (by omega) (by omega), ?_⟩))
        rw [nb_cl (by omega)]
        exact H
      · unfold wpY_selected
        exact br_f hz (ny_sel_s hb i hi hy hl H)
end
/-! the calls that only read -/
theorem i_vc_dropped {k : Nat} {u : SX} {v : SY} (I : i_Rel k u v) (hk : k + 4 ≤ 2052) : wpX_dropped (fun r => wpY_dropped (fun r' => r' = r ∧ i_Rel (k + 4) u v) v) u := by
  obtain ⟨cn, e, o, r, rt, rx, ms, fn, pi, dr, eA, eS, eL, eT, eP, eC, qI, qD, oA, oS, oT, oP, rA, rM, fr, sn, rfl, rfl, I⟩ := I
  unfold wpX_dropped wpY_dropped
  exact And.intro rfl (nb_rel I)
theorem i_vc_frameCount {k : Nat} {u : SX} {v : SY} (I : i_Rel k u v) (hk : k + 4 ≤ 2052) : wpX_frameCount (fun r => wpY_frameCount (fun r' => r' = r ∧ i_Rel (k + 4) u v) v) u := by
  obtain ⟨cn, e, o, r, rt, rx, ms, fn, pi, dr, eA, eS, eL, eT, eP, eC, qI, qD, oA, oS, oT, oP, rA, rM, fr, sn, rfl, rfl, I⟩ := I
  unfold wpX_frameCount wpY_frameCount
  exact And.intro rfl (nb_rel I)
theorem i_vc_defaultRouter {k : Nat} {u : SX} {v : SY} (I : i_Rel k u v) (hk : k + 4 ≤ 2052) : wpX_defaultRouter (fun r => wpY_defaultRouter (fun r' => r' = r ∧ i_Rel (k + 4) u v) v) u := by
  obtain ⟨cn, e, o, r, rt, rx, ms, fn, pi, dr, eA, eS, eL, eT, eP, eC, qI, qD, oA, oS, oT, oP, rA, rM, fr, sn, rfl, rfl, I⟩ := I
  obtain ⟨x, _, hX, hY⟩ := nj_sel (cn := cn) (e := e) (o := o) (rt := rt) (rx := rx) (ms := ms) (fn := fn) (pi := pi) (dr := dr) (eA := eA) (eS := eS) (eL := eL) (eT := eT) (eP := eP) (eC := eC) (qI := qI) (qD := qD) (oA := oA) (oS := oS) (oT := oT) (oP := oP) (rM := rM) (fr := fr) (sn := sn) I.1.2.2.2.2 I.2.2.2.2
  unfold wpX_defaultRouter
  refine hX _ ?_
  unfold wpY_defaultRouter
  exact hY _ (And.intro rfl (nb_rel I))
theorem i_vc_entryAt {k : Nat} {u : SX} {v : SY} (I : i_Rel k u v) (hk : k + 4 ≤ 2052) (v1 : Int32) : wpX_entryAt (fun r => wpY_entryAt (fun r' => r' = r ∧ i_Rel (k + 4) u v) v v1) u v1 := by
  obtain ⟨cn, e, o, r, rt, rx, ms, fn, pi, dr, eA, eS, eL, eT, eP, eC, qI, qD, oA, oS, oT, oP, rA, rM, fr, sn, rfl, rfl, I⟩ := I
  have hR := nb_rel (k := k + 4) (ms := ms) (fn := fn) (pi := pi) (dr := dr) (qI := qI) (qD := qD) (oP := oP) (rM := rM) (fr := fr) (sn := sn) I
  have hb := I.1
  by_cases h0 : v1 < 0
  · exact br_t h0 (br_t h0 ⟨rfl, hR⟩)
  · by_cases h1 : v1 < nI e
    · have h1' : ¬ nI e ≤ v1 := Int32.not_le.mpr h1
      have hv : vp_in v1 16 := by
        obtain ⟨j, hj, rfl⟩ := nI_of h0
        rw [nI_ltI hj (by omega)] at h1
        exact nb_ix (by omega) (by omega)
      exact br_f h0 (br_t h1 ⟨hv, br_f h0 (br_f h1' ⟨hv, rfl, hR⟩)⟩)
    · exact br_f h0 (br_f h1 (br_f h0 (br_t (Int32.not_lt.mp h1) ⟨rfl, hR⟩)))
theorem i_vc_routerInfo {k : Nat} {u : SX} {v : SY} (I : i_Rel k u v) (hk : k + 4 ≤ 2052) (v1 : Int32) (v2 : Int32) : wpX_routerInfo (fun r => wpY_routerInfo (fun r' => r' = r ∧ i_Rel (k + 4) u v) v v1 v2) u v1 v2 := by
  obtain ⟨cn, e, o, r, rt, rx, ms, fn, pi, dr, eA, eS, eL, eT, eP, eC, qI, qD, oA, oS, oT, oP, rA, rM, fr, sn, rfl, rfl, I⟩ := I
  have hR := nb_rel (k := k + 4) (ms := ms) (fn := fn) (pi := pi) (dr := dr) (qI := qI) (qD := qD) (oP := oP) (rM := rM) (fr := fr) (sn := sn) I
  have hb := I.1
  by_cases h0 : v1 < 0
  · exact br_t h0 (br_t h0 ⟨rfl, hR⟩)
  · by_cases h1 : v1 < nI r
    · have h1' : ¬ nI r ≤ v1 := Int32.not_le.mpr h1
      have hv : vp_in v1 4 := by
        obtain ⟨j, hj, rfl⟩ := nI_of h0
        rw [nI_ltI hj (by omega)] at h1
        exact nb_ix (by omega) (by omega)
      by_cases e0 : v2 = 0
      · subst e0
        exact br_f h0 (br_t h1 (br_t rfl ⟨hv, br_f h0 (br_f h1' (br_f (by decide) (br_t (by decide) (br_t rfl ⟨hv, rfl, hR⟩))))⟩))
      · by_cases e1 : v2 = 1
        · subst e1
          exact br_f h0 (br_t h1 (br_f e0 (br_t rfl ⟨hv, br_f h0 (br_f h1' (br_f (by decide) (br_t (by decide) (br_f e0 ⟨hv, rfl, hR⟩))))⟩)))
        · refine br_f h0 (br_t h1 (br_f e0 (br_f e1 (br_f h0 (br_f h1' ?_)))))
          by_cases h2 : v2 < 0
          · exact br_t h2 ⟨rfl, hR⟩
          · refine br_f h2 (br_f (fun h3 => ?_) ⟨rfl, hR⟩)
            obtain ⟨j, hj, rfl⟩ := nI_of2 (x := v2) (M := 1) (n := 1) (by decide) h2 h3
            by_cases hz : j = 0
            · subst hz
              exact e0 rfl
            · obtain rfl : j = 1 := by omega
              exact e1 rfl
    · exact br_f h0 (br_f h1 (br_f h0 (br_t (Int32.not_lt.mp h1) ⟨rfl, hR⟩)))
