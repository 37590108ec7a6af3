/-! own addresses, routers, confirmation -/
theorem nb_own_app {o : Nat} {oA oS oT : Nat → Int32} {a t : Int32} (h : nb_own o oA oS oT) (ha : nb_ok a) (ht : 0 < t) : nb_own (o + 1) (upd oA o a) (upd oS o 1) (upd oT o t) := by
  intro i hi
  by_cases q : i = o
  · rw [q, pk_us, pk_us, pk_us]
    exact ⟨ha, Or.inl ⟨rfl, ht⟩⟩
  · rw [pk_un q, pk_un q, pk_un q]
    exact h i (by omega)
theorem nb_own_up {o : Nat} {oA oS oT : Nat → Int32} (k : Nat) {oS1 oT1 : Nat → Int32} (h : nb_own o oA oS oT) (hk : (oS1 k = 1 ∧ 0 < oT1 k) ∨ oS1 k = 2 ∨ oS1 k = 3) (hs : ∀ j, j ≠ k → oS1 j = oS j ∧ oT1 j = oT j) : nb_own o oA oS1 oT1 := by
  intro i hi
  refine ⟨(h i hi).1, ?_⟩
  by_cases q : i = k
  · rw [q]
    exact hk
  · rw [(hs i q).1, (hs i q).2]
    exact (h i hi).2
theorem nb_rou_app {r : Nat} {rA : Nat → Int32} {a : Int32} (h : nb_rou r rA) (ha : nb_ok a) : nb_rou (r + 1) (upd rA r a) := by
  intro i hi
  by_cases q : i = r
  · rw [q, pk_us]
    exact ha
  · rw [pk_un q]
    exact h i (by omega)
theorem i_vc_addAddress {k : Nat} {u : SX} {v : SY} (I : i_Rel k u v) (hk : k + 4 ≤ 2052) (v1 : Int32) : wpX_addAddress (fun r u' => wpY_addAddress (fun r' v' => r' = r ∧ i_Rel (k + 4) u' v') v v1) u v1 := by
  obtain ⟨cn, e, o, r, rt, rx, ms, fn, pi, dr, eA, eS, eL, eT, eP, eC, qI, qD, oA, oS, oT, oP, rA, rM, fr, sn, rfl, rfl, I⟩ := I
  have hR := nb_rel (k := k + 4) (ms := ms) (fn := fn) (pi := pi) (dr := dr) (qI := qI) (qD := qD) (oP := oP) (rM := rM) (fr := fr) (sn := sn) I
  have hb := I.1
  by_cases hv : nb_ok v1
  · rcases nb_find (fun j => oA j = v1) o with hN | ⟨i, hi, hy, hl⟩
    · by_cases h8 : o < 8
      · have ho : vp_in (nI o) 8 := nb_ix h8 (by omega)
        have hc := nb_cl (i := o) (by omega)
        have hX : ∀ post : Int32 → SX → Prop, post 1 (nI cn, rt, rx, ms, nI e, nI (o + 1), nI r, fn + 1, pi, dr, eA, eS, eL, eT, eP, eC, qI, qD, upd oA o v1, upd oS o 1, upd oT o rx, upd oP o 1, rA, rM, nb_fp 0 (nb_ev fr fn 3 v1 0 0 0), nb_fp 1 (nb_ev fr fn 3 v1 0 0 0), nb_fp 2 (nb_ev fr fn 3 v1 0 0 0), nb_fp 3 (nb_ev fr fn 3 v1 0 0 0), nb_fp 4 (nb_ev fr fn 3 v1 0 0 0)) → wpX_addAddress post (nI cn, rt, rx, ms, nI e, nI o, nI r, fn, pi, dr, eA, eS, eL, eT, eP, eC, qI, qD, oA, oS, oT, oP, rA, rM, nb_fp 0 fr, nb_fp 1 fr, nb_fp 2 fr, nb_fp 3 fr, nb_fp 4 fr) v1 := by
          intro post H
          unfold wpX_addAddress
          dsimp only
          rw [hc]
          exact nx_valid_t hv (br_f (by decide) (nx_findOwn_n (by omega) hN (br_t rfl (br_t (nI_lt (b := 8) h8 (by omega)) ⟨ho, nm_e ⟨ho, nm_e ⟨ho, nm_e ⟨ho, nm_e (nm_r (nI_1 o) (nx_emit _ _ _ _ _ H))⟩⟩⟩⟩))))
        have hY : ∀ post : Int32 → SY → Prop, post 1 (nI cn, rt, rx, ms, nI e, nI (o + 1), nI r, fn + 1, pi, dr, eA, eS, eL, eT, eP, eC, qI, qD, sn, upd oA o v1, upd oS o 1, upd oT o rx, upd oP o 1, rA, rM, nb_ev fr fn 3 v1 0 0 0) → wpY_addAddress post (nI cn, rt, rx, ms, nI e, nI o, nI r, fn, pi, dr, eA, eS, eL, eT, eP, eC, qI, qD, sn, oA, oS, oT, oP, rA, rM, fr) v1 := by
          intro post H
          unfold wpY_addAddress
          dsimp only
          rw [hc]
          exact ny_valid_t hv (br_f (by decide) (ny_findOwn_n (by omega) hN (br_f (by decide) (br_t (nI_lt (b := 8) h8 (by omega)) ⟨ho, nm_e ⟨ho, nm_e ⟨ho, nm_e ⟨ho, nm_e (nm_r (nI_1 o) (ny_emit _ _ _ _ _ H))⟩⟩⟩⟩))))
        exact hX _ (hY _ ⟨rfl, nb_rel ⟨⟨hb.1, hb.2.1, hb.2.2.1, by omega, hb.2.2.2.2⟩, I.2.1, I.2.2.1, nb_own_app I.2.2.2.1 hv I.2.1.2, I.2.2.2.2⟩⟩)
      · have h8' : ¬ nI o < 8 := nI_nlt (b := 8) (by omega) (by omega)
        unfold wpX_addAddress
        refine nx_valid_t hv (br_f (by decide) (nx_findOwn_n (by omega) hN (br_t rfl (br_f h8' ?_))))
        unfold wpY_addAddress
        exact ny_valid_t hv (br_f (by decide) (ny_findOwn_n (by omega) hN (br_f (by decide) (br_f h8' ⟨rfl, hR⟩))))
    · unfold wpX_addAddress
      refine nx_valid_t hv (br_f (by decide) (nx_findOwn_s (by omega) i hi hy hl (br_f (nb_m1 (by omega)) ?_)))
      unfold wpY_addAddress
      exact ny_valid_t hv (br_f (by decide) (ny_findOwn_s (by omega) i hi hy hl (br_t (nb_n0 (by omega)) ⟨rfl, hR⟩)))
  · unfold wpX_addAddress
    refine nx_valid_f hv (br_t rfl ?_)
    unfold wpY_addAddress
    exact ny_valid_f hv (br_t rfl ⟨rfl, hR⟩)
theorem i_vc_addRouter {k : Nat} {u : SX} {v : SY} (I : i_Rel k u v) (hk : k + 4 ≤ 2052) (v1 : Int32) : wpX_addRouter (fun r u' => wpY_addRouter (fun r' v' => r' = r ∧ i_Rel (k + 4) u' v') v v1) u v1 := by
  obtain ⟨cn, e, o, r, rt, rx, ms, fn, pi, dr, eA, eS, eL, eT, eP, eC, qI, qD, oA, oS, oT, oP, rA, rM, fr, sn, rfl, rfl, I⟩ := I
  have hR := nb_rel (k := k + 4) (ms := ms) (fn := fn) (pi := pi) (dr := dr) (qI := qI) (qD := qD) (oP := oP) (rM := rM) (fr := fr) (sn := sn) I
  have hb := I.1
  by_cases hv : nb_ok v1
  · rcases nb_find (fun j => rA j = v1) r with hN | ⟨i, hi, hy, hl⟩
    · by_cases h8 : r < 4
      · have ho : vp_in (nI r) 4 := nb_ix h8 (by omega)
        have hc := nb_cl (i := r) (by omega)
        have hX : ∀ post : Int32 → SX → Prop, post 1 (nI cn, rt, rx, ms, nI e, nI o, nI (r + 1), fn, pi, dr, eA, eS, eL, eT, eP, eC, qI, qD, oA, oS, oT, oP, upd rA r v1, upd rM r 0, nb_fp 0 fr, nb_fp 1 fr, nb_fp 2 fr, nb_fp 3 fr, nb_fp 4 fr) → wpX_addRouter post (nI cn, rt, rx, ms, nI e, nI o, nI r, fn, pi, dr, eA, eS, eL, eT, eP, eC, qI, qD, oA, oS, oT, oP, rA, rM, nb_fp 0 fr, nb_fp 1 fr, nb_fp 2 fr, nb_fp 3 fr, nb_fp 4 fr) v1 := by
          intro post H
          unfold wpX_addRouter
          dsimp only
          rw [hc]
          exact nx_valid_t hv (br_f (by decide) (nx_findRouter_n (by omega) hN (br_t rfl (br_t (nI_lt (b := 4) h8 (by omega)) ⟨ho, nm_e ⟨ho, nm_e (nm_r (nI_1 r) H)⟩⟩))))
        have hY : ∀ post : Int32 → SY → Prop, post 1 (nI cn, rt, rx, ms, nI e, nI o, nI (r + 1), fn, pi, dr, eA, eS, eL, eT, eP, eC, qI, qD, sn, oA, oS, oT, oP, upd rA r v1, upd rM r 0, fr) → wpY_addRouter post (nI cn, rt, rx, ms, nI e, nI o, nI r, fn, pi, dr, eA, eS, eL, eT, eP, eC, qI, qD, sn, oA, oS, oT, oP, rA, rM, fr) v1 := by
          intro post H
          unfold wpY_addRouter
          dsimp only
          rw [hc]
          exact ny_valid_t hv (br_f (by decide) (ny_findRouter_n (by omega) hN (br_f (by decide) (br_t (nI_lt (b := 4) h8 (by omega)) ⟨ho, nm_e ⟨ho, nm_e (nm_r (nI_1 r) H)⟩⟩))))
        exact hX _ (hY _ ⟨rfl, nb_rel ⟨⟨hb.1, hb.2.1, hb.2.2.1, hb.2.2.2.1, by omega⟩, I.2.1, I.2.2.1, I.2.2.2.1, nb_rou_app I.2.2.2.2 hv⟩⟩)
      · have h8' : ¬ nI r < 4 := nI_nlt (b := 4) (by omega) (by omega)
        unfold wpX_addRouter
        refine nx_valid_t hv (br_f (by decide) (nx_findRouter_n (by omega) hN (br_t rfl (br_f h8' ?_))))
        unfold wpY_addRouter
        exact ny_valid_t hv (br_f (by decide) (ny_findRouter_n (by omega) hN (br_f (by decide) (br_f h8' ⟨rfl, hR⟩))))
    · unfold wpX_addRouter
      refine nx_valid_t hv (br_f (by decide) (nx_findRouter_s (by omega) i hi hy hl (br_f (nb_m1 (by omega)) ?_)))
      unfold wpY_addRouter
      exact ny_valid_t hv (br_f (by decide) (ny_findRouter_s (by omega) i hi hy hl (br_t (nb_n0 (by omega)) ⟨rfl, hR⟩)))
  · unfold wpX_addRouter
    refine nx_valid_f hv (br_t rfl ?_)
    unfold wpY_addRouter
    exact ny_valid_f hv (br_t rfl ⟨rfl, hR⟩)
theorem nb_ei_c0 {S L T P C : Int32} (h : nb_ei S L T P C) (h1 : ¬ S = 1) : C = 0 := by
  rcases h with h | h | h | h | h
  · exact absurd h.1 h1
  · exact h.2.2.2
  · exact h.2.2.2
  · exact h.2.2.2
  · exact h.2.2
theorem nb_ent_reach {e i : Nat} {eA eS eL eT eP eC : Nat → Int32} {rt : Int32} (E : nb_ent e eA eS eL eT eP eC) (hi : i < e) (h1 : ¬ eS i = 1) (hr : 0 < rt) : nb_ent e eA (upd eS i 2) eL (upd eT i rt) (upd eP i 0) eC := by
  refine nb_ent_up i E ?_ (fun j hj => ⟨pk_un hj, rfl, pk_un hj, pk_un hj, rfl⟩)
  rw [pk_us, pk_us, pk_us]
  exact Or.inr (Or.inl ⟨rfl, hr, rfl, nb_ei_c0 (E.2.1 i hi) h1⟩)
theorem nb_ent_stale {e i : Nat} {eA eS eL eT eP eC : Nat → Int32} (E : nb_ent e eA eS eL eT eP eC) (hi : i < e) (h1 : ¬ eS i = 1) : nb_ent e eA (upd eS i 3) eL (upd eT i 0) (upd eP i 0) eC := by
  refine nb_ent_up i E ?_ (fun j hj => ⟨pk_un hj, rfl, pk_un hj, pk_un hj, rfl⟩)
  rw [pk_us, pk_us, pk_us]
  exact Or.inr (Or.inr (Or.inl ⟨rfl, rfl, rfl, nb_ei_c0 (E.2.1 i hi) h1⟩))
theorem nb_ent_link {e i : Nat} {eA eS eL eT eP eC : Nat → Int32} {l : Int32} (E : nb_ent e eA eS eL eT eP eC) (hi : i < e) (h1 : ¬ eS i = 1) : nb_ent e eA eS (upd eL i l) eT eP eC := by
  refine nb_ent_up i E ?_ (fun j hj => ⟨rfl, pk_un hj, rfl, rfl, rfl⟩)
  rcases E.2.1 i hi with h | h | h | h | h
  · exact absurd h.1 h1
  · exact Or.inr (Or.inl h)
  · exact Or.inr (Or.inr (Or.inl h))
  · exact Or.inr (Or.inr (Or.inr (Or.inl h)))
  · exact Or.inr (Or.inr (Or.inr (Or.inr h)))
theorem i_vc_confirm {k : Nat} {u : SX} {v : SY} (I : i_Rel k u v) (hk : k + 4 ≤ 2052) (v1 : Int32) : wpX_confirm (fun r u' => wpY_confirm (fun r' v' => r' = r ∧ i_Rel (k + 4) u' v') v v1) u v1 := by
  obtain ⟨cn, e, o, r, rt, rx, ms, fn, pi, dr, eA, eS, eL, eT, eP, eC, qI, qD, oA, oS, oT, oP, rA, rM, fr, sn, rfl, rfl, I⟩ := I
  have hR := nb_rel (k := k + 4) (ms := ms) (fn := fn) (pi := pi) (dr := dr) (qI := qI) (qD := qD) (oP := oP) (rM := rM) (fr := fr) (sn := sn) I
  have hb := I.1
  have hE := I.2.2.1
  rcases nb_find (fun j => eA j = v1) e with hN | ⟨i, hi, hy, hl⟩
  · unfold wpX_confirm
    refine nx_findEntry_n (by omega) hN (br_t rfl ?_)
    unfold wpY_confirm
    by_cases hv : nb_ok v1
    · exact ny_valid_t hv (br_f (by decide) (ny_find_n (by omega) hN (br_t (by decide) ⟨rfl, hR⟩)))
    · exact ny_valid_f hv (br_t rfl ⟨rfl, hR⟩)
  · have hv : vp_in (nI i) 16 := nb_ix (by omega) (by omega)
    have hc := nb_cl (i := i) (by omega)
    have hok : nb_ok v1 := by
      have := hE.1 i hi
      rw [hy] at this
      exact this
    by_cases h1 : eS i = 1
    · have h1' : eS (nI i).toNatClampNeg = 1 := by rw [hc]; exact h1
      unfold wpX_confirm
      refine nx_findEntry_s (by omega) i hi hy hl (br_f (nb_m1 (by omega)) ⟨hv, br_t h1' ?_⟩)
      unfold wpY_confirm
      exact ny_valid_t hok (br_f (by decide) (ny_find_s (by omega) i hi hy hl (br_f (nb_nn (by omega)) ⟨hv, br_t h1' ⟨rfl, hR⟩⟩)))
    · have h1' : ¬ eS (nI i).toNatClampNeg = 1 := by rw [hc]; exact h1
      have hX : ∀ post : Int32 → SX → Prop, post 1 (nI cn, rt, rx, ms, nI e, nI o, nI r, fn, pi, dr, eA, upd eS i 2, eL, upd eT i rt, upd eP i 0, eC, qI, qD, oA, oS, oT, oP, rA, rM, nb_fp 0 fr, nb_fp 1 fr, nb_fp 2 fr, nb_fp 3 fr, nb_fp 4 fr) → wpX_confirm post (nI cn, rt, rx, ms, nI e, nI o, nI r, fn, pi, dr, eA, eS, eL, eT, eP, eC, qI, qD, oA, oS, oT, oP, rA, rM, nb_fp 0 fr, nb_fp 1 fr, nb_fp 2 fr, nb_fp 3 fr, nb_fp 4 fr) v1 := by
        intro post H
        unfold wpX_confirm
        exact nx_findEntry_s (by omega) i hi hy hl (br_f (nb_m1 (by omega)) ⟨hv, br_f h1' (nx_enterReachable (by omega) H)⟩)
      have hY : ∀ post : Int32 → SY → Prop, post 1 (nI cn, rt, rx, ms, nI e, nI o, nI r, fn, pi, dr, eA, upd eS i 2, eL, upd eT i rt, upd eP i 0, eC, qI, qD, sn, oA, oS, oT, oP, rA, rM, fr) → wpY_confirm post (nI cn, rt, rx, ms, nI e, nI o, nI r, fn, pi, dr, eA, eS, eL, eT, eP, eC, qI, qD, sn, oA, oS, oT, oP, rA, rM, fr) v1 := by
        intro post H
        unfold wpY_confirm
        exact ny_valid_t hok (br_f (by decide) (ny_find_s (by omega) i hi hy hl (br_f (nb_nn (by omega)) ⟨hv, br_f h1' (ny_enterReachable (by omega) H)⟩)))
      exact hX _ (hY _ ⟨rfl, nb_rel ⟨I.1, I.2.1, nb_ent_reach hE hi h1 I.2.1.1, I.2.2.2⟩⟩)
