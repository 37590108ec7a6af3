/-! the calls that only read, with a search -/
theorem nb_five {x : Int32} (h0 : ¬ x < 0) (h4 : x ≤ 4) : x = 0 ∨ x = 1 ∨ x = 2 ∨ x = 3 ∨ x = 4 := by
  obtain ⟨j, hj, rfl⟩ := nI_of2 (x := x) (M := 4) (n := 4) (by decide) h0 h4
  have : j = 0 ∨ j = 1 ∨ j = 2 ∨ j = 3 ∨ j = 4 := by omega
  rcases this with rfl | rfl | rfl | rfl | rfl
  · exact Or.inl rfl
  · exact Or.inr (Or.inl rfl)
  · exact Or.inr (Or.inr (Or.inl rfl))
  · exact Or.inr (Or.inr (Or.inr (Or.inl rfl)))
  · exact Or.inr (Or.inr (Or.inr (Or.inr rfl)))
theorem nb_three {x : Int32} (h0 : ¬ x < 0) (h4 : x ≤ 2) : x = 0 ∨ x = 1 ∨ x = 2 := by
  obtain ⟨j, hj, rfl⟩ := nI_of2 (x := x) (M := 2) (n := 2) (by decide) h0 h4
  have : j = 0 ∨ j = 1 ∨ j = 2 := by omega
  rcases this with rfl | rfl | rfl
  · exact Or.inl rfl
  · exact Or.inr (Or.inl rfl)
  · exact Or.inr (Or.inr rfl)
theorem i_vc_entryInfo {k : Nat} {u : SX} {v : SY} (I : i_Rel k u v) (hk : k + 4 ≤ 2052) (v1 : Int32) (v2 : Int32) : wpX_entryInfo (fun r => wpY_entryInfo (fun r' => r' = r ∧ i_Rel (k + 4) u v) v v1 v2) u v1 v2 := by
  obtain ⟨cn, e, o, r, rt, rx, ms, fn, pi, dr, eA, eS, eL, eT, eP, eC, qI, qD, oA, oS, oT, oP, rA, rM, fr, sn, rfl, rfl, I⟩ := I
  have hR := nb_rel (k := k + 4) (ms := ms) (fn := fn) (pi := pi) (dr := dr) (qI := qI) (qD := qD) (oP := oP) (rM := rM) (fr := fr) (sn := sn) I
  have hb := I.1
  have hE := I.2.2.1
  by_cases h0 : v2 < 0
  · exact br_t h0 (br_t h0 ⟨rfl, hR⟩)
  · by_cases h4 : v2 ≤ 4
    · rcases nb_find (fun j => eA j = v1) e with hN | ⟨i, hi, hy, hl⟩
      · have hq : wpY_entryInfo (fun r' => r' = 0 ∧ i_Rel (k + 4) (nI cn, rt, rx, ms, nI e, nI o, nI r, fn, pi, dr, eA, eS, eL, eT, eP, eC, qI, qD, oA, oS, oT, oP, rA, rM, nb_fp 0 fr, nb_fp 1 fr, nb_fp 2 fr, nb_fp 3 fr, nb_fp 4 fr) (nI cn, rt, rx, ms, nI e, nI o, nI r, fn, pi, dr, eA, eS, eL, eT, eP, eC, qI, qD, sn, oA, oS, oT, oP, rA, rM, fr)) (nI cn, rt, rx, ms, nI e, nI o, nI r, fn, pi, dr, eA, eS, eL, eT, eP, eC, qI, qD, sn, oA, oS, oT, oP, rA, rM, fr) v1 v2 := by
          refine br_f h0 (br_t h4 ?_)
          by_cases hv : nb_ok v1
          · exact ny_valid_t hv (br_f (by decide) (ny_find_n (by omega) hN (br_f (by decide) ⟨rfl, hR⟩)))
          · exact ny_valid_f hv (br_t rfl (br_f (by decide) ⟨rfl, hR⟩))
        exact br_f h0 (br_t h4 (nx_findEntry_n (by omega) hN (br_t rfl (br_c (fun _ => hq) (fun _ => hq)))))
      · have hv : vp_in (nI i) 16 := nb_ix (by omega) (by omega)
        have hm := nb_m1 (i := i) (by omega)
        have hn := nb_n0 (i := i) (by omega)
        have hc := nb_cl (i := i) (by omega)
        have hok : nb_ok v1 := by
          have := hE.1 i hi
          rw [hy] at this
          exact this
        have hei := hE.2.1 i hi
        have hq : ∀ z, wY_entryInfo_28 (fun r' => r' = z ∧ i_Rel (k + 4) (nI cn, rt, rx, ms, nI e, nI o, nI r, fn, pi, dr, eA, eS, eL, eT, eP, eC, qI, qD, oA, oS, oT, oP, rA, rM, nb_fp 0 fr, nb_fp 1 fr, nb_fp 2 fr, nb_fp 3 fr, nb_fp 4 fr) (nI cn, rt, rx, ms, nI e, nI o, nI r, fn, pi, dr, eA, eS, eL, eT, eP, eC, qI, qD, sn, oA, oS, oT, oP, rA, rM, fr)) v2 (nI i) (nI cn) rt rx ms (nI e) (nI o) (nI r) fn pi dr eA eS eL eT eP eC qI qD sn oA oS oT oP rA rM fr → wpY_entryInfo (fun r' => r' = z ∧ i_Rel (k + 4) (nI cn, rt, rx, ms, nI e, nI o, nI r, fn, pi, dr, eA, eS, eL, eT, eP, eC, qI, qD, oA, oS, oT, oP, rA, rM, nb_fp 0 fr, nb_fp 1 fr, nb_fp 2 fr, nb_fp 3 fr, nb_fp 4 fr) (nI cn, rt, rx, ms, nI e, nI o, nI r, fn, pi, dr, eA, eS, eL, eT, eP, eC, qI, qD, sn, oA, oS, oT, oP, rA, rM, fr)) (nI cn, rt, rx, ms, nI e, nI o, nI r, fn, pi, dr, eA, eS, eL, eT, eP, eC, qI, qD, sn, oA, oS, oT, oP, rA, rM, fr) v1 v2 := fun z H =>
          br_f h0 (br_t h4 (ny_valid_t hok (br_f (by decide) (ny_find_s (by omega) i hi hy hl H))))
        refine br_f h0 (br_t h4 (nx_findEntry_s (by omega) i hi hy hl (br_f hm (br_f h0 ?_))))
        rw [hc]
        rcases nb_five h0 h4 with rfl | rfl | rfl | rfl | rfl
        · refine br_f (by decide) (br_t rfl ⟨hv, hq _ (br_t hn (br_t rfl ⟨hv, ?_, hR⟩))⟩)
          rw [hc]
        · refine br_f (by decide) (br_f (by decide) (br_t rfl ⟨hv, hq _ (br_t hn (br_f (by decide) (br_t rfl ⟨hv, ?_, hR⟩)))⟩))
          rw [hc]
        · refine br_f (by decide) (br_f (by decide) (br_f (by decide) (br_t rfl ⟨hv, hq _ (br_t hn (br_f (by decide) (br_f (by decide) (br_t rfl ⟨hv, ?_, hR⟩))))⟩)))
          rw [hc]
        · refine br_f (by decide) (br_f (by decide) (br_f (by decide) (br_f (by decide) (br_t rfl ⟨hv, hq _ (br_t hn (br_f (by decide) (br_f (by decide) (br_f (by decide) (br_t rfl ⟨hv, ?_⟩)))))⟩))))
          rw [hc]
          by_cases h3 : eS i = 3
          · refine br_t h3 ⟨?_, hR⟩
            rcases hei with h | h | h | h | h
            · exact absurd (h.1.symm.trans h3) (by decide)
            · exact absurd (h.1.symm.trans h3) (by decide)
            · exact h.2.1.symm
            · exact absurd (h.1.symm.trans h3) (by decide)
            · exact absurd (h.1.symm.trans h3) (by decide)
          · exact br_f h3 ⟨hv, rfl, hR⟩
        · refine br_t (by decide) ⟨hv, hq _ (br_t hn (br_f (by decide) (br_f (by decide) (br_f (by decide) (br_f (by decide) ⟨hv, ?_⟩)))))⟩
          rw [hc]
          refine nm_e ?_
          rcases hei with h | h | h | h | h
          · rw [h.1]
            exact br_f (by decide) (br_f (by decide) (br_f (by decide) ⟨hv, rfl, hR⟩))
          · rw [h.1, h.2.2.1]
            exact br_t rfl ⟨rfl, hR⟩
          · rw [h.1, h.2.2.1]
            exact br_f (by decide) (br_t rfl ⟨rfl, hR⟩)
          · rw [h.1, h.2.2.1]
            exact br_f (by decide) (br_f (by decide) (br_t rfl ⟨rfl, hR⟩))
          · rw [h.1]
            exact br_f (by decide) (br_f (by decide) (br_f (by decide) ⟨hv, rfl, hR⟩))
    · exact br_f h0 (br_f h4 (br_f h0 (br_f h4 ⟨rfl, hR⟩)))
theorem i_vc_addressInfo {k : Nat} {u : SX} {v : SY} (I : i_Rel k u v) (hk : k + 4 ≤ 2052) (v1 : Int32) (v2 : Int32) : wpX_addressInfo (fun r => wpY_addressInfo (fun r' => r' = r ∧ i_Rel (k + 4) u v) v v1 v2) u v1 v2 := by
  obtain ⟨cn, e, o, r, rt, rx, ms, fn, pi, dr, eA, eS, eL, eT, eP, eC, qI, qD, oA, oS, oT, oP, rA, rM, fr, sn, rfl, rfl, I⟩ := I
  have hR := nb_rel (k := k + 4) (ms := ms) (fn := fn) (pi := pi) (dr := dr) (qI := qI) (qD := qD) (oP := oP) (rM := rM) (fr := fr) (sn := sn) I
  have hb := I.1
  have hO := I.2.2.2.1
  by_cases h0 : v2 < 0
  · exact br_t h0 (br_t h0 ⟨rfl, hR⟩)
  · by_cases h4 : v2 ≤ 2
    · rcases nb_find (fun j => oA j = v1) o with hN | ⟨i, hi, hy, hl⟩
      · have hq : wpY_addressInfo (fun r' => r' = 0 ∧ i_Rel (k + 4) (nI cn, rt, rx, ms, nI e, nI o, nI r, fn, pi, dr, eA, eS, eL, eT, eP, eC, qI, qD, oA, oS, oT, oP, rA, rM, nb_fp 0 fr, nb_fp 1 fr, nb_fp 2 fr, nb_fp 3 fr, nb_fp 4 fr) (nI cn, rt, rx, ms, nI e, nI o, nI r, fn, pi, dr, eA, eS, eL, eT, eP, eC, qI, qD, sn, oA, oS, oT, oP, rA, rM, fr)) (nI cn, rt, rx, ms, nI e, nI o, nI r, fn, pi, dr, eA, eS, eL, eT, eP, eC, qI, qD, sn, oA, oS, oT, oP, rA, rM, fr) v1 v2 := by
          refine br_f h0 (br_t h4 ?_)
          by_cases hv : nb_ok v1
          · exact ny_valid_t hv (br_f (by decide) (ny_findOwn_n (by omega) hN (br_f (by decide) ⟨rfl, hR⟩)))
          · exact ny_valid_f hv (br_t rfl (br_f (by decide) ⟨rfl, hR⟩))
        exact br_f h0 (br_t h4 (nx_findOwn_n (by omega) hN (br_t rfl (br_c (fun _ => hq) (fun _ => hq)))))
      · have hv : vp_in (nI i) 8 := nb_ix (by omega) (by omega)
        have hm := nb_m1 (i := i) (by omega)
        have hn := nb_n0 (i := i) (by omega)
        have hc := nb_cl (i := i) (by omega)
        have hok : nb_ok v1 := by
          have := (hO i hi).1
          rw [hy] at this
          exact this
        have hq : ∀ z, wY_addressInfo_28 (fun r' => r' = z ∧ i_Rel (k + 4) (nI cn, rt, rx, ms, nI e, nI o, nI r, fn, pi, dr, eA, eS, eL, eT, eP, eC, qI, qD, oA, oS, oT, oP, rA, rM, nb_fp 0 fr, nb_fp 1 fr, nb_fp 2 fr, nb_fp 3 fr, nb_fp 4 fr) (nI cn, rt, rx, ms, nI e, nI o, nI r, fn, pi, dr, eA, eS, eL, eT, eP, eC, qI, qD, sn, oA, oS, oT, oP, rA, rM, fr)) v2 (nI i) (nI cn) rt rx ms (nI e) (nI o) (nI r) fn pi dr eA eS eL eT eP eC qI qD sn oA oS oT oP rA rM fr → wpY_addressInfo (fun r' => r' = z ∧ i_Rel (k + 4) (nI cn, rt, rx, ms, nI e, nI o, nI r, fn, pi, dr, eA, eS, eL, eT, eP, eC, qI, qD, oA, oS, oT, oP, rA, rM, nb_fp 0 fr, nb_fp 1 fr, nb_fp 2 fr, nb_fp 3 fr, nb_fp 4 fr) (nI cn, rt, rx, ms, nI e, nI o, nI r, fn, pi, dr, eA, eS, eL, eT, eP, eC, qI, qD, sn, oA, oS, oT, oP, rA, rM, fr)) (nI cn, rt, rx, ms, nI e, nI o, nI r, fn, pi, dr, eA, eS, eL, eT, eP, eC, qI, qD, sn, oA, oS, oT, oP, rA, rM, fr) v1 v2 := fun z H =>
          br_f h0 (br_t h4 (ny_valid_t hok (br_f (by decide) (ny_findOwn_s (by omega) i hi hy hl H))))
        refine br_f h0 (br_t h4 (nx_findOwn_s (by omega) i hi hy hl (br_f hm ?_)))
        rw [hc]
        rcases nb_three h0 h4 with rfl | rfl | rfl
        · refine br_t rfl ⟨hv, hq _ (br_t hn (br_t rfl ⟨hv, ?_, hR⟩))⟩
          rw [hc]
        · refine br_f (by decide) (br_t rfl ⟨hv, hq _ (br_t hn (br_f (by decide) (br_t rfl ⟨hv, ?_, hR⟩)))⟩)
          rw [hc]
        · refine br_f (by decide) (br_f (by decide) ⟨hv, hq _ (br_t hn (br_f (by decide) (br_f (by decide) ⟨hv, ?_, hR⟩)))⟩)
          rw [hc]
    · exact br_f h0 (br_f h4 (br_f h0 (br_f h4 ⟨rfl, hR⟩)))
theorem i_vc_queuedPacket {k : Nat} {u : SX} {v : SY} (I : i_Rel k u v) (hk : k + 4 ≤ 2052) (v1 : Int32) (v2 : Int32) : wpX_queuedPacket (fun r => wpY_queuedPacket (fun r' => r' = r ∧ i_Rel (k + 4) u v) v v1 v2) u v1 v2 := by
  obtain ⟨cn, e, o, r, rt, rx, ms, fn, pi, dr, eA, eS, eL, eT, eP, eC, qI, qD, oA, oS, oT, oP, rA, rM, fr, sn, rfl, rfl, I⟩ := I
  have hR := nb_rel (k := k + 4) (ms := ms) (fn := fn) (pi := pi) (dr := dr) (qI := qI) (qD := qD) (oP := oP) (rM := rM) (fr := fr) (sn := sn) I
  have hb := I.1
  have hE := I.2.2.1
  rcases nb_find (fun j => eA j = v1) e with hN | ⟨i, hi, hy, hl⟩
  · refine nx_findEntry_n (by omega) hN (br_t rfl ?_)
    refine ny_find_n (by omega) hN ?_
    by_cases hv : nb_ok v1
    · exact ny_valid_t hv (br_f (by decide) (br_t (by decide) ⟨rfl, hR⟩))
    · exact ny_valid_f hv (br_t rfl ⟨rfl, hR⟩)
  · have hv : vp_in (nI i) 16 := nb_ix (by omega) (by omega)
    have hm := nb_m1 (i := i) (by omega)
    have hn := nb_nn (i := i) (by omega)
    have hc := nb_cl (i := i) (by omega)
    have hok : nb_ok v1 := by
      have := hE.1 i hi
      rw [hy] at this
      exact this
    obtain ⟨q, hq, eq⟩ := nb_ei_q (hE.2.1 i hi)
    refine nx_findEntry_s (by omega) i hi hy hl (br_f hm ?_)
    by_cases h0 : v2 < 0
    · refine br_t h0 ?_
      exact ny_find_s (by omega) i hi hy hl (ny_valid_t hok (br_f (by decide) (br_f hn (br_t h0 ⟨rfl, hR⟩))))
    · refine br_f h0 ?_
      rw [hc, eq]
      obtain ⟨j, hj, rfl⟩ := nI_of h0
      by_cases h1 : j < q
      · rw [nb_3a]
        refine ⟨hv, br_t (nI_lt h1 (by omega)) ⟨nb_ix (by omega) (by omega), ?_⟩⟩
        refine ny_find_s (by omega) i hi hy hl (ny_valid_t hok (br_f (by decide) (br_f hn (br_f h0 ?_))))
        rw [hc, eq]
        refine ⟨hv, br_f (nI_ge h1 (by omega)) (br_t (nI_lt (b := 3) (by omega) (by omega)) ?_)⟩
        rw [nb_3a]
        exact ⟨nb_ix (by omega) (by omega), rfl, hR⟩
      · refine ⟨hv, br_f (nI_nlt (by omega) (by omega)) ?_⟩
        refine ny_find_s (by omega) i hi hy hl (ny_valid_t hok (br_f (by decide) (br_f hn (br_f h0 ?_))))
        rw [hc, eq]
        exact ⟨hv, br_t (nI_le (by omega) (by omega)) ⟨rfl, hR⟩⟩
theorem i_vc_frameField {k : Nat} {u : SX} {v : SY} (I : i_Rel k u v) (hk : k + 4 ≤ 2052) (v1 : Int32) (v2 : Int32) : wpX_frameField (fun r => wpY_frameField (fun r' => r' = r ∧ i_Rel (k + 4) u v) v v1 v2) u v1 v2 := by
  obtain ⟨cn, e, o, r, rt, rx, ms, fn, pi, dr, eA, eS, eL, eT, eP, eC, qI, qD, oA, oS, oT, oP, rA, rM, fr, sn, rfl, rfl, I⟩ := I
  have hR := nb_rel (k := k + 4) (ms := ms) (fn := fn) (pi := pi) (dr := dr) (qI := qI) (qD := qD) (oP := oP) (rM := rM) (fr := fr) (sn := sn) I
  by_cases h0 : v1 < 0
  · exact br_t h0 (br_t h0 ⟨rfl, hR⟩)
  · by_cases h1 : fn ≤ v1
    · exact br_f h0 (br_t h1 (br_f h0 (br_t h1 ⟨rfl, hR⟩)))
    · by_cases h2 : fn - 64 ≤ v1
      · have h2' : ¬ v1 < fn - 64 := Int32.not_lt.mpr h2
        refine br_f h0 (br_f h1 (br_t h2 ?_))
        obtain ⟨s, hs, es⟩ := nb_and63 v1
        refine nm_r es ?_
        have hv : vp_in (nI s) 64 := nb_ix hs (by omega)
        have hc := nb_cl (i := s) (by omega)
        by_cases g0 : v2 < 0
        · exact br_t g0 (br_f h0 (br_f h1 (br_f h2' (br_t g0 ⟨rfl, hR⟩))))
        · refine br_f g0 ?_
          by_cases g4 : 4 < v2
          · exact br_t g4 (br_f h0 (br_f h1 (br_f h2' (br_f g0 (br_f (Int32.not_le.mpr g4) ⟨rfl, hR⟩)))))
          · refine br_f g4 ?_
            have g4' : v2 ≤ 4 := Int32.not_lt.mp g4
            have hy : ∀ (f : Nat) (z : Int32), f ≤ 4 → v2 = nI f → z = fr (5 * s + f) → wpY_frameField (fun r' => r' = z ∧ i_Rel (k + 4) (nI cn, rt, rx, ms, nI e, nI o, nI r, fn, pi, dr, eA, eS, eL, eT, eP, eC, qI, qD, oA, oS, oT, oP, rA, rM, nb_fp 0 fr, nb_fp 1 fr, nb_fp 2 fr, nb_fp 3 fr, nb_fp 4 fr) (nI cn, rt, rx, ms, nI e, nI o, nI r, fn, pi, dr, eA, eS, eL, eT, eP, eC, qI, qD, sn, oA, oS, oT, oP, rA, rM, fr)) (nI cn, rt, rx, ms, nI e, nI o, nI r, fn, pi, dr, eA, eS, eL, eT, eP, eC, qI, qD, sn, oA, oS, oT, oP, rA, rM, fr) v1 v2 := by
              intro f z hf ef er
              refine br_f h0 (br_f h1 (br_f h2' (br_f g0 (br_t g4' ?_))))
              rw [es, show nI s * 5 = nI (s * 5) from pk_mul s 5, ef, nI_add, Nat.mul_comm s 5, nb_cl (by omega)]
              exact ⟨nb_ix (by omega) (by omega), er.symm, hR⟩
            rw [hc]
            rcases nb_five g0 g4' with e0 | e1 | e2 | e3 | e4
            · exact br_t e0 ⟨hv, hy 0 _ (by omega) e0 rfl⟩
            · exact br_f (by rw [e1]; decide) (br_t e1 ⟨hv, hy 1 _ (by omega) e1 rfl⟩)
            · exact br_f (by rw [e2]; decide) (br_f (by rw [e2]; decide) (br_t e2 ⟨hv, hy 2 _ (by omega) e2 rfl⟩))
            · exact br_f (by rw [e3]; decide) (br_f (by rw [e3]; decide) (br_f (by rw [e3]; decide) (br_t e3 ⟨hv, hy 3 _ (by omega) e3 rfl⟩)))
            · exact br_f (by rw [e4]; decide) (br_f (by rw [e4]; decide) (br_f (by rw [e4]; decide) (br_f (by rw [e4]; decide) (br_t e4 ⟨hv, hy 4 _ (by omega) e4 rfl⟩))))
      · exact br_f h0 (br_f h1 (br_f h2 (br_f h0 (br_f h1 (br_t (Int32.not_le.mp h2) ⟨rfl, hR⟩)))))
