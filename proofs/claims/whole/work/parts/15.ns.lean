/-! solicitations -/
section
variable {cn e o r : Nat} {rt rx ms fn pi dr : Int32} {eA eS eL eT eP eC qI qD oA oS oT oP rA rM fr sn : Nat → Int32}
theorem nj_learn (I : nb_inv cn e o r rt rx eA eS eL eT eP eC oA oS oT rA) {s t l : Int32} (hs : nb_ok s) (h0 : ¬ l = 0) {g : Nat} (hg : g < o) (gy : oA g = t) (gl : ∀ j, j < g → ¬ oA j = t) (g2 : oS g = 2) :
    ∃ (e1 : Nat) (fn1 : Int32) (eA1 eS1 eL1 eT1 eP1 eC1 qI1 qD1 fr1 : Nat → Int32), nb_inv cn e1 o r rt rx eA1 eS1 eL1 eT1 eP1 eC1 oA oS oT rA ∧
    (∀ post : SX → Prop, post (nI cn, rt, rx, ms, nI e1, nI o, nI r, fn1, pi, dr, eA1, eS1, eL1, eT1, eP1, eC1, qI1, qD1, oA, oS, oT, oP, rA, rM, nb_fp 0 fr1, nb_fp 1 fr1, nb_fp 2 fr1, nb_fp 3 fr1, nb_fp 4 fr1) → wpX_learnSource post (nI cn, rt, rx, ms, nI e, nI o, nI r, fn, pi, dr, eA, eS, eL, eT, eP, eC, qI, qD, oA, oS, oT, oP, rA, rM, nb_fp 0 fr, nb_fp 1 fr, nb_fp 2 fr, nb_fp 3 fr, nb_fp 4 fr) s l) ∧
    (∀ post : Int32 → SY → Prop, wY_receiveNS_215 post s t l (nI cn) rt rx ms (nI e1) (nI o) (nI r) fn1 pi dr eA1 eS1 eL1 eT1 eP1 eC1 qI1 qD1 sn oA oS oT oP rA rM fr1 → wY_receiveNS_38 post s t l (nI cn) rt rx ms (nI e) (nI o) (nI r) fn pi dr eA eS eL eT eP eC qI qD sn oA oS oT oP rA rM fr) := by
  have hb := I.1
  have hE := I.2.2.1
  have hv8 : vp_in (nI g) 8 := nb_ix (by omega) (by omega)
  have gc := nb_cl (i := g) (by omega)
  have g3 : ¬ oS (nI g).toNatClampNeg = 3 := by rw [gc, g2]; decide
  have g1 : ¬ oS (nI g).toNatClampNeg = 1 := by rw [gc, g2]; decide
  have hs0 : ¬ s = 0 := by
    intro h
    rw [h] at hs
    exact absurd hs.1 (by decide)
  rcases nb_find (fun j => eA j = s) e with hN | ⟨i, hi, hy, hl⟩
  · rcases nj_create (cn := cn) (e := e) (o := o) (r := r) (rt := rt) (rx := rx) (ms := ms) (fn := fn) (pi := pi) (dr := dr) (qI := qI) (qD := qD) (oA := oA) (oS := oS) (oT := oT) (oP := oP) (rA := rA) (rM := rM) (fr := fr) (sn := sn) hb.2.1 hb.1 hb.2.2.1 hE s hN with ⟨hX, hY⟩ | ⟨e1, eA1, eS1, eL1, eT1, eP1, eC1, qI1, qD1, he1, hE1, hn1, hX, hY⟩
    · refine ⟨e, fn, eA, eS, eL, eT, eP, eC, qI, qD, fr, I, fun post H => ?_, fun post H => ?_⟩
      · unfold wpX_learnSource
        exact nx_findEntry_n (by omega) hN (br_t rfl (hX _ (br_t rfl H)))
      · unfold wY_receiveNS_38
        exact ny_findOwn_s (by omega) g hg gy gl (br_f (nb_nn (by omega)) ⟨hv8, br_f g3 ⟨hv8, br_f g1 (br_f hs0 (br_f h0 (ny_find_n (by omega) hN (br_f (by decide) (hY _ (br_t (by decide) H)))))) ⟩⟩)
    · have hv : vp_in (nI e1) 16 := nb_ix (by omega) (by omega)
      have hc := nb_cl (i := e1) (by omega)
      refine ⟨e1 + 1, fn, upd eA1 e1 s, upd eS1 e1 3, upd eL1 e1 l, upd eT1 e1 0, upd eP1 e1 0, upd eC1 e1 0, qI1, qD1, fr, ⟨⟨hb.1, hb.2.1, by omega, hb.2.2.2⟩, I.2.1, nb_ent_app hE1 hn1 hs (Or.inr (Or.inr (Or.inl ⟨rfl, rfl, rfl, rfl⟩))), I.2.2.2⟩, fun post H => ?_, fun post H => ?_⟩
      · unfold wpX_learnSource
        refine nx_findEntry_n (by omega) hN (br_t rfl (hX _ (br_f (nb_m1 (by omega)) ?_)))
        rw [hc, nb_uu]
        exact ⟨hv, nm_e (nx_enterStale (by omega) H)⟩
      · unfold wY_receiveNS_38
        refine ny_findOwn_s (by omega) g hg gy gl (br_f (nb_nn (by omega)) ⟨hv8, br_f g3 ⟨hv8, br_f g1 (br_f hs0 (br_f h0 (ny_find_n (by omega) hN (br_f (by decide) (hY _ (br_f (nb_nn (by omega)) ?_)))))) ⟩⟩)
        rw [hc, nb_uu]
        refine ⟨hv, nm_e (ny_enterStale (by omega) ?_)⟩
        rw [nb_uu, nb_uu, nb_uu]
        exact H
  · have hi16 : i < 16 := by omega
    have hv : vp_in (nI i) 16 := nb_ix (by omega) (by omega)
    have hc := nb_cl (i := i) (by omega)
    have hm := nb_m1 (i := i) (by omega)
    have hn := nb_n0 (i := i) (by omega)
    have hei := hE.2.1 i hi
    have hl' : upd eL (nI i).toNatClampNeg l = upd eL i l := by rw [hc]
    by_cases h1 : eS i = 1
    · have h1' : eS (nI i).toNatClampNeg = 1 := by rw [hc]; exact h1
      obtain ⟨q, hq, hC⟩ := nb_ei_q hei
      have hL : eL i = 0 := by
        rcases hei with h | h | h | h | h
        · exact h.2.1
        · exact absurd (h.1.symm.trans h1) (by decide)
        · exact absurd (h.1.symm.trans h1) (by decide)
        · exact absurd (h.1.symm.trans h1) (by decide)
        · exact absurd (h.1.symm.trans h1) (by decide)
      have hLl : ¬ eL (nI i).toNatClampNeg = l := by
        rw [hc, hL]
        exact fun h => h0 h.symm
      obtain ⟨fn1, fr1, eS1, eT1, eP1, hd, hX, hY⟩ := nj_flush (cn := cn) (e := e) (o := o) (r := r) (rt := rt) (rx := rx) (ms := ms) (fn := fn) (pi := pi) (dr := dr) (eA := eA) (eS := upd eS i 3) (eL := upd eL i l) (eT := upd eT i 0) (eP := upd eP i 0) (qI := qI) (qD := qD) (oA := oA) (oS := oS) (oT := oT) (oP := oP) (rA := rA) (rM := rM) (fr := fr) (sn := sn) (i := i) (q := q) hi16 hq hC
      refine ⟨e, fn1, eA, eS1, upd eL i l, eT1, eP1, upd eC i 0, qI, qD, fr1, ⟨I.1, I.2.1, ?_, I.2.2.2⟩, fun post H => ?_, fun post H => ?_⟩
      · rcases hd with ⟨rfl, rfl, rfl⟩ | ⟨_, rfl, rfl, rfl⟩
        · refine nb_ent_up i hE ?_ (fun j hj => ⟨pk_un hj, pk_un hj, pk_un hj, pk_un hj, pk_un hj⟩)
          rw [pk_us, pk_us, pk_us, pk_us, pk_us]
          exact Or.inr (Or.inr (Or.inl ⟨rfl, rfl, rfl, rfl⟩))
        · refine nb_ent_up i hE ?_ (fun j hj => ⟨(pk_un hj).trans (pk_un hj), pk_un hj, (pk_un hj).trans (pk_un hj), (pk_un hj).trans (pk_un hj), pk_un hj⟩)
          rw [pk_us, pk_us, pk_us, pk_us, pk_us]
          exact Or.inr (Or.inr (Or.inr (Or.inl ⟨rfl, by decide, rfl, rfl⟩)))
      · unfold wpX_learnSource
        exact nx_findEntry_s (by omega) i hi hy hl (br_f hm ⟨hv, br_f hLl ⟨hv, nm_r hl' (nx_enterStale hi16 (hX _ H))⟩⟩)
      · unfold wY_receiveNS_38
        exact ny_findOwn_s (by omega) g hg gy gl (br_f (nb_nn (by omega)) ⟨hv8, br_f g3 ⟨hv8, br_f g1 (br_f hs0 (br_f h0 (ny_find_s (by omega) i hi hy hl (br_t hn ⟨hv, br_t h1' ⟨hv, nm_r hl' (ny_enterStale hi16 (hY _ H))⟩⟩)))) ⟩⟩)
    · have h1' : ¬ eS (nI i).toNatClampNeg = 1 := by rw [hc]; exact h1
      have hC0 := nb_ei_c0 hei h1
      by_cases hll : eL i = l
      · have hll' : eL (nI i).toNatClampNeg = l := by rw [hc]; exact hll
        refine ⟨e, fn, eA, eS, eL, eT, eP, eC, qI, qD, fr, I, fun post H => ?_, fun post H => ?_⟩
        · unfold wpX_learnSource
          exact nx_findEntry_s (by omega) i hi hy hl (br_f hm ⟨hv, br_t hll' H⟩)
        · unfold wY_receiveNS_38
          exact ny_findOwn_s (by omega) g hg gy gl (br_f (nb_nn (by omega)) ⟨hv8, br_f g3 ⟨hv8, br_f g1 (br_f hs0 (br_f h0 (ny_find_s (by omega) i hi hy hl (br_t hn ⟨hv, br_f h1' ⟨hv, br_t hll' H⟩⟩)))) ⟩⟩)
      · have hll' : ¬ eL (nI i).toNatClampNeg = l := by rw [hc]; exact hll
        refine ⟨e, fn, eA, upd eS i 3, upd eL i l, upd eT i 0, upd eP i 0, eC, qI, qD, fr, ⟨I.1, I.2.1, nb_ent_stale (nb_ent_link hE hi h1) hi h1, I.2.2.2⟩, fun post H => ?_, fun post H => ?_⟩
        · unfold wpX_learnSource
          exact nx_findEntry_s (by omega) i hi hy hl (br_f hm ⟨hv, br_f hll' ⟨hv, nm_r hl' (nx_enterStale hi16 (nx_flush_0 hi16 hC0 H))⟩⟩)
        · unfold wY_receiveNS_38
          exact ny_findOwn_s (by omega) g hg gy gl (br_f (nb_nn (by omega)) ⟨hv8, br_f g3 ⟨hv8, br_f g1 (br_f hs0 (br_f h0 (ny_find_s (by omega) i hi hy hl (br_t hn ⟨hv, br_f h1' ⟨hv, br_f hll' ⟨hv, nm_r hl' (ny_enterStale hi16 H)⟩⟩⟩)))) ⟩⟩)
end
section
variable {cn e o r : Nat} {rt rx ms fn pi dr : Int32} {eA eS eL eT eP eC qI qD oA oS oT oP rA rM fr sn : Nat → Int32}
theorem nj_ns (I : nb_inv cn e o r rt rx eA eS eL eT eP eC oA oS oT rA) {s t l : Int32} (hs : nb_oz s) (hsl : s = 0 → l = 0) :
    ∃ (e1 : Nat) (fn1 : Int32) (eA1 eS1 eL1 eT1 eP1 eC1 qI1 qD1 fr1 oS1 oT1 : Nat → Int32), nb_inv cn e1 o r rt rx eA1 eS1 eL1 eT1 eP1 eC1 oA oS1 oT1 rA ∧
    (∀ post : Int32 → SX → Prop, post 1 (nI cn, rt, rx, ms, nI e1, nI o, nI r, fn1, pi, dr, eA1, eS1, eL1, eT1, eP1, eC1, qI1, qD1, oA, oS1, oT1, oP, rA, rM, nb_fp 0 fr1, nb_fp 1 fr1, nb_fp 2 fr1, nb_fp 3 fr1, nb_fp 4 fr1) → wX_receiveNS_33 post s t l (nI cn) rt rx ms (nI e) (nI o) (nI r) fn pi dr eA eS eL eT eP eC qI qD oA oS oT oP rA rM (nb_fp 0 fr) (nb_fp 1 fr) (nb_fp 2 fr) (nb_fp 3 fr) (nb_fp 4 fr)) ∧
    (∀ post : Int32 → SY → Prop, post 1 (nI cn, rt, rx, ms, nI e1, nI o, nI r, fn1, pi, dr, eA1, eS1, eL1, eT1, eP1, eC1, qI1, qD1, sn, oA, oS1, oT1, oP, rA, rM, fr1) → wY_receiveNS_38 post s t l (nI cn) rt rx ms (nI e) (nI o) (nI r) fn pi dr eA eS eL eT eP eC qI qD sn oA oS oT oP rA rM fr) := by
  have hb := I.1
  rcases nb_find (fun j => oA j = t) o with hN | ⟨g, hg, gy, gl⟩
  · refine ⟨e, fn, eA, eS, eL, eT, eP, eC, qI, qD, fr, oS, oT, I, fun post H => ?_, fun post H => ?_⟩
    · unfold wX_receiveNS_33
      exact nx_findOwn_n (by omega) hN (br_t rfl H)
    · unfold wY_receiveNS_38
      exact ny_findOwn_n (by omega) hN (br_t (by decide) H)
  · have hv8 : vp_in (nI g) 8 := nb_ix (by omega) (by omega)
    have gc := nb_cl (i := g) (by omega)
    have hm := nb_m1 (i := g) (by omega)
    have hn := nb_nn (i := g) (by omega)
    rcases (I.2.2.2.1 g hg).2 with ⟨g1, _⟩ | g2 | g3
    · have x2 : ¬ oS (nI g).toNatClampNeg = 2 := by rw [gc, g1]; decide
      have x3 : ¬ oS (nI g).toNatClampNeg = 3 := by rw [gc, g1]; decide
      have x1 : oS (nI g).toNatClampNeg = 1 := by rw [gc, g1]
      by_cases hs0 : s = 0
      · refine ⟨e, fn, eA, eS, eL, eT, eP, eC, qI, qD, fr, upd oS g 3, upd oT g 0, ⟨I.1, I.2.1, I.2.2.1, nb_own_dup I.2.2.2.1, I.2.2.2.2⟩, fun post H => ?_, fun post H => ?_⟩
        · unfold wX_receiveNS_33
          exact nx_findOwn_s (by omega) g hg gy gl (br_f hm ⟨hv8, br_f x2 (br_t hs0 (nx_dup_1 (by omega) g1 H))⟩)
        · unfold wY_receiveNS_38
          refine ny_findOwn_s (by omega) g hg gy gl (br_f hn ⟨hv8, br_f x3 ⟨hv8, br_t x1 (br_t hs0 ?_)⟩⟩)
          rw [gc]
          exact ⟨hv8, nm_e ⟨hv8, nm_e H⟩⟩
      · refine ⟨e, fn, eA, eS, eL, eT, eP, eC, qI, qD, fr, oS, oT, I, fun post H => ?_, fun post H => ?_⟩
        · unfold wX_receiveNS_33
          exact nx_findOwn_s (by omega) g hg gy gl (br_f hm ⟨hv8, br_f x2 (br_f hs0 H)⟩)
        · unfold wY_receiveNS_38
          exact ny_findOwn_s (by omega) g hg gy gl (br_f hn ⟨hv8, br_f x3 ⟨hv8, br_t x1 (br_f hs0 H)⟩⟩)
    · have x2 : oS (nI g).toNatClampNeg = 2 := by rw [gc, g2]
      have x3 : ¬ oS (nI g).toNatClampNeg = 3 := by rw [gc, g2]; decide
      have x1 : ¬ oS (nI g).toNatClampNeg = 1 := by rw [gc, g2]; decide
      by_cases h0 : l = 0
      · refine ⟨e, fn + 1, eA, eS, eL, eT, eP, eC, qI, qD, nb_ev fr fn 4 t l 0 s, oS, oT, I, fun post H => ?_, fun post H => ?_⟩
        · unfold wX_receiveNS_33
          exact nx_findOwn_s (by omega) g hg gy gl (br_f hm ⟨hv8, br_t x2 (br_t h0 (nx_emit _ _ _ _ _ H))⟩)
        · unfold wY_receiveNS_38
          refine ny_findOwn_s (by omega) g hg gy gl (br_f hn ⟨hv8, br_f x3 ⟨hv8, br_f x1 ?_⟩⟩)
          by_cases hs0 : s = 0
          · refine br_t hs0 (ny_emit _ _ _ _ _ ?_)
            rw [hs0, h0] at H
            exact H
          · exact br_f hs0 (br_t h0 (ny_emit _ _ _ _ _ H))
      · have hs0 : ¬ s = 0 := fun h => h0 (hsl h)
        have hok : nb_ok s := by
          refine ⟨?_, hs.2⟩
          obtain ⟨j, hj, rfl⟩ := nI_of (x := s) (Int32.not_lt.mpr hs.1)
          have : j ≠ 0 := by
            intro h
            rw [h] at hs0
            exact hs0 rfl
          exact nI_le (a := 1) (by omega) hj
        obtain ⟨e1, fn1, eA1, eS1, eL1, eT1, eP1, eC1, qI1, qD1, fr1, I1, hX, hY⟩ := nj_learn (ms := ms) (fn := fn) (pi := pi) (dr := dr) (qI := qI) (qD := qD) (oP := oP) (rM := rM) (fr := fr) (sn := sn) (t := t) I hok h0 hg gy gl g2
        refine ⟨e1, fn1 + 1, eA1, eS1, eL1, eT1, eP1, eC1, qI1, qD1, nb_ev fr1 fn1 4 t l 0 s, oS, oT, I1, fun post H => ?_, fun post H => ?_⟩
        · unfold wX_receiveNS_33
          exact nx_findOwn_s (by omega) g hg gy gl (br_f hm ⟨hv8, br_t x2 (br_f h0 (hX _ (nx_emit _ _ _ _ _ H)))⟩)
        · exact hY _ (ny_emit _ _ _ _ _ H)
    · have x2 : ¬ oS (nI g).toNatClampNeg = 2 := by rw [gc, g3]; decide
      have x3 : oS (nI g).toNatClampNeg = 3 := by rw [gc, g3]
      refine ⟨e, fn, eA, eS, eL, eT, eP, eC, qI, qD, fr, oS, oT, I, fun post H => ?_, fun post H => ?_⟩
      · unfold wX_receiveNS_33
        refine nx_findOwn_s (by omega) g hg gy gl (br_f hm ⟨hv8, br_f x2 ?_⟩)
        by_cases hs0 : s = 0
        · exact br_t hs0 (nx_dup_n (by omega) (by rw [g3]; decide) H)
        · exact br_f hs0 H
      · unfold wY_receiveNS_38
        exact ny_findOwn_s (by omega) g hg gy gl (br_f hn ⟨hv8, br_t x3 H⟩)
end
theorem i_vc_receiveNS {k : Nat} {u : SX} {v : SY} (I : i_Rel k u v) (hk : k + 4 ≤ 2052) (v1 : Int32) (v2 : Int32) (v3 : Int32) : wpX_receiveNS (fun r u' => wpY_receiveNS (fun r' v' => r' = r ∧ i_Rel (k + 4) u' v') v v1 v2 v3) u v1 v2 v3 := by
  obtain ⟨cn, e, o, r, rt, rx, ms, fn, pi, dr, eA, eS, eL, eT, eP, eC, qI, qD, oA, oS, oT, oP, rA, rM, fr, sn, rfl, rfl, I⟩ := I
  have hR := nb_rel (k := k + 4) (ms := ms) (fn := fn) (pi := pi) (dr := dr) (qI := qI) (qD := qD) (oP := oP) (rM := rM) (fr := fr) (sn := sn) I
  have hb := I.1
  by_cases hv : nb_ok v2
  · by_cases hz1 : nb_oz v1
    · have a0 : ¬ v1 < 0 := Int32.not_lt.mpr hz1.1
      have a1 : ¬ 65535 < v1 := Int32.not_lt.mpr hz1.2
      by_cases hz3 : nb_oz v3
      · have b0 : ¬ v3 < 0 := Int32.not_lt.mpr hz3.1
        have b1 : ¬ 65535 < v3 := Int32.not_lt.mpr hz3.2
        by_cases hq : v1 = 0 → v3 = 0
        · obtain ⟨e1, fn1, eA1, eS1, eL1, eT1, eP1, eC1, qI1, qD1, fr1, oS1, oT1, I1, hX, hY⟩ := nj_ns (ms := ms) (fn := fn) (pi := pi) (dr := dr) (qI := qI) (qD := qD) (oP := oP) (rM := rM) (fr := fr) (sn := sn) (t := v2) (l := v3) I hz1 hq
          unfold wpX_receiveNS
          refine nx_valid_t hv (br_f (by decide) (nx_voz_t hz1 (br_f (by decide) (nx_voz_t hz3 (br_f (by decide) ?_)))))
          have G : ∀ post : Int32 → SX → Prop, wX_receiveNS_33 post v1 v2 v3 (nI cn) rt rx ms (nI e) (nI o) (nI r) fn pi dr eA eS eL eT eP eC qI qD oA oS oT oP rA rM (nb_fp 0 fr) (nb_fp 1 fr) (nb_fp 2 fr) (nb_fp 3 fr) (nb_fp 4 fr) → ((v1 = 0 → ((v3 = 0 → wX_receiveNS_33 post v1 v2 v3 (nI cn) rt rx ms (nI e) (nI o) (nI r) fn pi dr eA eS eL eT eP eC qI qD oA oS oT oP rA rM (nb_fp 0 fr) (nb_fp 1 fr) (nb_fp 2 fr) (nb_fp 3 fr) (nb_fp 4 fr)) ∧ (¬ v3 = 0 → post 0 (nI cn, rt, rx, ms, nI e, nI o, nI r, fn, pi, dr, eA, eS, eL, eT, eP, eC, qI, qD, oA, oS, oT, oP, rA, rM, nb_fp 0 fr, nb_fp 1 fr, nb_fp 2 fr, nb_fp 3 fr, nb_fp 4 fr)))) ∧ (¬ v1 = 0 → wX_receiveNS_33 post v1 v2 v3 (nI cn) rt rx ms (nI e) (nI o) (nI r) fn pi dr eA eS eL eT eP eC qI qD oA oS oT oP rA rM (nb_fp 0 fr) (nb_fp 1 fr) (nb_fp 2 fr) (nb_fp 3 fr) (nb_fp 4 fr))) := fun post H => br_c (fun h => br_t (hq h) H) (fun _ => H)
          refine G _ (hX _ ?_)
          unfold wpY_receiveNS
          refine ny_valid_t hv (br_f (by decide) (br_f a0 (br_f a1 (br_f b0 (br_f b1 ?_)))))
          exact br_c (fun h => br_t (hq h) (hY _ ⟨rfl, nb_rel I1⟩)) (fun _ => hY _ ⟨rfl, nb_rel I1⟩)
        · have c0 : v1 = 0 := Classical.byContradiction fun h => hq (fun h' => absurd h' h)
          have c1 : ¬ v3 = 0 := fun h => hq (fun _ => h)
          unfold wpX_receiveNS
          refine nx_valid_t hv (br_f (by decide) (nx_voz_t hz1 (br_f (by decide) (nx_voz_t hz3 (br_f (by decide) (br_t c0 (br_f c1 ?_)))))))
          unfold wpY_receiveNS
          exact ny_valid_t hv (br_f (by decide) (br_f a0 (br_f a1 (br_f b0 (br_f b1 (br_t c0 (br_f c1 ⟨rfl, hR⟩)))))))
      · unfold wpX_receiveNS
        refine nx_valid_t hv (br_f (by decide) (nx_voz_t hz1 (br_f (by decide) (nx_voz_f hz3 (br_t rfl ?_)))))
        unfold wpY_receiveNS
        refine ny_valid_t hv (br_f (by decide) (br_f a0 (br_f a1 ?_)))
        by_cases b0 : v3 < 0
        · exact br_t b0 ⟨rfl, hR⟩
        · exact br_f b0 (br_t (Int32.not_le.mp fun h => hz3 ⟨Int32.not_lt.mp b0, h⟩) ⟨rfl, hR⟩)
    · unfold wpX_receiveNS
      refine nx_valid_t hv (br_f (by decide) (nx_voz_f hz1 (br_t rfl ?_)))
      unfold wpY_receiveNS
      refine ny_valid_t hv (br_f (by decide) ?_)
      by_cases a0 : v1 < 0
      · exact br_t a0 ⟨rfl, hR⟩
      · exact br_f a0 (br_t (Int32.not_le.mp fun h => hz1 ⟨Int32.not_lt.mp a0, h⟩) ⟨rfl, hR⟩)
  · unfold wpX_receiveNS
    refine nx_valid_f hv (br_t rfl ?_)
    unfold wpY_receiveNS
    exact ny_valid_f hv (br_t rfl ⟨rfl, hR⟩)
