/-! advertisements -/
section
variable {cn e o r : Nat} {rt rx ms fn pi dr : Int32} {eA eS eL eT eP eC qI qD oA oS oT oP rA rM fr sn : Nat → Int32}
theorem nj_na (I : nb_inv cn e o r rt rx eA eS eL eT eP eC oA oS oT rA) {i : Nat} (hi : i < e) (l s w : Int32) : ∃ (fn1 : Int32) (fr1 eS1 eL1 eT1 eP1 eC1 : Nat → Int32), nb_ent e eA eS1 eL1 eT1 eP1 eC1 ∧
    (∀ post : Int32 → SX → Prop, post 1 (nI cn, rt, rx, ms, nI e, nI o, nI r, fn1, pi, dr, eA, eS1, eL1, eT1, eP1, eC1, qI, qD, oA, oS, oT, oP, rA, rM, nb_fp 0 fr1, nb_fp 1 fr1, nb_fp 2 fr1, nb_fp 3 fr1, nb_fp 4 fr1) → wX_receiveNA_76 post l (nI i) s w (nI cn) rt rx ms (nI e) (nI o) (nI r) fn pi dr eA eS eL eT eP eC qI qD oA oS oT oP rA rM (nb_fp 0 fr) (nb_fp 1 fr) (nb_fp 2 fr) (nb_fp 3 fr) (nb_fp 4 fr)) ∧
    (∀ post : Int32 → SY → Prop, post 1 (nI cn, rt, rx, ms, nI e, nI o, nI r, fn1, pi, dr, eA, eS1, eL1, eT1, eP1, eC1, qI, qD, sn, oA, oS, oT, oP, rA, rM, fr1) → wY_receiveNA_99 post l (nI i) s w (nI cn) rt rx ms (nI e) (nI o) (nI r) fn pi dr eA eS eL eT eP eC qI qD sn oA oS oT oP rA rM fr) := by
  have hb := I.1
  have hE := I.2.2.1
  have hi16 : i < 16 := by omega
  have hv : vp_in (nI i) 16 := nb_ix (by omega) (by omega)
  have hc := nb_cl (i := i) (by omega)
  have hei := hE.2.1 i hi
  by_cases h1 : eS i = 1
  · have h1' : eS (nI i).toNatClampNeg = 1 := by rw [hc]; exact h1
    by_cases h0 : l = 0
    · refine ⟨fn, fr, eS, eL, eT, eP, eC, hE, fun post H => ⟨hv, br_t h1' (br_t h0 H)⟩, fun post H => ⟨hv, br_t h1' (br_t h0 H)⟩⟩
    · obtain ⟨q, hq, hC⟩ := nb_ei_q hei
      have hl' : upd eL (nI i).toNatClampNeg l = upd eL i l := by rw [hc]
      by_cases hs : s = 0
      · obtain ⟨fn1, fr1, eS1, eT1, eP1, hd, hX, hY⟩ := nj_flush (cn := cn) (e := e) (o := o) (r := r) (rt := rt) (rx := rx) (ms := ms) (fn := fn) (pi := pi) (dr := dr) (eA := eA) (eS := upd eS i 3) (eL := upd eL i l) (eT := upd eT i 0) (eP := upd eP i 0) (qI := qI) (qD := qD) (oA := oA) (oS := oS) (oT := oT) (oP := oP) (rA := rA) (rM := rM) (fr := fr) (sn := sn) (i := i) (q := q) hi16 hq hC
        refine ⟨fn1, fr1, eS1, upd eL i l, eT1, eP1, upd eC i 0, ?_, fun post H => ⟨hv, br_t h1' (br_f h0 ⟨hv, nm_r hl' (br_t hs (nx_enterStale hi16 (hX _ H)))⟩)⟩, fun post H => ⟨hv, br_t h1' (br_f h0 ⟨hv, nm_r hl' (br_t hs (ny_enterStale hi16 (hY _ H)))⟩)⟩⟩
        rcases hd with ⟨rfl, rfl, rfl⟩ | ⟨_, rfl, rfl, rfl⟩
        · refine nb_ent_up i hE ?_ (fun j hj => ⟨pk_un hj, pk_un hj, pk_un hj, pk_un hj, pk_un hj⟩)
          rw [pk_us, pk_us, pk_us, pk_us, pk_us]
          exact Or.inr (Or.inr (Or.inl ⟨rfl, rfl, rfl, rfl⟩))
        · refine nb_ent_up i hE ?_ (fun j hj => ⟨(pk_un hj).trans (pk_un hj), pk_un hj, (pk_un hj).trans (pk_un hj), (pk_un hj).trans (pk_un hj), pk_un hj⟩)
          rw [pk_us, pk_us, pk_us, pk_us, pk_us]
          exact Or.inr (Or.inr (Or.inr (Or.inl ⟨rfl, by decide, rfl, rfl⟩)))
      · obtain ⟨fn1, fr1, eS1, eT1, eP1, hd, hX, hY⟩ := nj_flush (cn := cn) (e := e) (o := o) (r := r) (rt := rt) (rx := rx) (ms := ms) (fn := fn) (pi := pi) (dr := dr) (eA := eA) (eS := upd eS i 2) (eL := upd eL i l) (eT := upd eT i rt) (eP := upd eP i 0) (qI := qI) (qD := qD) (oA := oA) (oS := oS) (oT := oT) (oP := oP) (rA := rA) (rM := rM) (fr := fr) (sn := sn) (i := i) (q := q) hi16 hq hC
        refine ⟨fn1, fr1, eS1, upd eL i l, eT1, eP1, upd eC i 0, ?_, fun post H => ⟨hv, br_t h1' (br_f h0 ⟨hv, nm_r hl' (br_f hs (nx_enterReachable hi16 (hX _ H)))⟩)⟩, fun post H => ⟨hv, br_t h1' (br_f h0 ⟨hv, nm_r hl' (br_f hs (ny_enterReachable hi16 (hY _ H)))⟩)⟩⟩
        rcases hd with ⟨rfl, rfl, rfl⟩ | ⟨h3, _⟩
        · refine nb_ent_up i hE ?_ (fun j hj => ⟨pk_un hj, pk_un hj, pk_un hj, pk_un hj, pk_un hj⟩)
          rw [pk_us, pk_us, pk_us, pk_us, pk_us]
          exact Or.inr (Or.inl ⟨rfl, I.2.1.1, rfl, rfl⟩)
        · rw [pk_us] at h3
          exact absurd h3 (by decide)
  · have h1' : ¬ eS (nI i).toNatClampNeg = 1 := by rw [hc]; exact h1
    by_cases hd : l = 0 ∨ l = eL i
    · have hX0 : ∀ post : SX → Prop, wX_updateByAdvertisement_19 post (nI i) l s w 0 (nI cn) rt rx ms (nI e) (nI o) (nI r) fn pi dr eA eS eL eT eP eC qI qD oA oS oT oP rA rM (nb_fp 0 fr) (nb_fp 1 fr) (nb_fp 2 fr) (nb_fp 3 fr) (nb_fp 4 fr) → wpX_updateByAdvertisement post (nI cn, rt, rx, ms, nI e, nI o, nI r, fn, pi, dr, eA, eS, eL, eT, eP, eC, qI, qD, oA, oS, oT, oP, rA, rM, nb_fp 0 fr, nb_fp 1 fr, nb_fp 2 fr, nb_fp 3 fr, nb_fp 4 fr) (nI i) l s w := by
        intro post H
        unfold wpX_updateByAdvertisement
        by_cases h0 : l = 0
        · exact br_t h0 H
        · rcases hd with h | h
          · exact absurd h h0
          · exact br_f h0 ⟨hv, br_t (by rw [hc]; exact h) H⟩
      have hY0 : ∀ post : Int32 → SY → Prop, wY_receiveNA_174 post l (nI i) s w 0 (nI cn) rt rx ms (nI e) (nI o) (nI r) fn pi dr eA eS eL eT eP eC qI qD sn oA oS oT oP rA rM fr → wY_receiveNA_99 post l (nI i) s w (nI cn) rt rx ms (nI e) (nI o) (nI r) fn pi dr eA eS eL eT eP eC qI qD sn oA oS oT oP rA rM fr := by
        intro post H
        unfold wY_receiveNA_99
        refine ⟨hv, br_f h1' ?_⟩
        by_cases h0 : l = 0
        · exact br_t h0 H
        · rcases hd with h | h
          · exact absurd h h0
          · exact br_f h0 ⟨hv, br_t (by rw [hc]; exact h) H⟩
      by_cases hs : s = 0
      · refine ⟨fn, fr, eS, eL, eT, eP, eC, hE, fun post H => ⟨hv, br_f h1' (hX0 _ (br_t rfl (br_t rfl (br_t hs (br_t rfl H)))))⟩, fun post H => hY0 _ ?_⟩
        have A : wY_receiveNA_206 post l (nI i) s 0 (nI cn) rt rx ms (nI e) (nI o) (nI r) fn pi dr eA eS eL eT eP eC qI qD sn oA oS oT oP rA rM fr := br_t rfl (br_t hs (br_t rfl H))
        exact br_c (fun _ => br_t rfl A) (fun _ => A)
      · refine ⟨fn, fr, upd eS i 2, eL, upd eT i rt, upd eP i 0, eC, nb_ent_reach hE hi h1 I.2.1.1, fun post H => ⟨hv, br_f h1' (hX0 _ (br_t rfl (br_t rfl (br_f hs (nx_enterReachable hi16 H)))))⟩, fun post H => hY0 _ ?_⟩
        have A : wY_receiveNA_206 post l (nI i) s 0 (nI cn) rt rx ms (nI e) (nI o) (nI r) fn pi dr eA eS eL eT eP eC qI qD sn oA oS oT oP rA rM fr := br_t rfl (br_f hs (ny_enterReachable hi16 H))
        exact br_c (fun _ => br_t rfl A) (fun _ => A)
    · have hX1 : ∀ post : SX → Prop, wX_updateByAdvertisement_19 post (nI i) l s w 1 (nI cn) rt rx ms (nI e) (nI o) (nI r) fn pi dr eA eS eL eT eP eC qI qD oA oS oT oP rA rM (nb_fp 0 fr) (nb_fp 1 fr) (nb_fp 2 fr) (nb_fp 3 fr) (nb_fp 4 fr) → wpX_updateByAdvertisement post (nI cn, rt, rx, ms, nI e, nI o, nI r, fn, pi, dr, eA, eS, eL, eT, eP, eC, qI, qD, oA, oS, oT, oP, rA, rM, nb_fp 0 fr, nb_fp 1 fr, nb_fp 2 fr, nb_fp 3 fr, nb_fp 4 fr) (nI i) l s w := by
        intro post H
        unfold wpX_updateByAdvertisement
        exact br_f (fun h => hd (Or.inl h)) ⟨hv, br_f (by rw [hc]; exact fun h => hd (Or.inr h)) H⟩
      have hY1 : ∀ post : Int32 → SY → Prop, wY_receiveNA_174 post l (nI i) s w 1 (nI cn) rt rx ms (nI e) (nI o) (nI r) fn pi dr eA eS eL eT eP eC qI qD sn oA oS oT oP rA rM fr → wY_receiveNA_99 post l (nI i) s w (nI cn) rt rx ms (nI e) (nI o) (nI r) fn pi dr eA eS eL eT eP eC qI qD sn oA oS oT oP rA rM fr := by
        intro post H
        unfold wY_receiveNA_99
        exact ⟨hv, br_f h1' (br_f (fun h => hd (Or.inl h)) ⟨hv, br_f (by rw [hc]; exact fun h => hd (Or.inr h)) H⟩)⟩
      by_cases hw : w = 0
      · by_cases h2 : eS i = 2
        · have h2' : eS (nI i).toNatClampNeg = 2 := by rw [hc]; exact h2
          exact ⟨fn, fr, upd eS i 3, eL, upd eT i 0, upd eP i 0, eC, nb_ent_stale hE hi h1, fun post H => ⟨hv, br_f h1' (hX1 _ (br_f (by decide) (br_t hw ⟨hv, br_t h2' (nx_enterStale hi16 H)⟩)))⟩, fun post H => hY1 _ (br_t hw (br_f (by decide) ⟨hv, br_t h2' (ny_enterStale hi16 H)⟩))⟩
        · have h2' : ¬ eS (nI i).toNatClampNeg = 2 := by rw [hc]; exact h2
          exact ⟨fn, fr, eS, eL, eT, eP, eC, hE, fun post H => ⟨hv, br_f h1' (hX1 _ (br_f (by decide) (br_t hw ⟨hv, br_f h2' H⟩)))⟩, fun post H => hY1 _ (br_t hw (br_f (by decide) ⟨hv, br_f h2' H⟩))⟩
      · have hl' : upd eL (nI i).toNatClampNeg l = upd eL i l := by rw [hc]
        by_cases hs : s = 0
        · exact ⟨fn, fr, upd eS i 3, upd eL i l, upd eT i 0, upd eP i 0, eC, nb_ent_stale (nb_ent_link hE hi h1) hi h1, fun post H => ⟨hv, br_f h1' (hX1 _ (br_f (by decide) (br_f hw (br_f (by decide) ⟨hv, nm_r hl' (br_t hs (br_f (by decide) (nx_enterStale hi16 H)))⟩))))⟩, fun post H => hY1 _ (br_f hw (br_f (by decide) ⟨hv, nm_r hl' (br_t hs (br_f (by decide) (ny_enterStale hi16 H)))⟩))⟩
        · exact ⟨fn, fr, upd eS i 2, upd eL i l, upd eT i rt, upd eP i 0, eC, nb_ent_reach (nb_ent_link hE hi h1) hi h1 I.2.1.1, fun post H => ⟨hv, br_f h1' (hX1 _ (br_f (by decide) (br_f hw (br_f (by decide) ⟨hv, nm_r hl' (br_f hs (nx_enterReachable hi16 H))⟩))))⟩, fun post H => hY1 _ (br_f hw (br_f (by decide) ⟨hv, nm_r hl' (br_f hs (ny_enterReachable hi16 H))⟩))⟩
theorem nx_dup_1 {post : SX → Prop} {i : Nat} (hi : i < 8) (h : oS i = 1) (H : post (nI cn, rt, rx, ms, nI e, nI o, nI r, fn, pi, dr, eA, eS, eL, eT, eP, eC, qI, qD, oA, upd oS i 3, upd oT i 0, oP, rA, rM, nb_fp 0 fr, nb_fp 1 fr, nb_fp 2 fr, nb_fp 3 fr, nb_fp 4 fr)) : wpX_becomeDuplicateIfTentative post (nI cn, rt, rx, ms, nI e, nI o, nI r, fn, pi, dr, eA, eS, eL, eT, eP, eC, qI, qD, oA, oS, oT, oP, rA, rM, nb_fp 0 fr, nb_fp 1 fr, nb_fp 2 fr, nb_fp 3 fr, nb_fp 4 fr) (nI i) := by
  have hv : vp_in (nI i) 8 := nb_ix hi (by omega)
  unfold wpX_becomeDuplicateIfTentative
  rw [nb_cl (by omega)]
  exact ⟨hv, br_t h ⟨hv, nm_e ⟨hv, nm_e H⟩⟩⟩
theorem nx_dup_n {post : SX → Prop} {i : Nat} (hi : i < 8) (h : ¬ oS i = 1) (H : post (nI cn, rt, rx, ms, nI e, nI o, nI r, fn, pi, dr, eA, eS, eL, eT, eP, eC, qI, qD, oA, oS, oT, oP, rA, rM, nb_fp 0 fr, nb_fp 1 fr, nb_fp 2 fr, nb_fp 3 fr, nb_fp 4 fr)) : wpX_becomeDuplicateIfTentative post (nI cn, rt, rx, ms, nI e, nI o, nI r, fn, pi, dr, eA, eS, eL, eT, eP, eC, qI, qD, oA, oS, oT, oP, rA, rM, nb_fp 0 fr, nb_fp 1 fr, nb_fp 2 fr, nb_fp 3 fr, nb_fp 4 fr) (nI i) := by
  have hv : vp_in (nI i) 8 := nb_ix hi (by omega)
  unfold wpX_becomeDuplicateIfTentative
  rw [nb_cl (by omega)]
  exact ⟨hv, br_f h H⟩
end
theorem nb_own_dup {o i : Nat} {oA oS oT : Nat → Int32} (h : nb_own o oA oS oT) : nb_own o oA (upd oS i 3) (upd oT i 0) := by
  refine nb_own_up i h (Or.inr (Or.inr pk_us)) (fun j hj => ⟨pk_un hj, pk_un hj⟩)
theorem i_vc_receiveNA {k : Nat} {u : SX} {v : SY} (I : i_Rel k u v) (hk : k + 4 ≤ 2052) (v1 : Int32) (v2 : Int32) (v3 : Int32) : wpX_receiveNA (fun r u' => wpY_receiveNA (fun r' v' => r' = r ∧ i_Rel (k + 4) u' v') v v1 v2 v3) u v1 v2 v3 := by
  obtain ⟨cn, e, o, r, rt, rx, ms, fn, pi, dr, eA, eS, eL, eT, eP, eC, qI, qD, oA, oS, oT, oP, rA, rM, fr, sn, rfl, rfl, I⟩ := I
  have hR := nb_rel (k := k + 4) (ms := ms) (fn := fn) (pi := pi) (dr := dr) (qI := qI) (qD := qD) (oP := oP) (rM := rM) (fr := fr) (sn := sn) I
  have hb := I.1
  by_cases hv : nb_ok v1
  · by_cases hz : nb_oz v2
    · have z0 : ¬ v2 < 0 := Int32.not_lt.mpr hz.1
      rcases nb_find (fun j => oA j = v1) o with hN | ⟨i, hi, hy, hl⟩
      · rcases nb_find (fun j => eA j = v1) e with eN | ⟨i, hi, hy, hl⟩
        · unfold wpX_receiveNA
          refine nx_valid_t hv (br_f (by decide) (nx_voz_t hz (br_f (by decide) (nx_findOwn_n (by omega) hN (br_t rfl (nx_findEntry_n (by omega) eN (br_t rfl ?_)))))))
          unfold wpY_receiveNA
          exact ny_valid_t hv (br_f (by decide) (br_f z0 (br_t hz.2 (ny_findOwn_n (by omega) hN (br_t (by decide) (ny_find_n (by omega) eN (br_f (by decide) ⟨rfl, hR⟩)))))))
        · have hX0 : ∀ (post : Int32 → SX → Prop), (∀ s w, (s = if v3 &&& 1 = 0 then 0 else 1) → (w = if v3 &&& 2 = 0 then 0 else 1) → wX_receiveNA_76 post v2 (nI i) s w (nI cn) rt rx ms (nI e) (nI o) (nI r) fn pi dr eA eS eL eT eP eC qI qD oA oS oT oP rA rM (nb_fp 0 fr) (nb_fp 1 fr) (nb_fp 2 fr) (nb_fp 3 fr) (nb_fp 4 fr)) → wpX_receiveNA post (nI cn, rt, rx, ms, nI e, nI o, nI r, fn, pi, dr, eA, eS, eL, eT, eP, eC, qI, qD, oA, oS, oT, oP, rA, rM, nb_fp 0 fr, nb_fp 1 fr, nb_fp 2 fr, nb_fp 3 fr, nb_fp 4 fr) v1 v2 v3 := by
            intro post H
            unfold wpX_receiveNA
            refine nx_valid_t hv (br_f (by decide) (nx_voz_t hz (br_f (by decide) (nx_findOwn_n (by omega) hN (br_t rfl (nx_findEntry_s (by omega) i hi hy hl (br_f (nb_m1 (by omega)) ?_)))))))
            exact br_c (fun a => br_c (fun b => H _ _ (if_pos a).symm (if_pos b).symm) (fun b => H _ _ (if_pos a).symm (if_neg b).symm)) (fun a => br_c (fun b => H _ _ (if_neg a).symm (if_pos b).symm) (fun b => H _ _ (if_neg a).symm (if_neg b).symm))
          have hY0 : ∀ (post : Int32 → SY → Prop), (∀ s w, (s = if v3 &&& 1 = 0 then 0 else 1) → (w = if v3 &&& 2 = 0 then 0 else 1) → wY_receiveNA_99 post v2 (nI i) s w (nI cn) rt rx ms (nI e) (nI o) (nI r) fn pi dr eA eS eL eT eP eC qI qD sn oA oS oT oP rA rM fr) → wpY_receiveNA post (nI cn, rt, rx, ms, nI e, nI o, nI r, fn, pi, dr, eA, eS, eL, eT, eP, eC, qI, qD, sn, oA, oS, oT, oP, rA, rM, fr) v1 v2 v3 := by
            intro post H
            unfold wpY_receiveNA
            refine ny_valid_t hv (br_f (by decide) (br_f z0 (br_t hz.2 (ny_findOwn_n (by omega) hN (br_t (by decide) (ny_find_s (by omega) i hi hy hl (br_t (nb_n0 (by omega)) ?_)))))))
            exact br_c (fun a => br_c (fun b => H _ _ (if_pos a).symm (if_pos b).symm) (fun b => H _ _ (if_pos a).symm (if_neg b).symm)) (fun a => br_c (fun b => H _ _ (if_neg a).symm (if_pos b).symm) (fun b => H _ _ (if_neg a).symm (if_neg b).symm))
          obtain ⟨fn1, fr1, eS1, eL1, eT1, eP1, eC1, E1, hX, hY⟩ := nj_na (ms := ms) (fn := fn) (pi := pi) (dr := dr) (qI := qI) (qD := qD) (oP := oP) (rM := rM) (fr := fr) (sn := sn) I hi v2 (if v3 &&& 1 = 0 then 0 else 1) (if v3 &&& 2 = 0 then 0 else 1)
          refine hX0 _ (fun s w es ew => ?_)
          rw [es, ew]
          refine hX _ (hY0 _ (fun s w es ew => ?_))
          rw [es, ew]
          exact hY _ ⟨rfl, nb_rel ⟨I.1, I.2.1, E1, I.2.2.2⟩⟩
      · have hv8 : vp_in (nI i) 8 := nb_ix (by omega) (by omega)
        have hc := nb_cl (i := i) (by omega)
        by_cases h1 : oS i = 1
        · have hX : ∀ post : Int32 → SX → Prop, post 1 (nI cn, rt, rx, ms, nI e, nI o, nI r, fn, pi, dr, eA, eS, eL, eT, eP, eC, qI, qD, oA, upd oS i 3, upd oT i 0, oP, rA, rM, nb_fp 0 fr, nb_fp 1 fr, nb_fp 2 fr, nb_fp 3 fr, nb_fp 4 fr) → wpX_receiveNA post (nI cn, rt, rx, ms, nI e, nI o, nI r, fn, pi, dr, eA, eS, eL, eT, eP, eC, qI, qD, oA, oS, oT, oP, rA, rM, nb_fp 0 fr, nb_fp 1 fr, nb_fp 2 fr, nb_fp 3 fr, nb_fp 4 fr) v1 v2 v3 := by
            intro post H
            unfold wpX_receiveNA
            exact nx_valid_t hv (br_f (by decide) (nx_voz_t hz (br_f (by decide) (nx_findOwn_s (by omega) i hi hy hl (br_f (nb_m1 (by omega)) (nx_dup_1 (by omega) h1 H))))))
          have hY : ∀ post : Int32 → SY → Prop, post 1 (nI cn, rt, rx, ms, nI e, nI o, nI r, fn, pi, dr, eA, eS, eL, eT, eP, eC, qI, qD, sn, oA, upd oS i 3, upd oT i 0, oP, rA, rM, fr) → wpY_receiveNA post (nI cn, rt, rx, ms, nI e, nI o, nI r, fn, pi, dr, eA, eS, eL, eT, eP, eC, qI, qD, sn, oA, oS, oT, oP, rA, rM, fr) v1 v2 v3 := by
            intro post H
            unfold wpY_receiveNA
            refine ny_valid_t hv (br_f (by decide) (br_f z0 (br_t hz.2 (ny_findOwn_s (by omega) i hi hy hl (br_f (nb_nn (by omega)) ?_)))))
            rw [hc]
            exact ⟨hv8, br_t h1 ⟨hv8, nm_e ⟨hv8, nm_e H⟩⟩⟩
          exact hX _ (hY _ ⟨rfl, nb_rel ⟨I.1, I.2.1, I.2.2.1, nb_own_dup I.2.2.2.1, I.2.2.2.2⟩⟩)
        · unfold wpX_receiveNA
          refine nx_valid_t hv (br_f (by decide) (nx_voz_t hz (br_f (by decide) (nx_findOwn_s (by omega) i hi hy hl (br_f (nb_m1 (by omega)) (nx_dup_n (by omega) h1 ?_))))))
          unfold wpY_receiveNA
          refine ny_valid_t hv (br_f (by decide) (br_f z0 (br_t hz.2 (ny_findOwn_s (by omega) i hi hy hl (br_f (nb_nn (by omega)) ?_)))))
          exact ⟨hv8, br_f (by rw [hc]; exact h1) ⟨rfl, hR⟩⟩
    · unfold wpX_receiveNA
      refine nx_valid_t hv (br_f (by decide) (nx_voz_f hz (br_t rfl ?_)))
      unfold wpY_receiveNA
      refine ny_valid_t hv (br_f (by decide) ?_)
      by_cases z0 : v2 < 0
      · exact br_t z0 ⟨rfl, hR⟩
      · exact br_f z0 (br_f (fun h => hz ⟨Int32.not_lt.mp z0, h⟩) ⟨rfl, hR⟩)
  · unfold wpX_receiveNA
    refine nx_valid_f hv (br_t rfl ?_)
    unfold wpY_receiveNA
    exact ny_valid_f hv (br_t rfl ⟨rfl, hR⟩)
