/-! the clock: all entries -/
theorem nb_ei_T {S L T P C : Int32} (h : nb_ei S L T P C) (h3 : ¬ S = 3) : 0 < T := by
  rcases h with h | h | h | h | h
  · exact h.2.2.1
  · exact h.2.1
  · exact absurd h.1 h3
  · exact h.2.1
  · exact h.2.1
theorem nb_ei_t {S L T P C T' : Int32} (h : nb_ei S L T P C) (h3 : ¬ S = 3) (hT : 0 < T') : nb_ei S L T' P C := by
  rcases h with h | h | h | h | h
  · exact Or.inl ⟨h.1, h.2.1, hT, h.2.2.2⟩
  · exact Or.inr (Or.inl ⟨h.1, hT, h.2.2⟩)
  · exact absurd h.1 h3
  · exact Or.inr (Or.inr (Or.inr (Or.inl ⟨h.1, hT, h.2.2⟩)))
  · exact Or.inr (Or.inr (Or.inr (Or.inr ⟨h.1, hT, h.2.2⟩)))
theorem nb_ent_fail {m p : Nat} {eA eS eL eT eP eC : Nat → Int32} {x : Int32} (E : nb_ent (m + 1) eA eS eL eT eP eC) (hp : p ≤ m) : nb_ent m (nb_sh p m eA) (nb_sh p m eS) (nb_sh p m eL) (nb_sh p m (upd eT p x)) (nb_sh p m eP) (nb_sh p m eC) := by
  have h := nb_ent_del E hp
  refine ⟨h.1, fun j hj => ?_, h.2.2⟩
  have e1 : nb_sh p m (upd eT p x) j = nb_sh p m eT j := by
    by_cases hk : p ≤ j
    · rw [nb_sh_in _ hk hj, nb_sh_in _ hk hj]
      exact pk_un (by omega)
    · rw [nb_sh_lt _ (by omega), nb_sh_lt _ (by omega)]
      exact pk_un (by omega)
  rw [e1]
  exact h.2.1 j hj
section
variable {cn e o r : Nat} {rt rx ms fn pi dr : Int32} {eA eS eL eT eP eC qI qD oA oS oT oP rA rM fr sn : Nat → Int32}
theorem nj_tick {nn : Nat} (hnn : nn ≤ 16) (hr : r ≤ 4) (hx : 0 < rx) : ∀ d s p : Nat, s + d = nn → ∀ (e : Nat) (fn dr : Int32) (eA eS eL eT eP eC qI qD rM fr : Nat → Int32), e = p + d → e ≤ 16 → (∀ j, j < d → eA (p + j) = sn (s + j)) → nb_ent e eA eS eL eT eP eC →
    ∃ (e1 : Nat) (fn1 dr1 : Int32) (eA1 eS1 eL1 eT1 eP1 eC1 qI1 qD1 rM1 fr1 : Nat → Int32), e1 ≤ e ∧ nb_ent e1 eA1 eS1 eL1 eT1 eP1 eC1 ∧
    (∀ post : SX → Prop, (∃ n, wX_tick_37 post n 0 (nI cn) rt rx ms (nI e1) (nI o) (nI r) fn1 pi dr1 eA1 eS1 eL1 eT1 eP1 eC1 qI1 qD1 oA oS oT oP rA rM1 (nb_fp 0 fr1) (nb_fp 1 fr1) (nb_fp 2 fr1) (nb_fp 3 fr1) (nb_fp 4 fr1)) → wX_tick_9 post (nI nn) (d + 1) (nI p) (nI s) (nI cn) rt rx ms (nI e) (nI o) (nI r) fn pi dr eA eS eL eT eP eC qI qD oA oS oT oP rA rM (nb_fp 0 fr) (nb_fp 1 fr) (nb_fp 2 fr) (nb_fp 3 fr) (nb_fp 4 fr)) ∧
    (∀ post : SY → Prop, (∃ n, wY_tick_308 post n 0 (nI cn) rt rx ms (nI e1) (nI o) (nI r) fn1 pi dr1 eA1 eS1 eL1 eT1 eP1 eC1 qI1 qD1 sn oA oS oT oP rA rM1 fr1) → wY_tick_32 post (nI nn) (d + 1) (nI s) (nI cn) rt rx ms (nI e) (nI o) (nI r) fn pi dr eA eS eL eT eP eC qI qD sn oA oS oT oP rA rM fr) := by
  intro d
  induction d with
  | zero =>
    intro s p hs e fn dr eA eS eL eT eP eC qI qD rM fr hep he hal E
    exact ⟨e, fn, dr, eA, eS, eL, eT, eP, eC, qI, qD, rM, fr, by omega, E, fun post H => br_t (nI_le (by omega) (by omega)) H, fun post H => br_t (nI_le (by omega) (by omega)) H⟩
  | succ d ih =>
    intro s p hs e fn dr eA eS eL eT eP eC qI qD rM fr hep he hal E
    obtain rfl : e = p + d + 1 := by omega
    have hpe : p < p + d + 1 := by omega
    have hsn : s < nn := by omega
    have hy : eA p = sn s := hal 0 (by omega)
    have hl : ∀ j, j < p → ¬ eA j = sn s := by
      intro j hj h
      have := E.2.2 j p (by omega) (by omega) (h.trans hy.symm)
      omega
    have hal' : ∀ j, j < d → eA (p + 1 + j) = sn (s + 1 + j) := by
      intro j hj
      have h := hal (j + 1) (by omega)
      rw [show p + (j + 1) = p + 1 + j from by omega, show s + (j + 1) = s + 1 + j from by omega] at h
      exact h
    have halF : ∀ j, j < d → nb_sh p (p + d) eA (p + j) = sn (s + 1 + j) := by
      intro j hj
      rw [nb_sh_in eA (by omega) (by omega), ← hal' j hj]
      exact congrArg eA (by omega)
    have hei := E.2.1 p hpe
    by_cases h3 : eS p = 3
    · obtain ⟨e1, fn1, dr1, eA1, eS1, eL1, eT1, eP1, eC1, qI1, qD1, rM1, fr1, le1, E1, hX, hY⟩ := ih (s + 1) (p + 1) (by omega) (p + d + 1) fn dr eA eS eL eT eP eC qI qD rM fr (by omega) (by omega) hal' E
      exact ⟨e1, fn1, dr1, eA1, eS1, eL1, eT1, eP1, eC1, qI1, qD1, rM1, fr1, by omega, E1, fun post H => br_f (nI_ge hsn (by omega)) (nx_age_3 (by omega) h3 (br_f (by decide) (nm_r (nI_1 p) (nm_r (nI_1 s) (hX post H))))), fun post H => ny_t_3 hsn hnn hpe he hy hl h3 (hY post H)⟩
    · rcases nb_dec (nb_ei_T hei h3) with ⟨p0, z0, l0⟩ | hz
      · obtain ⟨e1, fn1, dr1, eA1, eS1, eL1, eT1, eP1, eC1, qI1, qD1, rM1, fr1, le1, E1, hX, hY⟩ := ih (s + 1) (p + 1) (by omega) (p + d + 1) fn dr eA eS eL (upd eT p (eT p - 1)) eP eC qI qD rM fr (by omega) (by omega) hal' (nb_ent_up p E (by rw [pk_us]; exact nb_ei_t hei h3 p0) (fun j hj => ⟨rfl, rfl, pk_un hj, rfl, rfl⟩))
        exact ⟨e1, fn1, dr1, eA1, eS1, eL1, eT1, eP1, eC1, qI1, qD1, rM1, fr1, by omega, E1, fun post H => br_f (nI_ge hsn (by omega)) (nx_age_t (by omega) h3 l0 (br_f (by decide) (nm_r (nI_1 p) (nm_r (nI_1 s) (hX post H))))), fun post H => ny_t_t hsn hnn hpe he hy hl h3 z0 (hY post H)⟩
      · rcases hei with h1 | h2 | h | h4 | h5
        · by_cases hm : eP p < ms
          · obtain ⟨e1, fn1, dr1, eA1, eS1, eL1, eT1, eP1, eC1, qI1, qD1, rM1, fr1, le1, E1, hX, hY⟩ := ih (s + 1) (p + 1) (by omega) (p + d + 1) (fn + 1) dr eA eS eL (upd (upd eT p (eT p - 1)) p rx) (upd eP p (eP p + 1)) eC qI qD rM (nb_ev fr fn 1 (eA p) 0 0 0) (by omega) (by omega) hal' (nb_ent_up p E (by rw [pk_us]; exact Or.inl ⟨h1.1, h1.2.1, hx, h1.2.2.2⟩) (fun j hj => ⟨rfl, rfl, (pk_un hj).trans (pk_un hj), pk_un hj, rfl⟩))
            exact ⟨e1, fn1, dr1, eA1, eS1, eL1, eT1, eP1, eC1, qI1, qD1, rM1, fr1, by omega, E1, fun post H => br_f (nI_ge hsn (by omega)) (nx_age_s1 (by omega) h1.1 hz hm (br_f (by decide) (nm_r (nI_1 p) (nm_r (nI_1 s) (hX post H))))), fun post H => ny_t_s1 hsn hnn hpe he hy hl h1.1 hz (Int32.not_le.mpr hm) (hY post H)⟩
          · have hk1 := h1.1
            rcases nb_find (fun j => rA j = eA p) r with hN | ⟨g, hg, gy, gl⟩
            · obtain ⟨e1, fn1, dr1, eA1, eS1, eL1, eT1, eP1, eC1, qI1, qD1, rM1, fr1, le1, E1, hX, hY⟩ := ih (s + 1) p (by omega) (p + d) fn (dr + eC p) (nb_sh p (p + d) eA) (nb_sh p (p + d) eS) (nb_sh p (p + d) eL) (nb_sh p (p + d) (upd eT p (eT p - 1))) (nb_sh p (p + d) eP) (nb_sh p (p + d) eC) (nb_sq p (p + d) qI) (nb_sq p (p + d) qD) rM fr rfl (by omega) halF (nb_ent_fail E (by omega))
              exact ⟨e1, fn1, dr1, eA1, eS1, eL1, eT1, eP1, eC1, qI1, qD1, rM1, fr1, by omega, E1, fun post H => br_f (nI_ge hsn (by omega)) (nx_age_fn (m := p + d) (by omega) (by omega) hr (Or.inl hk1) hz hm hN (br_t rfl (nm_r (nI_1 s) (hX post H)))), fun post H => ny_t_fn1 (m := p + d) hsn hnn (by omega) (by omega) hr hy hl hk1 hz (Int32.not_lt.mp hm) hN (hY post H)⟩
            · obtain ⟨e1, fn1, dr1, eA1, eS1, eL1, eT1, eP1, eC1, qI1, qD1, rM1, fr1, le1, E1, hX, hY⟩ := ih (s + 1) p (by omega) (p + d) fn (dr + eC p) (nb_sh p (p + d) eA) (nb_sh p (p + d) eS) (nb_sh p (p + d) eL) (nb_sh p (p + d) (upd eT p (eT p - 1))) (nb_sh p (p + d) eP) (nb_sh p (p + d) eC) (nb_sq p (p + d) qI) (nb_sq p (p + d) qD) (upd rM g 1) fr rfl (by omega) halF (nb_ent_fail E (by omega))
              exact ⟨e1, fn1, dr1, eA1, eS1, eL1, eT1, eP1, eC1, qI1, qD1, rM1, fr1, by omega, E1, fun post H => br_f (nI_ge hsn (by omega)) (nx_age_fs (m := p + d) (by omega) (by omega) hr (Or.inl hk1) hz hm g hg gy gl (br_t rfl (nm_r (nI_1 s) (hX post H)))), fun post H => ny_t_fs1 (m := p + d) hsn hnn (by omega) (by omega) hr hy hl hk1 hz (Int32.not_lt.mp hm) g hg gy gl (hY post H)⟩
        · obtain ⟨e1, fn1, dr1, eA1, eS1, eL1, eT1, eP1, eC1, qI1, qD1, rM1, fr1, le1, E1, hX, hY⟩ := ih (s + 1) (p + 1) (by omega) (p + d + 1) fn dr eA (upd eS p 3) eL (upd (upd eT p (eT p - 1)) p 0) (upd eP p 0) eC qI qD rM fr (by omega) (by omega) hal' (nb_ent_up p E (by rw [pk_us, pk_us, pk_us]; exact Or.inr (Or.inr (Or.inl ⟨rfl, rfl, rfl, h2.2.2.2⟩))) (fun j hj => ⟨pk_un hj, rfl, (pk_un hj).trans (pk_un hj), pk_un hj, rfl⟩))
          exact ⟨e1, fn1, dr1, eA1, eS1, eL1, eT1, eP1, eC1, qI1, qD1, rM1, fr1, by omega, E1, fun post H => br_f (nI_ge hsn (by omega)) (nx_age_2 (by omega) h2.1 hz (br_f (by decide) (nm_r (nI_1 p) (nm_r (nI_1 s) (hX post H))))), fun post H => ny_t_2 hsn hnn hpe he hy hl h2.1 hz (hY post H)⟩
        · exact absurd h.1 h3
        · obtain ⟨e1, fn1, dr1, eA1, eS1, eL1, eT1, eP1, eC1, qI1, qD1, rM1, fr1, le1, E1, hX, hY⟩ := ih (s + 1) (p + 1) (by omega) (p + d + 1) (fn + 1) dr eA (upd eS p 5) eL (upd (upd eT p (eT p - 1)) p rx) (upd eP p 1) eC qI qD rM (nb_ev fr fn 2 (eA p) (eL p) 0 (eA p)) (by omega) (by omega) hal' (nb_ent_up p E (by rw [pk_us, pk_us, pk_us]; exact Or.inr (Or.inr (Or.inr (Or.inr ⟨rfl, hx, h4.2.2.2⟩)))) (fun j hj => ⟨pk_un hj, rfl, (pk_un hj).trans (pk_un hj), pk_un hj, rfl⟩))
          exact ⟨e1, fn1, dr1, eA1, eS1, eL1, eT1, eP1, eC1, qI1, qD1, rM1, fr1, by omega, E1, fun post H => br_f (nI_ge hsn (by omega)) (nx_age_4 (by omega) h4.1 hz (br_f (by decide) (nm_r (nI_1 p) (nm_r (nI_1 s) (hX post H))))), fun post H => ny_t_4 hsn hnn hpe he hy hl h4.1 hz (hY post H)⟩
        · by_cases hm : eP p < ms
          · obtain ⟨e1, fn1, dr1, eA1, eS1, eL1, eT1, eP1, eC1, qI1, qD1, rM1, fr1, le1, E1, hX, hY⟩ := ih (s + 1) (p + 1) (by omega) (p + d + 1) (fn + 1) dr eA eS eL (upd (upd eT p (eT p - 1)) p rx) (upd eP p (eP p + 1)) eC qI qD rM (nb_ev fr fn 2 (eA p) (eL p) 0 (eA p)) (by omega) (by omega) hal' (nb_ent_up p E (by rw [pk_us]; exact Or.inr (Or.inr (Or.inr (Or.inr ⟨h5.1, hx, h5.2.2⟩)))) (fun j hj => ⟨rfl, rfl, (pk_un hj).trans (pk_un hj), pk_un hj, rfl⟩))
            exact ⟨e1, fn1, dr1, eA1, eS1, eL1, eT1, eP1, eC1, qI1, qD1, rM1, fr1, by omega, E1, fun post H => br_f (nI_ge hsn (by omega)) (nx_age_s5 (by omega) h5.1 hz hm (br_f (by decide) (nm_r (nI_1 p) (nm_r (nI_1 s) (hX post H))))), fun post H => ny_t_s5 hsn hnn hpe he hy hl h5.1 hz (Int32.not_le.mpr hm) (hY post H)⟩
          · have hk5 := h5.1
            rcases nb_find (fun j => rA j = eA p) r with hN | ⟨g, hg, gy, gl⟩
            · obtain ⟨e1, fn1, dr1, eA1, eS1, eL1, eT1, eP1, eC1, qI1, qD1, rM1, fr1, le1, E1, hX, hY⟩ := ih (s + 1) p (by omega) (p + d) fn (dr + eC p) (nb_sh p (p + d) eA) (nb_sh p (p + d) eS) (nb_sh p (p + d) eL) (nb_sh p (p + d) (upd eT p (eT p - 1))) (nb_sh p (p + d) eP) (nb_sh p (p + d) eC) (nb_sq p (p + d) qI) (nb_sq p (p + d) qD) rM fr rfl (by omega) halF (nb_ent_fail E (by omega))
              exact ⟨e1, fn1, dr1, eA1, eS1, eL1, eT1, eP1, eC1, qI1, qD1, rM1, fr1, by omega, E1, fun post H => br_f (nI_ge hsn (by omega)) (nx_age_fn (m := p + d) (by omega) (by omega) hr (Or.inr hk5) hz hm hN (br_t rfl (nm_r (nI_1 s) (hX post H)))), fun post H => ny_t_fn5 (m := p + d) hsn hnn (by omega) (by omega) hr hy hl hk5 hz (Int32.not_lt.mp hm) hN (hY post H)⟩
            · obtain ⟨e1, fn1, dr1, eA1, eS1, eL1, eT1, eP1, eC1, qI1, qD1, rM1, fr1, le1, E1, hX, hY⟩ := ih (s + 1) p (by omega) (p + d) fn (dr + eC p) (nb_sh p (p + d) eA) (nb_sh p (p + d) eS) (nb_sh p (p + d) eL) (nb_sh p (p + d) (upd eT p (eT p - 1))) (nb_sh p (p + d) eP) (nb_sh p (p + d) eC) (nb_sq p (p + d) qI) (nb_sq p (p + d) qD) (upd rM g 1) fr rfl (by omega) halF (nb_ent_fail E (by omega))
              exact ⟨e1, fn1, dr1, eA1, eS1, eL1, eT1, eP1, eC1, qI1, qD1, rM1, fr1, by omega, E1, fun post H => br_f (nI_ge hsn (by omega)) (nx_age_fs (m := p + d) (by omega) (by omega) hr (Or.inr hk5) hz hm g hg gy gl (br_t rfl (nm_r (nI_1 s) (hX post H)))), fun post H => ny_t_fs5 (m := p + d) hsn hnn (by omega) (by omega) hr hy hl hk5 hz (Int32.not_lt.mp hm) g hg gy gl (hY post H)⟩
end
