/-! the clock: one entry -/
section
variable {cn e o r : Nat} {rt rx ms fn pi dr : Int32} {eA eS eL eT eP eC qI qD oA oS oT oP rA rM fr sn : Nat → Int32}
theorem nx_solicit_1 {post : SX → Prop} {p : Nat} (hp : p < 16) (h1 : eS p = 1) (H : post (nI cn, rt, rx, ms, nI e, nI o, nI r, fn + 1, pi, dr, eA, eS, eL, upd eT p rx, upd eP p (eP p + 1), eC, qI, qD, oA, oS, oT, oP, rA, rM, nb_fp 0 (nb_ev fr fn 1 (eA p) 0 0 0), nb_fp 1 (nb_ev fr fn 1 (eA p) 0 0 0), nb_fp 2 (nb_ev fr fn 1 (eA p) 0 0 0), nb_fp 3 (nb_ev fr fn 1 (eA p) 0 0 0), nb_fp 4 (nb_ev fr fn 1 (eA p) 0 0 0))) : wpX_solicit post (nI cn, rt, rx, ms, nI e, nI o, nI r, fn, pi, dr, eA, eS, eL, eT, eP, eC, qI, qD, oA, oS, oT, oP, rA, rM, nb_fp 0 fr, nb_fp 1 fr, nb_fp 2 fr, nb_fp 3 fr, nb_fp 4 fr) (nI p) := by
  have hv : vp_in (nI p) 16 := nb_ix hp (by omega)
  unfold wpX_solicit
  rw [nb_cl (by omega)]
  refine ⟨hv, br_t h1 ⟨hv, nx_emit _ _ _ _ _ ?_⟩⟩
  dsimp only
  unfold wX_solicit_51
  rw [nb_cl (by omega)]
  exact ⟨hv, hv, nm_e ⟨hv, nm_e H⟩⟩
theorem nx_solicit_n {post : SX → Prop} {p : Nat} (hp : p < 16) (h1 : ¬ eS p = 1) (H : post (nI cn, rt, rx, ms, nI e, nI o, nI r, fn + 1, pi, dr, eA, eS, eL, upd eT p rx, upd eP p (eP p + 1), eC, qI, qD, oA, oS, oT, oP, rA, rM, nb_fp 0 (nb_ev fr fn 2 (eA p) (eL p) 0 (eA p)), nb_fp 1 (nb_ev fr fn 2 (eA p) (eL p) 0 (eA p)), nb_fp 2 (nb_ev fr fn 2 (eA p) (eL p) 0 (eA p)), nb_fp 3 (nb_ev fr fn 2 (eA p) (eL p) 0 (eA p)), nb_fp 4 (nb_ev fr fn 2 (eA p) (eL p) 0 (eA p)))) : wpX_solicit post (nI cn, rt, rx, ms, nI e, nI o, nI r, fn, pi, dr, eA, eS, eL, eT, eP, eC, qI, qD, oA, oS, oT, oP, rA, rM, nb_fp 0 fr, nb_fp 1 fr, nb_fp 2 fr, nb_fp 3 fr, nb_fp 4 fr) (nI p) := by
  have hv : vp_in (nI p) 16 := nb_ix hp (by omega)
  unfold wpX_solicit
  rw [nb_cl (by omega)]
  refine ⟨hv, br_f h1 ⟨hv, hv, hv, nx_emit _ _ _ _ _ ?_⟩⟩
  dsimp only
  unfold wX_solicit_51
  rw [nb_cl (by omega)]
  exact ⟨hv, hv, nm_e ⟨hv, nm_e H⟩⟩
theorem nx_age_3 {post : Int32 → SX → Prop} {p : Nat} (hp : p < 16) (h3 : eS p = 3) (H : post 1 (nI cn, rt, rx, ms, nI e, nI o, nI r, fn, pi, dr, eA, eS, eL, eT, eP, eC, qI, qD, oA, oS, oT, oP, rA, rM, nb_fp 0 fr, nb_fp 1 fr, nb_fp 2 fr, nb_fp 3 fr, nb_fp 4 fr)) : wpX_ageEntry post (nI cn, rt, rx, ms, nI e, nI o, nI r, fn, pi, dr, eA, eS, eL, eT, eP, eC, qI, qD, oA, oS, oT, oP, rA, rM, nb_fp 0 fr, nb_fp 1 fr, nb_fp 2 fr, nb_fp 3 fr, nb_fp 4 fr) (nI p) := by
  have hv : vp_in (nI p) 16 := nb_ix hp (by omega)
  unfold wpX_ageEntry
  rw [nb_cl (by omega)]
  exact ⟨hv, br_t h3 H⟩
theorem nx_age_t {post : Int32 → SX → Prop} {p : Nat} (hp : p < 16) (h3 : ¬ eS p = 3) (ht : ¬ eT p - 1 ≤ 0) (H : post 1 (nI cn, rt, rx, ms, nI e, nI o, nI r, fn, pi, dr, eA, eS, eL, upd eT p (eT p - 1), eP, eC, qI, qD, oA, oS, oT, oP, rA, rM, nb_fp 0 fr, nb_fp 1 fr, nb_fp 2 fr, nb_fp 3 fr, nb_fp 4 fr)) : wpX_ageEntry post (nI cn, rt, rx, ms, nI e, nI o, nI r, fn, pi, dr, eA, eS, eL, eT, eP, eC, qI, qD, oA, oS, oT, oP, rA, rM, nb_fp 0 fr, nb_fp 1 fr, nb_fp 2 fr, nb_fp 3 fr, nb_fp 4 fr) (nI p) := by
  have hv : vp_in (nI p) 16 := nb_ix hp (by omega)
  unfold wpX_ageEntry
  rw [nb_cl (by omega)]
  exact ⟨hv, br_f h3 ⟨hv, hv, nm_e ⟨hv, br_f (by rw [pk_us]; exact ht) H⟩⟩⟩
theorem nx_age_2 {post : Int32 → SX → Prop} {p : Nat} (hp : p < 16) (h2 : eS p = 2) (ht : eT p - 1 = 0) (H : post 1 (nI cn, rt, rx, ms, nI e, nI o, nI r, fn, pi, dr, eA, upd eS p 3, eL, upd (upd eT p (eT p - 1)) p 0, upd eP p 0, eC, qI, qD, oA, oS, oT, oP, rA, rM, nb_fp 0 fr, nb_fp 1 fr, nb_fp 2 fr, nb_fp 3 fr, nb_fp 4 fr)) : wpX_ageEntry post (nI cn, rt, rx, ms, nI e, nI o, nI r, fn, pi, dr, eA, eS, eL, eT, eP, eC, qI, qD, oA, oS, oT, oP, rA, rM, nb_fp 0 fr, nb_fp 1 fr, nb_fp 2 fr, nb_fp 3 fr, nb_fp 4 fr) (nI p) := by
  have hv : vp_in (nI p) 16 := nb_ix hp (by omega)
  unfold wpX_ageEntry
  rw [nb_cl (by omega)]
  exact ⟨hv, br_f (by rw [h2]; decide) ⟨hv, hv, nm_e ⟨hv, br_t (by rw [pk_us, ht]; decide) ⟨hv, br_t h2 (nx_enterStale hp H)⟩⟩⟩⟩
theorem nx_age_4 {post : Int32 → SX → Prop} {p : Nat} (hp : p < 16) (h4 : eS p = 4) (ht : eT p - 1 = 0) (H : post 1 (nI cn, rt, rx, ms, nI e, nI o, nI r, fn + 1, pi, dr, eA, upd eS p 5, eL, upd (upd eT p (eT p - 1)) p rx, upd eP p 1, eC, qI, qD, oA, oS, oT, oP, rA, rM, nb_fp 0 (nb_ev fr fn 2 (eA p) (eL p) 0 (eA p)), nb_fp 1 (nb_ev fr fn 2 (eA p) (eL p) 0 (eA p)), nb_fp 2 (nb_ev fr fn 2 (eA p) (eL p) 0 (eA p)), nb_fp 3 (nb_ev fr fn 2 (eA p) (eL p) 0 (eA p)), nb_fp 4 (nb_ev fr fn 2 (eA p) (eL p) 0 (eA p)))) : wpX_ageEntry post (nI cn, rt, rx, ms, nI e, nI o, nI r, fn, pi, dr, eA, eS, eL, eT, eP, eC, qI, qD, oA, oS, oT, oP, rA, rM, nb_fp 0 fr, nb_fp 1 fr, nb_fp 2 fr, nb_fp 3 fr, nb_fp 4 fr) (nI p) := by
  have hv : vp_in (nI p) 16 := nb_ix hp (by omega)
  unfold wpX_ageEntry
  rw [nb_cl (by omega)]
  refine ⟨hv, br_f (by rw [h4]; decide) ⟨hv, hv, nm_e ⟨hv, br_t (by rw [pk_us, ht]; decide) ⟨hv, br_f (by rw [h4]; decide) ⟨hv, br_t h4 ⟨hv, nm_e ⟨hv, nm_e (nx_solicit_n hp (by rw [pk_us]; decide) ?_)⟩⟩⟩⟩⟩⟩⟩
  rw [pk_us, nb_uu eP]
  exact H
theorem nx_age_s1 {post : Int32 → SX → Prop} {p : Nat} (hp : p < 16) (h1 : eS p = 1) (ht : eT p - 1 = 0) (hm : eP p < ms) (H : post 1 (nI cn, rt, rx, ms, nI e, nI o, nI r, fn + 1, pi, dr, eA, eS, eL, upd (upd eT p (eT p - 1)) p rx, upd eP p (eP p + 1), eC, qI, qD, oA, oS, oT, oP, rA, rM, nb_fp 0 (nb_ev fr fn 1 (eA p) 0 0 0), nb_fp 1 (nb_ev fr fn 1 (eA p) 0 0 0), nb_fp 2 (nb_ev fr fn 1 (eA p) 0 0 0), nb_fp 3 (nb_ev fr fn 1 (eA p) 0 0 0), nb_fp 4 (nb_ev fr fn 1 (eA p) 0 0 0))) : wpX_ageEntry post (nI cn, rt, rx, ms, nI e, nI o, nI r, fn, pi, dr, eA, eS, eL, eT, eP, eC, qI, qD, oA, oS, oT, oP, rA, rM, nb_fp 0 fr, nb_fp 1 fr, nb_fp 2 fr, nb_fp 3 fr, nb_fp 4 fr) (nI p) := by
  have hv : vp_in (nI p) 16 := nb_ix hp (by omega)
  unfold wpX_ageEntry
  rw [nb_cl (by omega)]
  exact ⟨hv, br_f (by rw [h1]; decide) ⟨hv, hv, nm_e ⟨hv, br_t (by rw [pk_us, ht]; decide) ⟨hv, br_f (by rw [h1]; decide) ⟨hv, br_f (by rw [h1]; decide) ⟨hv, br_t hm (nx_solicit_1 hp h1 H)⟩⟩⟩⟩⟩⟩
theorem nx_age_s5 {post : Int32 → SX → Prop} {p : Nat} (hp : p < 16) (h5 : eS p = 5) (ht : eT p - 1 = 0) (hm : eP p < ms) (H : post 1 (nI cn, rt, rx, ms, nI e, nI o, nI r, fn + 1, pi, dr, eA, eS, eL, upd (upd eT p (eT p - 1)) p rx, upd eP p (eP p + 1), eC, qI, qD, oA, oS, oT, oP, rA, rM, nb_fp 0 (nb_ev fr fn 2 (eA p) (eL p) 0 (eA p)), nb_fp 1 (nb_ev fr fn 2 (eA p) (eL p) 0 (eA p)), nb_fp 2 (nb_ev fr fn 2 (eA p) (eL p) 0 (eA p)), nb_fp 3 (nb_ev fr fn 2 (eA p) (eL p) 0 (eA p)), nb_fp 4 (nb_ev fr fn 2 (eA p) (eL p) 0 (eA p)))) : wpX_ageEntry post (nI cn, rt, rx, ms, nI e, nI o, nI r, fn, pi, dr, eA, eS, eL, eT, eP, eC, qI, qD, oA, oS, oT, oP, rA, rM, nb_fp 0 fr, nb_fp 1 fr, nb_fp 2 fr, nb_fp 3 fr, nb_fp 4 fr) (nI p) := by
  have hv : vp_in (nI p) 16 := nb_ix hp (by omega)
  unfold wpX_ageEntry
  rw [nb_cl (by omega)]
  exact ⟨hv, br_f (by rw [h5]; decide) ⟨hv, hv, nm_e ⟨hv, br_t (by rw [pk_us, ht]; decide) ⟨hv, br_f (by rw [h5]; decide) ⟨hv, br_f (by rw [h5]; decide) ⟨hv, br_t hm (nx_solicit_n hp (by rw [h5]; decide) H)⟩⟩⟩⟩⟩⟩
theorem nx_age_fn {post : Int32 → SX → Prop} {p m : Nat} (hm16 : m < 16) (hp : p ≤ m) (hr : r ≤ 4) (h15 : eS p = 1 ∨ eS p = 5) (ht : eT p - 1 = 0) (hm : ¬ eP p < ms) (hn : ∀ j, j < r → ¬ rA j = eA p) (H : post 0 (nI cn, rt, rx, ms, nI m, nI o, nI r, fn, pi, dr + eC p, nb_sh p m eA, nb_sh p m eS, nb_sh p m eL, nb_sh p m (upd eT p (eT p - 1)), nb_sh p m eP, nb_sh p m eC, nb_sq p m qI, nb_sq p m qD, oA, oS, oT, oP, rA, rM, nb_fp 0 fr, nb_fp 1 fr, nb_fp 2 fr, nb_fp 3 fr, nb_fp 4 fr)) : wpX_ageEntry post (nI cn, rt, rx, ms, nI (m + 1), nI o, nI r, fn, pi, dr, eA, eS, eL, eT, eP, eC, qI, qD, oA, oS, oT, oP, rA, rM, nb_fp 0 fr, nb_fp 1 fr, nb_fp 2 fr, nb_fp 3 fr, nb_fp 4 fr) (nI p) := by
  have h3 : ¬ eS p = 3 := by rcases h15 with h | h <;> rw [h] <;> decide
  have h2 : ¬ eS p = 2 := by rcases h15 with h | h <;> rw [h] <;> decide
  have h4 : ¬ eS p = 4 := by rcases h15 with h | h <;> rw [h] <;> decide
  have hv : vp_in (nI p) 16 := nb_ix (by omega) (by omega)
  unfold wpX_ageEntry
  rw [nb_cl (by omega)]
  exact ⟨hv, br_f h3 ⟨hv, hv, nm_e ⟨hv, br_t (by rw [pk_us, ht]; decide) ⟨hv, br_f h2 ⟨hv, br_f h4 ⟨hv, br_f hm (nx_fail_n hm16 hp hr hn H)⟩⟩⟩⟩⟩⟩
theorem nx_age_fs {post : Int32 → SX → Prop} {p m : Nat} (hm16 : m < 16) (hp : p ≤ m) (hr : r ≤ 4) (h15 : eS p = 1 ∨ eS p = 5) (ht : eT p - 1 = 0) (hm : ¬ eP p < ms) (g : Nat) (hg : g < r) (hy : rA g = eA p) (hn : ∀ j, j < g → ¬ rA j = eA p) (H : post 0 (nI cn, rt, rx, ms, nI m, nI o, nI r, fn, pi, dr + eC p, nb_sh p m eA, nb_sh p m eS, nb_sh p m eL, nb_sh p m (upd eT p (eT p - 1)), nb_sh p m eP, nb_sh p m eC, nb_sq p m qI, nb_sq p m qD, oA, oS, oT, oP, rA, upd rM g 1, nb_fp 0 fr, nb_fp 1 fr, nb_fp 2 fr, nb_fp 3 fr, nb_fp 4 fr)) : wpX_ageEntry post (nI cn, rt, rx, ms, nI (m + 1), nI o, nI r, fn, pi, dr, eA, eS, eL, eT, eP, eC, qI, qD, oA, oS, oT, oP, rA, rM, nb_fp 0 fr, nb_fp 1 fr, nb_fp 2 fr, nb_fp 3 fr, nb_fp 4 fr) (nI p) := by
  have h3 : ¬ eS p = 3 := by rcases h15 with h | h <;> rw [h] <;> decide
  have h2 : ¬ eS p = 2 := by rcases h15 with h | h <;> rw [h] <;> decide
  have h4 : ¬ eS p = 4 := by rcases h15 with h | h <;> rw [h] <;> decide
  have hv : vp_in (nI p) 16 := nb_ix (by omega) (by omega)
  unfold wpX_ageEntry
  rw [nb_cl (by omega)]
  exact ⟨hv, br_f h3 ⟨hv, hv, nm_e ⟨hv, br_t (by rw [pk_us, ht]; decide) ⟨hv, br_f h2 ⟨hv, br_f h4 ⟨hv, br_f hm (nx_fail_s hm16 hp hr g hg hy hn H)⟩⟩⟩⟩⟩⟩
theorem ny_t_3 {post : SY → Prop} {p s n nn : Nat} (hs : s < nn) (hn16 : nn ≤ 16) (hpe : p < e) (he : e ≤ 16) (hy : eA p = sn s) (hl : ∀ j, j < p → ¬ eA j = sn s) (h3 : eS p = 3) (H : wY_tick_32 post (nI nn) n (nI (s + 1)) (nI cn) rt rx ms (nI e) (nI o) (nI r) fn pi dr eA eS eL eT eP eC qI qD sn oA oS oT oP rA rM fr) : wY_tick_32 post (nI nn) (n + 1) (nI s) (nI cn) rt rx ms (nI e) (nI o) (nI r) fn pi dr eA eS eL eT eP eC qI qD sn oA oS oT oP rA rM fr := by
  have hv : vp_in (nI p) 16 := nb_ix (by omega) (by omega)
  refine br_f (nI_ge hs (by omega)) ⟨nb_ix (by omega) (by omega), ?_⟩
  rw [nb_cl (i := s) (by omega)]
  refine ny_find_s he p hpe hy hl (br_t (nb_n0 (by omega)) ⟨hv, ?_⟩)
  rw [nb_cl (i := p) (by omega)]
  refine nm_e ?_
  exact br_t h3 (nm_r (nI_1 s) H)
theorem ny_t_t {post : SY → Prop} {p s n nn : Nat} (hs : s < nn) (hn16 : nn ≤ 16) (hpe : p < e) (he : e ≤ 16) (hy : eA p = sn s) (hl : ∀ j, j < p → ¬ eA j = sn s) (h3 : ¬ eS p = 3) (ht : ¬ eT p - 1 = 0) (H : wY_tick_32 post (nI nn) n (nI (s + 1)) (nI cn) rt rx ms (nI e) (nI o) (nI r) fn pi dr eA eS eL (upd eT p (eT p - 1)) eP eC qI qD sn oA oS oT oP rA rM fr) : wY_tick_32 post (nI nn) (n + 1) (nI s) (nI cn) rt rx ms (nI e) (nI o) (nI r) fn pi dr eA eS eL eT eP eC qI qD sn oA oS oT oP rA rM fr := by
  have hv : vp_in (nI p) 16 := nb_ix (by omega) (by omega)
  refine br_f (nI_ge hs (by omega)) ⟨nb_ix (by omega) (by omega), ?_⟩
  rw [nb_cl (i := s) (by omega)]
  refine ny_find_s he p hpe hy hl (br_t (nb_n0 (by omega)) ⟨hv, ?_⟩)
  rw [nb_cl (i := p) (by omega)]
  refine nm_e ?_
  exact br_f h3 ⟨hv, hv, nm_e ⟨hv, br_f (by rw [pk_us]; exact ht) (nm_r (nI_1 s) H)⟩⟩
theorem ny_t_2 {post : SY → Prop} {p s n nn : Nat} (hs : s < nn) (hn16 : nn ≤ 16) (hpe : p < e) (he : e ≤ 16) (hy : eA p = sn s) (hl : ∀ j, j < p → ¬ eA j = sn s) (h2 : eS p = 2) (ht : eT p - 1 = 0) (H : wY_tick_32 post (nI nn) n (nI (s + 1)) (nI cn) rt rx ms (nI e) (nI o) (nI r) fn pi dr eA (upd eS p 3) eL (upd (upd eT p (eT p - 1)) p 0) (upd eP p 0) eC qI qD sn oA oS oT oP rA rM fr) : wY_tick_32 post (nI nn) (n + 1) (nI s) (nI cn) rt rx ms (nI e) (nI o) (nI r) fn pi dr eA eS eL eT eP eC qI qD sn oA oS oT oP rA rM fr := by
  have hv : vp_in (nI p) 16 := nb_ix (by omega) (by omega)
  refine br_f (nI_ge hs (by omega)) ⟨nb_ix (by omega) (by omega), ?_⟩
  rw [nb_cl (i := s) (by omega)]
  refine ny_find_s he p hpe hy hl (br_t (nb_n0 (by omega)) ⟨hv, ?_⟩)
  rw [nb_cl (i := p) (by omega)]
  refine nm_e ?_
  exact br_f (by rw [h2]; decide) ⟨hv, hv, nm_e ⟨hv, br_t (by rw [pk_us]; exact ht) (br_f (by rw [h2]; decide) (br_t h2 (ny_enterStale (by omega) (nm_r (nI_1 s) H))))⟩⟩
theorem ny_t_4 {post : SY → Prop} {p s n nn : Nat} (hs : s < nn) (hn16 : nn ≤ 16) (hpe : p < e) (he : e ≤ 16) (hy : eA p = sn s) (hl : ∀ j, j < p → ¬ eA j = sn s) (h4 : eS p = 4) (ht : eT p - 1 = 0) (H : wY_tick_32 post (nI nn) n (nI (s + 1)) (nI cn) rt rx ms (nI e) (nI o) (nI r) (fn + 1) pi dr eA (upd eS p 5) eL (upd (upd eT p (eT p - 1)) p rx) (upd eP p 1) eC qI qD sn oA oS oT oP rA rM (nb_ev fr fn 2 (eA p) (eL p) 0 (eA p))) : wY_tick_32 post (nI nn) (n + 1) (nI s) (nI cn) rt rx ms (nI e) (nI o) (nI r) fn pi dr eA eS eL eT eP eC qI qD sn oA oS oT oP rA rM fr := by
  have hv : vp_in (nI p) 16 := nb_ix (by omega) (by omega)
  refine br_f (nI_ge hs (by omega)) ⟨nb_ix (by omega) (by omega), ?_⟩
  rw [nb_cl (i := s) (by omega)]
  refine ny_find_s he p hpe hy hl (br_t (nb_n0 (by omega)) ⟨hv, ?_⟩)
  rw [nb_cl (i := p) (by omega)]
  refine nm_e ?_
  exact br_f (by rw [h4]; decide) ⟨hv, hv, nm_e ⟨hv, br_t (by rw [pk_us]; exact ht) (br_f (by rw [h4]; decide) (br_f (by rw [h4]; decide) (br_t h4 ⟨hv, nm_e ⟨hv, nm_e ⟨hv, nm_e ⟨hv, hv, hv, ny_emit _ _ _ _ _ (nm_r (nI_1 s) H)⟩⟩⟩⟩)))⟩⟩
theorem ny_t_s1 {post : SY → Prop} {p s n nn : Nat} (hs : s < nn) (hn16 : nn ≤ 16) (hpe : p < e) (he : e ≤ 16) (hy : eA p = sn s) (hl : ∀ j, j < p → ¬ eA j = sn s) (h1 : eS p = 1) (ht : eT p - 1 = 0) (hm : ¬ ms ≤ eP p) (H : wY_tick_32 post (nI nn) n (nI (s + 1)) (nI cn) rt rx ms (nI e) (nI o) (nI r) (fn + 1) pi dr eA eS eL (upd (upd eT p (eT p - 1)) p rx) (upd eP p (eP p + 1)) eC qI qD sn oA oS oT oP rA rM (nb_ev fr fn 1 (eA p) 0 0 0)) : wY_tick_32 post (nI nn) (n + 1) (nI s) (nI cn) rt rx ms (nI e) (nI o) (nI r) fn pi dr eA eS eL eT eP eC qI qD sn oA oS oT oP rA rM fr := by
  have hv : vp_in (nI p) 16 := nb_ix (by omega) (by omega)
  refine br_f (nI_ge hs (by omega)) ⟨nb_ix (by omega) (by omega), ?_⟩
  rw [nb_cl (i := s) (by omega)]
  refine ny_find_s he p hpe hy hl (br_t (nb_n0 (by omega)) ⟨hv, ?_⟩)
  rw [nb_cl (i := p) (by omega)]
  refine nm_e ?_
  exact br_f (by rw [h1]; decide) ⟨hv, hv, nm_e ⟨hv, br_t (by rw [pk_us]; exact ht) (br_t h1 ⟨hv, br_f hm ⟨hv, ny_emit _ _ _ _ _ ⟨hv, hv, nm_e ⟨hv, nm_e (nm_r (nI_1 s) H)⟩⟩⟩⟩)⟩⟩
theorem ny_t_s5 {post : SY → Prop} {p s n nn : Nat} (hs : s < nn) (hn16 : nn ≤ 16) (hpe : p < e) (he : e ≤ 16) (hy : eA p = sn s) (hl : ∀ j, j < p → ¬ eA j = sn s) (h5 : eS p = 5) (ht : eT p - 1 = 0) (hm : ¬ ms ≤ eP p) (H : wY_tick_32 post (nI nn) n (nI (s + 1)) (nI cn) rt rx ms (nI e) (nI o) (nI r) (fn + 1) pi dr eA eS eL (upd (upd eT p (eT p - 1)) p rx) (upd eP p (eP p + 1)) eC qI qD sn oA oS oT oP rA rM (nb_ev fr fn 2 (eA p) (eL p) 0 (eA p))) : wY_tick_32 post (nI nn) (n + 1) (nI s) (nI cn) rt rx ms (nI e) (nI o) (nI r) fn pi dr eA eS eL eT eP eC qI qD sn oA oS oT oP rA rM fr := by
  have hv : vp_in (nI p) 16 := nb_ix (by omega) (by omega)
  refine br_f (nI_ge hs (by omega)) ⟨nb_ix (by omega) (by omega), ?_⟩
  rw [nb_cl (i := s) (by omega)]
  refine ny_find_s he p hpe hy hl (br_t (nb_n0 (by omega)) ⟨hv, ?_⟩)
  rw [nb_cl (i := p) (by omega)]
  refine nm_e ?_
  exact br_f (by rw [h5]; decide) ⟨hv, hv, nm_e ⟨hv, br_t (by rw [pk_us]; exact ht) (br_f (by rw [h5]; decide) (br_f (by rw [h5]; decide) (br_f (by rw [h5]; decide) (br_t h5 ⟨hv, br_f hm ⟨hv, hv, hv, ny_emit _ _ _ _ _ ⟨hv, hv, nm_e ⟨hv, nm_e (nm_r (nI_1 s) H)⟩⟩⟩⟩))))⟩⟩
theorem ny_t_fn1 {post : SY → Prop} {p s n nn : Nat} (hs : s < nn) (hn16 : nn ≤ 16) {m : Nat} (hp : p ≤ m) (hm16 : m < 16) (hr : r ≤ 4) (hy : eA p = sn s) (hl : ∀ j, j < p → ¬ eA j = sn s) (h1 : eS p = 1) (ht : eT p - 1 = 0) (hm : ms ≤ eP p) (hN : ∀ j, j < r → ¬ rA j = eA p) (H : wY_tick_32 post (nI nn) n (nI (s + 1)) (nI cn) rt rx ms (nI m) (nI o) (nI r) fn pi (dr + eC p) (nb_sh p m eA) (nb_sh p m eS) (nb_sh p m eL) (nb_sh p m (upd eT p (eT p - 1))) (nb_sh p m eP) (nb_sh p m eC) (nb_sq p m qI) (nb_sq p m qD) sn oA oS oT oP rA rM fr) : wY_tick_32 post (nI nn) (n + 1) (nI s) (nI cn) rt rx ms (nI (m + 1)) (nI o) (nI r) fn pi dr eA eS eL eT eP eC qI qD sn oA oS oT oP rA rM fr := by
  have hv : vp_in (nI p) 16 := nb_ix (by omega) (by omega)
  refine br_f (nI_ge hs (by omega)) ⟨nb_ix (by omega) (by omega), ?_⟩
  rw [nb_cl (i := s) (by omega)]
  refine ny_find_s (e := m + 1) (by omega) p (by omega) hy hl (br_t (nb_n0 (by omega)) ⟨hv, ?_⟩)
  rw [nb_cl (i := p) (by omega)]
  refine nm_e ?_
  exact br_f (by rw [h1]; decide) ⟨hv, hv, nm_e ⟨hv, br_t (by rw [pk_us]; exact ht) (br_t h1 ⟨hv, br_t hm (ny_fail_n hm16 hp hr hN (nm_r (nI_1 s) H))⟩)⟩⟩
theorem ny_t_fs1 {post : SY → Prop} {p s n nn : Nat} (hs : s < nn) (hn16 : nn ≤ 16) {m : Nat} (hp : p ≤ m) (hm16 : m < 16) (hr : r ≤ 4) (hy : eA p = sn s) (hl : ∀ j, j < p → ¬ eA j = sn s) (h1 : eS p = 1) (ht : eT p - 1 = 0) (hm : ms ≤ eP p) (g : Nat) (hg : g < r) (gy : rA g = eA p) (hN : ∀ j, j < g → ¬ rA j = eA p) (H : wY_tick_32 post (nI nn) n (nI (s + 1)) (nI cn) rt rx ms (nI m) (nI o) (nI r) fn pi (dr + eC p) (nb_sh p m eA) (nb_sh p m eS) (nb_sh p m eL) (nb_sh p m (upd eT p (eT p - 1))) (nb_sh p m eP) (nb_sh p m eC) (nb_sq p m qI) (nb_sq p m qD) sn oA oS oT oP rA (upd rM g 1) fr) : wY_tick_32 post (nI nn) (n + 1) (nI s) (nI cn) rt rx ms (nI (m + 1)) (nI o) (nI r) fn pi dr eA eS eL eT eP eC qI qD sn oA oS oT oP rA rM fr := by
  have hv : vp_in (nI p) 16 := nb_ix (by omega) (by omega)
  refine br_f (nI_ge hs (by omega)) ⟨nb_ix (by omega) (by omega), ?_⟩
  rw [nb_cl (i := s) (by omega)]
  refine ny_find_s (e := m + 1) (by omega) p (by omega) hy hl (br_t (nb_n0 (by omega)) ⟨hv, ?_⟩)
  rw [nb_cl (i := p) (by omega)]
  refine nm_e ?_
  exact br_f (by rw [h1]; decide) ⟨hv, hv, nm_e ⟨hv, br_t (by rw [pk_us]; exact ht) (br_t h1 ⟨hv, br_t hm (ny_fail_s hm16 hp hr g hg gy hN (nm_r (nI_1 s) H))⟩)⟩⟩
theorem ny_t_fn5 {post : SY → Prop} {p s n nn : Nat} (hs : s < nn) (hn16 : nn ≤ 16) {m : Nat} (hp : p ≤ m) (hm16 : m < 16) (hr : r ≤ 4) (hy : eA p = sn s) (hl : ∀ j, j < p → ¬ eA j = sn s) (h5 : eS p = 5) (ht : eT p - 1 = 0) (hm : ms ≤ eP p) (hN : ∀ j, j < r → ¬ rA j = eA p) (H : wY_tick_32 post (nI nn) n (nI (s + 1)) (nI cn) rt rx ms (nI m) (nI o) (nI r) fn pi (dr + eC p) (nb_sh p m eA) (nb_sh p m eS) (nb_sh p m eL) (nb_sh p m (upd eT p (eT p - 1))) (nb_sh p m eP) (nb_sh p m eC) (nb_sq p m qI) (nb_sq p m qD) sn oA oS oT oP rA rM fr) : wY_tick_32 post (nI nn) (n + 1) (nI s) (nI cn) rt rx ms (nI (m + 1)) (nI o) (nI r) fn pi dr eA eS eL eT eP eC qI qD sn oA oS oT oP rA rM fr := by
  have hv : vp_in (nI p) 16 := nb_ix (by omega) (by omega)
  refine br_f (nI_ge hs (by omega)) ⟨nb_ix (by omega) (by omega), ?_⟩
  rw [nb_cl (i := s) (by omega)]
  refine ny_find_s (e := m + 1) (by omega) p (by omega) hy hl (br_t (nb_n0 (by omega)) ⟨hv, ?_⟩)
  rw [nb_cl (i := p) (by omega)]
  refine nm_e ?_
  exact br_f (by rw [h5]; decide) ⟨hv, hv, nm_e ⟨hv, br_t (by rw [pk_us]; exact ht) (br_f (by rw [h5]; decide) (br_f (by rw [h5]; decide) (br_f (by rw [h5]; decide) (br_t h5 ⟨hv, br_t hm (ny_fail_n hm16 hp hr hN (nm_r (nI_1 s) H))⟩))))⟩⟩
theorem ny_t_fs5 {post : SY → Prop} {p s n nn : Nat} (hs : s < nn) (hn16 : nn ≤ 16) {m : Nat} (hp : p ≤ m) (hm16 : m < 16) (hr : r ≤ 4) (hy : eA p = sn s) (hl : ∀ j, j < p → ¬ eA j = sn s) (h5 : eS p = 5) (ht : eT p - 1 = 0) (hm : ms ≤ eP p) (g : Nat) (hg : g < r) (gy : rA g = eA p) (hN : ∀ j, j < g → ¬ rA j = eA p) (H : wY_tick_32 post (nI nn) n (nI (s + 1)) (nI cn) rt rx ms (nI m) (nI o) (nI r) fn pi (dr + eC p) (nb_sh p m eA) (nb_sh p m eS) (nb_sh p m eL) (nb_sh p m (upd eT p (eT p - 1))) (nb_sh p m eP) (nb_sh p m eC) (nb_sq p m qI) (nb_sq p m qD) sn oA oS oT oP rA (upd rM g 1) fr) : wY_tick_32 post (nI nn) (n + 1) (nI s) (nI cn) rt rx ms (nI (m + 1)) (nI o) (nI r) fn pi dr eA eS eL eT eP eC qI qD sn oA oS oT oP rA rM fr := by
  have hv : vp_in (nI p) 16 := nb_ix (by omega) (by omega)
  refine br_f (nI_ge hs (by omega)) ⟨nb_ix (by omega) (by omega), ?_⟩
  rw [nb_cl (i := s) (by omega)]
  refine ny_find_s (e := m + 1) (by omega) p (by omega) hy hl (br_t (nb_n0 (by omega)) ⟨hv, ?_⟩)
  rw [nb_cl (i := p) (by omega)]
  refine nm_e ?_
  exact br_f (by rw [h5]; decide) ⟨hv, hv, nm_e ⟨hv, br_t (by rw [pk_us]; exact ht) (br_f (by rw [h5]; decide) (br_f (by rw [h5]; decide) (br_f (by rw [h5]; decide) (br_t h5 ⟨hv, br_t hm (ny_fail_s hm16 hp hr g hg gy hN (nm_r (nI_1 s) H))⟩))))⟩⟩
end
