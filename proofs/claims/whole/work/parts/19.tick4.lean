/-! the clock: the whole call -/
def nb_cp (t : Nat) (a b : Nat → Int32) : Nat → Int32 := fun j => if j < t then a j else b j
theorem nb_cp0 (a b : Nat → Int32) : nb_cp 0 a b = b := by
  funext j
  exact if_neg (by omega)
theorem nb_cps (t : Nat) (a b : Nat → Int32) : upd (nb_cp t a b) t (a t) = nb_cp (t + 1) a b := by
  funext j
  simp only [upd, nb_cp]
  by_cases hj : j = t
  · subst hj
    rw [if_pos rfl, if_pos (by omega)]
  · rw [if_neg hj]
    by_cases hk : j < t
    · rw [if_pos hk, if_pos (by omega)]
    · rw [if_neg hk, if_neg (by omega)]
section
variable {cn e o r : Nat} {rt rx ms fn pi dr : Int32} {eA eS eL eT eP eC qI qD oA oS oT oP rA rM fr sn : Nat → Int32}
theorem ny_seen {post : SY → Prop} (he : e ≤ 16) (H : ∃ n, wY_tick_32 post (nI e) n 0 (nI cn) rt rx ms (nI e) (nI o) (nI r) fn pi dr eA eS eL eT eP eC qI qD (nb_cp e eA sn) oA oS oT oP rA rM fr) : wpY_tick post (nI cn, rt, rx, ms, nI e, nI o, nI r, fn, pi, dr, eA, eS, eL, eT, eP, eC, qI, qD, sn, oA, oS, oT, oP, rA, rM, fr) := by
  have key : ∀ d t : Nat, t + d = e → wY_tick_7 post (nI e) (nI cn) rt rx ms (nI e) (nI o) (nI r) fn pi dr (d + 1) (nI t) eA eS eL eT eP eC qI qD (nb_cp t eA sn) oA oS oT oP rA rM fr := by
    intro d
    induction d with
    | zero =>
      intro t ht
      obtain rfl : t = e := by omega
      exact br_t (nI_le (by omega) (by omega)) H
    | succ d ih =>
      intro t ht
      refine br_f (nI_ge (by omega) (by omega)) ?_
      rw [nb_cl (by omega)]
      exact ⟨nb_ix (by omega) (by omega), nb_ix (by omega) (by omega), nm_r (nb_cps t eA sn) (nm_r (nI_1 t) (ih (t + 1) (by omega)))⟩
  have := key e 0 (by omega)
  rw [nb_cp0] at this
  unfold wpY_tick
  exact ⟨_, this⟩
end
theorem i_vc_tick {k : Nat} {u : SX} {v : SY} (I : i_Rel k u v) (hk : k + 4 ≤ 2052) : wpX_tick (fun u' => wpY_tick (fun v' => i_Rel (k + 4) u' v') v) u := by
  obtain ⟨cn, e, o, r, rt, rx, ms, fn, pi, dr, eA, eS, eL, eT, eP, eC, qI, qD, oA, oS, oT, oP, rA, rM, fr, sn, rfl, rfl, I⟩ := I
  have hb := I.1
  obtain ⟨e1, fn1, dr1, eA1, eS1, eL1, eT1, eP1, eC1, qI1, qD1, rM1, fr1, le1, E1, hX, hY⟩ := nj_tick (cn := cn) (o := o) (rt := rt) (rx := rx) (ms := ms) (pi := pi) (oA := oA) (oS := oS) (oT := oT) (oP := oP) (rA := rA) (sn := nb_cp e eA sn) (nn := e) (r := r) (by omega) hb.2.2.2.2 I.2.1.2 e 0 0 (by omega) e fn dr eA eS eL eT eP eC qI qD rM fr (by omega) (by omega) (fun j hj => by rw [Nat.zero_add]; exact (if_pos hj).symm) I.2.2.1
  obtain ⟨fn2, fr2, oS2, oT2, oP2, hO2, oX, oY⟩ := nj_own (cn := cn) (e := e1) (o := o) (r := r) (rt := rt) (rx := rx) (ms := ms) (pi := pi) (dr := dr1) (eA := eA1) (eS := eS1) (eL := eL1) (eT := eT1) (eP := eP1) (eC := eC1) (qI := qI1) (qD := qD1) (oA := oA) (rA := rA) (rM := rM1) (sn := nb_cp e eA sn) hb.2.2.2.1 I.2.1.2 o 0 (by omega) fn1 fr1 oS oT oP I.2.2.2.1
  unfold wpX_tick
  refine ⟨_, hX _ ⟨_, oX _ ?_⟩⟩
  refine ny_seen (by omega) ⟨_, hY _ ⟨_, oY _ ?_⟩⟩
  exact nb_rel ⟨⟨hb.1, hb.2.1, by omega, hb.2.2.2⟩, I.2.1, E1, hO2, I.2.2.2.2⟩
