/-! finders, frames, small methods: the component (nx_) and the reference (ny_), each with a general post -/
section
variable {cn e o r : Nat} {rt rx ms fn pi dr : Int32} {eA eS eL eT eP eC qI qD oA oS oT oP rA rM fr sn : Nat → Int32}
theorem nx_findOwn_n {post : Int32 → Prop} {x : Int32} (hb : o ≤ 8) (hn : ∀ j, j < o → ¬ oA j = x) (H : post (-1)) : wpX_findOwn post (nI cn, rt, rx, ms, nI e, nI o, nI r, fn, pi, dr, eA, eS, eL, eT, eP, eC, qI, qD, oA, oS, oT, oP, rA, rM, nb_fp 0 fr, nb_fp 1 fr, nb_fp 2 fr, nb_fp 3 fr, nb_fp 4 fr) x := by
  have key : ∀ d j : Nat, j + d = o → wX_findOwn_2 post x (nI cn) rt rx ms (nI e) (nI o) (nI r) fn pi dr eA eS eL eT eP eC qI qD oA oS oT oP rA rM (nb_fp 0 fr) (nb_fp 1 fr) (nb_fp 2 fr) (nb_fp 3 fr) (nb_fp 4 fr) (d + 1) (nI j) := by
    intro d
    induction d with
    | zero =>
      intro j hj
      exact br_t (nI_le (by omega) (by omega)) H
    | succ d ih =>
      intro j hj
      refine br_f (nI_ge (by omega) (by omega)) ⟨nb_ix (by omega) (by omega), br_f ?_ (nm_r (nI_1 j) (ih (j + 1) (by omega)))⟩
      rw [nb_cl (by omega)]
      exact hn j (by omega)
  exact ⟨o + 1, key o 0 (by omega)⟩
theorem nx_findOwn_s {post : Int32 → Prop} {x : Int32} (hb : o ≤ 8) (i : Nat) (hi : i < o) (hy : oA i = x) (hn : ∀ j, j < i → ¬ oA j = x) (H : post (nI i)) : wpX_findOwn post (nI cn, rt, rx, ms, nI e, nI o, nI r, fn, pi, dr, eA, eS, eL, eT, eP, eC, qI, qD, oA, oS, oT, oP, rA, rM, nb_fp 0 fr, nb_fp 1 fr, nb_fp 2 fr, nb_fp 3 fr, nb_fp 4 fr) x := by
  have key : ∀ d j : Nat, j + d = i → wX_findOwn_2 post x (nI cn) rt rx ms (nI e) (nI o) (nI r) fn pi dr eA eS eL eT eP eC qI qD oA oS oT oP rA rM (nb_fp 0 fr) (nb_fp 1 fr) (nb_fp 2 fr) (nb_fp 3 fr) (nb_fp 4 fr) (d + 1) (nI j) := by
    intro d
    induction d with
    | zero =>
      intro j hj
      obtain rfl : j = i := by omega
      refine br_f (nI_ge (by omega) (by omega)) ⟨nb_ix (by omega) (by omega), br_t ?_ H⟩
      rw [nb_cl (by omega)]
      exact hy
    | succ d ih =>
      intro j hj
      refine br_f (nI_ge (by omega) (by omega)) ⟨nb_ix (by omega) (by omega), br_f ?_ (nm_r (nI_1 j) (ih (j + 1) (by omega)))⟩
      rw [nb_cl (by omega)]
      exact hn j (by omega)
  exact ⟨i + 1, key i 0 (by omega)⟩
theorem nx_findRouter_n {post : Int32 → Prop} {x : Int32} (hb : r ≤ 4) (hn : ∀ j, j < r → ¬ rA j = x) (H : post (-1)) : wpX_findRouter post (nI cn, rt, rx, ms, nI e, nI o, nI r, fn, pi, dr, eA, eS, eL, eT, eP, eC, qI, qD, oA, oS, oT, oP, rA, rM, nb_fp 0 fr, nb_fp 1 fr, nb_fp 2 fr, nb_fp 3 fr, nb_fp 4 fr) x := by
  have key : ∀ d j : Nat, j + d = r → wX_findRouter_2 post x (nI cn) rt rx ms (nI e) (nI o) (nI r) fn pi dr eA eS eL eT eP eC qI qD oA oS oT oP rA rM (nb_fp 0 fr) (nb_fp 1 fr) (nb_fp 2 fr) (nb_fp 3 fr) (nb_fp 4 fr) (d + 1) (nI j) := by
    intro d
    induction d with
    | zero =>
      intro j hj
      exact br_t (nI_le (by omega) (by omega)) H
    | succ d ih =>
      intro j hj
      refine br_f (nI_ge (by omega) (by omega)) ⟨nb_ix (by omega) (by omega), br_f ?_ (nm_r (nI_1 j) (ih (j + 1) (by omega)))⟩
      rw [nb_cl (by omega)]
      exact hn j (by omega)
  exact ⟨r + 1, key r 0 (by omega)⟩
theorem nx_findRouter_s {post : Int32 → Prop} {x : Int32} (hb : r ≤ 4) (i : Nat) (hi : i < r) (hy : rA i = x) (hn : ∀ j, j < i → ¬ rA j = x) (H : post (nI i)) : wpX_findRouter post (nI cn, rt, rx, ms, nI e, nI o, nI r, fn, pi, dr, eA, eS, eL, eT, eP, eC, qI, qD, oA, oS, oT, oP, rA, rM, nb_fp 0 fr, nb_fp 1 fr, nb_fp 2 fr, nb_fp 3 fr, nb_fp 4 fr) x := by
  have key : ∀ d j : Nat, j + d = i → wX_findRouter_2 post x (nI cn) rt rx ms (nI e) (nI o) (nI r) fn pi dr eA eS eL eT eP eC qI qD oA oS oT oP rA rM (nb_fp 0 fr) (nb_fp 1 fr) (nb_fp 2 fr) (nb_fp 3 fr) (nb_fp 4 fr) (d + 1) (nI j) := by
    intro d
    induction d with
    | zero =>
      intro j hj
      obtain rfl : j = i := by omega
      refine br_f (nI_ge (by omega) (by omega)) ⟨nb_ix (by omega) (by omega), br_t ?_ H⟩
      rw [nb_cl (by omega)]
      exact hy
    | succ d ih =>
      intro j hj
      refine br_f (nI_ge (by omega) (by omega)) ⟨nb_ix (by omega) (by omega), br_f ?_ (nm_r (nI_1 j) (ih (j + 1) (by omega)))⟩
      rw [nb_cl (by omega)]
      exact hn j (by omega)
  exact ⟨i + 1, key i 0 (by omega)⟩
theorem nx_findEntry_n {post : Int32 → Prop} {x : Int32} (hb : e ≤ 16) (hn : ∀ j, j < e → ¬ eA j = x) (H : post (-1)) : wpX_findEntry post (nI cn, rt, rx, ms, nI e, nI o, nI r, fn, pi, dr, eA, eS, eL, eT, eP, eC, qI, qD, oA, oS, oT, oP, rA, rM, nb_fp 0 fr, nb_fp 1 fr, nb_fp 2 fr, nb_fp 3 fr, nb_fp 4 fr) x := by
  have key : ∀ d j : Nat, j + d = e → wX_findEntry_2 post x (nI cn) rt rx ms (nI e) (nI o) (nI r) fn pi dr eA eS eL eT eP eC qI qD oA oS oT oP rA rM (nb_fp 0 fr) (nb_fp 1 fr) (nb_fp 2 fr) (nb_fp 3 fr) (nb_fp 4 fr) (d + 1) (nI j) := by
    intro d
    induction d with
    | zero =>
      intro j hj
      exact br_t (nI_le (by omega) (by omega)) H
    | succ d ih =>
      intro j hj
      refine br_f (nI_ge (by omega) (by omega)) ⟨nb_ix (by omega) (by omega), br_f ?_ (nm_r (nI_1 j) (ih (j + 1) (by omega)))⟩
      rw [nb_cl (by omega)]
      exact hn j (by omega)
  exact ⟨e + 1, key e 0 (by omega)⟩
theorem nx_findEntry_s {post : Int32 → Prop} {x : Int32} (hb : e ≤ 16) (i : Nat) (hi : i < e) (hy : eA i = x) (hn : ∀ j, j < i → ¬ eA j = x) (H : post (nI i)) : wpX_findEntry post (nI cn, rt, rx, ms, nI e, nI o, nI r, fn, pi, dr, eA, eS, eL, eT, eP, eC, qI, qD, oA, oS, oT, oP, rA, rM, nb_fp 0 fr, nb_fp 1 fr, nb_fp 2 fr, nb_fp 3 fr, nb_fp 4 fr) x := by
  have key : ∀ d j : Nat, j + d = i → wX_findEntry_2 post x (nI cn) rt rx ms (nI e) (nI o) (nI r) fn pi dr eA eS eL eT eP eC qI qD oA oS oT oP rA rM (nb_fp 0 fr) (nb_fp 1 fr) (nb_fp 2 fr) (nb_fp 3 fr) (nb_fp 4 fr) (d + 1) (nI j) := by
    intro d
    induction d with
    | zero =>
      intro j hj
      obtain rfl : j = i := by omega
      refine br_f (nI_ge (by omega) (by omega)) ⟨nb_ix (by omega) (by omega), br_t ?_ H⟩
      rw [nb_cl (by omega)]
      exact hy
    | succ d ih =>
      intro j hj
      refine br_f (nI_ge (by omega) (by omega)) ⟨nb_ix (by omega) (by omega), br_f ?_ (nm_r (nI_1 j) (ih (j + 1) (by omega)))⟩
      rw [nb_cl (by omega)]
      exact hn j (by omega)
  exact ⟨i + 1, key i 0 (by omega)⟩
theorem nx_firstUnmarkedRouter_n {post : Int32 → Prop} (hb : r ≤ 4) (hn : ∀ j, j < r → ¬ rM j = 0) (H : post (-1)) : wpX_firstUnmarkedRouter post (nI cn, rt, rx, ms, nI e, nI o, nI r, fn, pi, dr, eA, eS, eL, eT, eP, eC, qI, qD, oA, oS, oT, oP, rA, rM, nb_fp 0 fr, nb_fp 1 fr, nb_fp 2 fr, nb_fp 3 fr, nb_fp 4 fr) := by
  have key : ∀ d j : Nat, j + d = r → wX_firstUnmarkedRouter_2 post (nI cn) rt rx ms (nI e) (nI o) (nI r) fn pi dr eA eS eL eT eP eC qI qD oA oS oT oP rA rM (nb_fp 0 fr) (nb_fp 1 fr) (nb_fp 2 fr) (nb_fp 3 fr) (nb_fp 4 fr) (d + 1) (nI j) := by
    intro d
    induction d with
    | zero =>
      intro j hj
      exact br_t (nI_le (by omega) (by omega)) H
    | succ d ih =>
      intro j hj
      refine br_f (nI_ge (by omega) (by omega)) ⟨nb_ix (by omega) (by omega), br_f ?_ (nm_r (nI_1 j) (ih (j + 1) (by omega)))⟩
      rw [nb_cl (by omega)]
      exact hn j (by omega)
  exact ⟨r + 1, key r 0 (by omega)⟩
theorem nx_firstUnmarkedRouter_s {post : Int32 → Prop} (hb : r ≤ 4) (i : Nat) (hi : i < r) (hy : rM i = 0) (hn : ∀ j, j < i → ¬ rM j = 0) (H : post (nI i)) : wpX_firstUnmarkedRouter post (nI cn, rt, rx, ms, nI e, nI o, nI r, fn, pi, dr, eA, eS, eL, eT, eP, eC, qI, qD, oA, oS, oT, oP, rA, rM, nb_fp 0 fr, nb_fp 1 fr, nb_fp 2 fr, nb_fp 3 fr, nb_fp 4 fr) := by
  have key : ∀ d j : Nat, j + d = i → wX_firstUnmarkedRouter_2 post (nI cn) rt rx ms (nI e) (nI o) (nI r) fn pi dr eA eS eL eT eP eC qI qD oA oS oT oP rA rM (nb_fp 0 fr) (nb_fp 1 fr) (nb_fp 2 fr) (nb_fp 3 fr) (nb_fp 4 fr) (d + 1) (nI j) := by
    intro d
    induction d with
    | zero =>
      intro j hj
      obtain rfl : j = i := by omega
      refine br_f (nI_ge (by omega) (by omega)) ⟨nb_ix (by omega) (by omega), br_t ?_ H⟩
      rw [nb_cl (by omega)]
      exact hy
    | succ d ih =>
      intro j hj
      refine br_f (nI_ge (by omega) (by omega)) ⟨nb_ix (by omega) (by omega), br_f ?_ (nm_r (nI_1 j) (ih (j + 1) (by omega)))⟩
      rw [nb_cl (by omega)]
      exact hn j (by omega)
  exact ⟨i + 1, key i 0 (by omega)⟩
theorem nx_oldestNotIncomplete_n {post : Int32 → Prop} (hb : e ≤ 16) (hn : ∀ j, j < e → eS j = 1) (H : post (-1)) : wpX_oldestNotIncomplete post (nI cn, rt, rx, ms, nI e, nI o, nI r, fn, pi, dr, eA, eS, eL, eT, eP, eC, qI, qD, oA, oS, oT, oP, rA, rM, nb_fp 0 fr, nb_fp 1 fr, nb_fp 2 fr, nb_fp 3 fr, nb_fp 4 fr) := by
  have key : ∀ d j : Nat, j + d = e → wX_oldestNotIncomplete_2 post (nI cn) rt rx ms (nI e) (nI o) (nI r) fn pi dr eA eS eL eT eP eC qI qD oA oS oT oP rA rM (nb_fp 0 fr) (nb_fp 1 fr) (nb_fp 2 fr) (nb_fp 3 fr) (nb_fp 4 fr) (d + 1) (nI j) := by
    intro d
    induction d with
    | zero =>
      intro j hj
      exact br_t (nI_le (by omega) (by omega)) H
    | succ d ih =>
      intro j hj
      refine br_f (nI_ge (by omega) (by omega)) ⟨nb_ix (by omega) (by omega), br_t ?_ (nm_r (nI_1 j) (ih (j + 1) (by omega)))⟩
      rw [nb_cl (by omega)]
      exact hn j (by omega)
  exact ⟨e + 1, key e 0 (by omega)⟩
theorem nx_oldestNotIncomplete_s {post : Int32 → Prop} (hb : e ≤ 16) (i : Nat) (hi : i < e) (hy : ¬ eS i = 1) (hn : ∀ j, j < i → eS j = 1) (H : post (nI i)) : wpX_oldestNotIncomplete post (nI cn, rt, rx, ms, nI e, nI o, nI r, fn, pi, dr, eA, eS, eL, eT, eP, eC, qI, qD, oA, oS, oT, oP, rA, rM, nb_fp 0 fr, nb_fp 1 fr, nb_fp 2 fr, nb_fp 3 fr, nb_fp 4 fr) := by
  have key : ∀ d j : Nat, j + d = i → wX_oldestNotIncomplete_2 post (nI cn) rt rx ms (nI e) (nI o) (nI r) fn pi dr eA eS eL eT eP eC qI qD oA oS oT oP rA rM (nb_fp 0 fr) (nb_fp 1 fr) (nb_fp 2 fr) (nb_fp 3 fr) (nb_fp 4 fr) (d + 1) (nI j) := by
    intro d
    induction d with
    | zero =>
      intro j hj
      obtain rfl : j = i := by omega
      refine br_f (nI_ge (by omega) (by omega)) ⟨nb_ix (by omega) (by omega), br_f ?_ H⟩
      rw [nb_cl (by omega)]
      exact hy
    | succ d ih =>
      intro j hj
      refine br_f (nI_ge (by omega) (by omega)) ⟨nb_ix (by omega) (by omega), br_t ?_ (nm_r (nI_1 j) (ih (j + 1) (by omega)))⟩
      rw [nb_cl (by omega)]
      exact hn j (by omega)
  exact ⟨i + 1, key i 0 (by omega)⟩
theorem ny_findOwn_n {post : Int32 → Prop} {x : Int32} (hb : o ≤ 8) (hn : ∀ j, j < o → ¬ oA j = x) (H : post (-1)) : wpY_findOwn post (nI cn, rt, rx, ms, nI e, nI o, nI r, fn, pi, dr, eA, eS, eL, eT, eP, eC, qI, qD, sn, oA, oS, oT, oP, rA, rM, fr) x := by
  have key : ∀ d j : Nat, j + d = o → wY_findOwn_2 post x (nI cn) rt rx ms (nI e) (nI o) (nI r) fn pi dr eA eS eL eT eP eC qI qD sn oA oS oT oP rA rM fr (d + 1) (nI j) := by
    intro d
    induction d with
    | zero =>
      intro j hj
      exact br_t (nI_le (by omega) (by omega)) H
    | succ d ih =>
      intro j hj
      refine br_f (nI_ge (by omega) (by omega)) ⟨nb_ix (by omega) (by omega), br_f ?_ (nm_r (nI_1 j) (ih (j + 1) (by omega)))⟩
      rw [nb_cl (by omega)]
      exact hn j (by omega)
  exact ⟨o + 1, key o 0 (by omega)⟩
theorem ny_findOwn_s {post : Int32 → Prop} {x : Int32} (hb : o ≤ 8) (i : Nat) (hi : i < o) (hy : oA i = x) (hn : ∀ j, j < i → ¬ oA j = x) (H : post (nI i)) : wpY_findOwn post (nI cn, rt, rx, ms, nI e, nI o, nI r, fn, pi, dr, eA, eS, eL, eT, eP, eC, qI, qD, sn, oA, oS, oT, oP, rA, rM, fr) x := by
  have key : ∀ d j : Nat, j + d = i → wY_findOwn_2 post x (nI cn) rt rx ms (nI e) (nI o) (nI r) fn pi dr eA eS eL eT eP eC qI qD sn oA oS oT oP rA rM fr (d + 1) (nI j) := by
    intro d
    induction d with
    | zero =>
      intro j hj
      obtain rfl : j = i := by omega
      refine br_f (nI_ge (by omega) (by omega)) ⟨nb_ix (by omega) (by omega), br_t ?_ H⟩
      rw [nb_cl (by omega)]
      exact hy
    | succ d ih =>
      intro j hj
      refine br_f (nI_ge (by omega) (by omega)) ⟨nb_ix (by omega) (by omega), br_f ?_ (nm_r (nI_1 j) (ih (j + 1) (by omega)))⟩
      rw [nb_cl (by omega)]
      exact hn j (by omega)
  exact ⟨i + 1, key i 0 (by omega)⟩
theorem ny_findRouter_n {post : Int32 → Prop} {x : Int32} (hb : r ≤ 4) (hn : ∀ j, j < r → ¬ rA j = x) (H : post (-1)) : wpY_findRouter post (nI cn, rt, rx, ms, nI e, nI o, nI r, fn, pi, dr, eA, eS, eL, eT, eP, eC, qI, qD, sn, oA, oS, oT, oP, rA, rM, fr) x := by
  have key : ∀ d j : Nat, j + d = r → wY_findRouter_2 post x (nI cn) rt rx ms (nI e) (nI o) (nI r) fn pi dr eA eS eL eT eP eC qI qD sn oA oS oT oP rA rM fr (d + 1) (nI j) := by
    intro d
    induction d with
    | zero =>
      intro j hj
      exact br_t (nI_le (by omega) (by omega)) H
    | succ d ih =>
      intro j hj
      refine br_f (nI_ge (by omega) (by omega)) ⟨nb_ix (by omega) (by omega), br_f ?_ (nm_r (nI_1 j) (ih (j + 1) (by omega)))⟩
      rw [nb_cl (by omega)]
      exact hn j (by omega)
  exact ⟨r + 1, key r 0 (by omega)⟩
theorem ny_findRouter_s {post : Int32 → Prop} {x : Int32} (hb : r ≤ 4) (i : Nat) (hi : i < r) (hy : rA i = x) (hn : ∀ j, j < i → ¬ rA j = x) (H : post (nI i)) : wpY_findRouter post (nI cn, rt, rx, ms, nI e, nI o, nI r, fn, pi, dr, eA, eS, eL, eT, eP, eC, qI, qD, sn, oA, oS, oT, oP, rA, rM, fr) x := by
  have key : ∀ d j : Nat, j + d = i → wY_findRouter_2 post x (nI cn) rt rx ms (nI e) (nI o) (nI r) fn pi dr eA eS eL eT eP eC qI qD sn oA oS oT oP rA rM fr (d + 1) (nI j) := by
    intro d
    induction d with
    | zero =>
      intro j hj
      obtain rfl : j = i := by omega
      refine br_f (nI_ge (by omega) (by omega)) ⟨nb_ix (by omega) (by omega), br_t ?_ H⟩
      rw [nb_cl (by omega)]
      exact hy
    | succ d ih =>
      intro j hj
      refine br_f (nI_ge (by omega) (by omega)) ⟨nb_ix (by omega) (by omega), br_f ?_ (nm_r (nI_1 j) (ih (j + 1) (by omega)))⟩
      rw [nb_cl (by omega)]
      exact hn j (by omega)
  exact ⟨i + 1, key i 0 (by omega)⟩
theorem ny_find_n {post : Int32 → Prop} {x : Int32} (hb : e ≤ 16) (hn : ∀ j, j < e → ¬ eA j = x) (H : post (-1)) : wpY_find post (nI cn, rt, rx, ms, nI e, nI o, nI r, fn, pi, dr, eA, eS, eL, eT, eP, eC, qI, qD, sn, oA, oS, oT, oP, rA, rM, fr) x := by
  have key : ∀ d j : Nat, j + d = e → wY_find_2 post x (nI cn) rt rx ms (nI e) (nI o) (nI r) fn pi dr eA eS eL eT eP eC qI qD sn oA oS oT oP rA rM fr (d + 1) (nI j) := by
    intro d
    induction d with
    | zero =>
      intro j hj
      exact br_t (nI_le (by omega) (by omega)) H
    | succ d ih =>
      intro j hj
      refine br_f (nI_ge (by omega) (by omega)) ⟨nb_ix (by omega) (by omega), br_f ?_ (nm_r (nI_1 j) (ih (j + 1) (by omega)))⟩
      rw [nb_cl (by omega)]
      exact hn j (by omega)
  exact ⟨e + 1, key e 0 (by omega)⟩
theorem ny_find_s {post : Int32 → Prop} {x : Int32} (hb : e ≤ 16) (i : Nat) (hi : i < e) (hy : eA i = x) (hn : ∀ j, j < i → ¬ eA j = x) (H : post (nI i)) : wpY_find post (nI cn, rt, rx, ms, nI e, nI o, nI r, fn, pi, dr, eA, eS, eL, eT, eP, eC, qI, qD, sn, oA, oS, oT, oP, rA, rM, fr) x := by
  have key : ∀ d j : Nat, j + d = i → wY_find_2 post x (nI cn) rt rx ms (nI e) (nI o) (nI r) fn pi dr eA eS eL eT eP eC qI qD sn oA oS oT oP rA rM fr (d + 1) (nI j) := by
    intro d
    induction d with
    | zero =>
      intro j hj
      obtain rfl : j = i := by omega
      refine br_f (nI_ge (by omega) (by omega)) ⟨nb_ix (by omega) (by omega), br_t ?_ H⟩
      rw [nb_cl (by omega)]
      exact hy
    | succ d ih =>
      intro j hj
      refine br_f (nI_ge (by omega) (by omega)) ⟨nb_ix (by omega) (by omega), br_f ?_ (nm_r (nI_1 j) (ih (j + 1) (by omega)))⟩
      rw [nb_cl (by omega)]
      exact hn j (by omega)
  exact ⟨i + 1, key i 0 (by omega)⟩
end
