section
theorem pk_us {f : Nat → Int32} {k : Nat} {x : Int32} : upd f k x k = x := if_pos rfl
theorem pk_un {f : Nat → Int32} {k j : Nat} {x : Int32} (h : j ≠ k) : upd f k x j = f j := if_neg h
theorem pk_sub {a b : Nat} (h : b ≤ a) : nI a - nI b = nI (a - b) := by
  obtain ⟨c, rfl⟩ : ∃ c, a = c + b := ⟨a - b, by omega⟩
  rw [← nI_add, Int32.add_sub_cancel, Nat.add_sub_cancel]
theorem pk_m1 (n : Nat) : nI (n + 1) + (-1) = nI n := by
  rw [← nI_1, Int32.add_assoc, show (1 : Int32) + (-1) = 0 from rfl, Int32.add_zero]
theorem pk_mul (a b : Nat) : nI a * nI b = nI (a * b) := (Int32.ofNat_mul a b).symm
theorem pk_ix (x : Int32) {n : Nat} (hn : n < 2 ^ 31) : x < 0 ∨ nI n ≤ x ∨ ∃ j : Nat, j < n ∧ x = nI j := by
  by_cases h : x < 0
  · exact Or.inl h
  · obtain ⟨j, hj, rfl⟩ := nI_of h
    by_cases h2 : j < n
    · exact Or.inr (Or.inr ⟨j, h2, rfl⟩)
    · exact Or.inr (Or.inl (nI_le (by omega) hj))
theorem pk_le {x y : Int32} {A B : Prop} (a b : Nat) (f : a ≤ b → A) (g : b < a → B) (hx : x = nI a := by rfl) (hy : y = nI b := by rfl) (ha : a < 2 ^ 31 := by omega) (hb : b < 2 ^ 31 := by omega) : (x ≤ y → A) ∧ (¬ x ≤ y → B) := by
  subst hx hy
  rw [nI_leI ha hb]
  exact ⟨f, fun z => g (by omega)⟩
theorem pk_lt {x y : Int32} {A B : Prop} (a b : Nat) (f : a < b → A) (g : b ≤ a → B) (hx : x = nI a := by rfl) (hy : y = nI b := by rfl) (ha : a < 2 ^ 31 := by omega) (hb : b < 2 ^ 31 := by omega) : (x < y → A) ∧ (¬ x < y → B) := by
  subst hx hy
  rw [nI_ltI ha hb]
  exact ⟨f, fun z => g (by omega)⟩
theorem pk_eq {x y : Int32} {A B : Prop} (a b : Nat) (f : a = b → A) (g : a ≠ b → B) (hx : x = nI a := by rfl) (hy : y = nI b := by rfl) (ha : a < 2 ^ 31 := by omega) (hb : b < 2 ^ 31 := by omega) : (x = y → A) ∧ (¬ x = y → B) := by
  subst hx hy
  rw [nI_eq ha hb]
  exact ⟨f, g⟩
theorem pk_in {x : Int32} (n N : Nat) (h : n < N) (hx : x = nI n := by rfl) (hN : N < 2 ^ 31 := by omega) : vp_in x N := by
  subst hx
  exact vp_in_nI h hN
theorem pk_cl {x : Int32} (n : Nat) (hx : x = nI n := by rfl) (h : n < 2 ^ 31 := by omega) : x.toNatClampNeg = n := by
  subst hx
  exact nI_clamp h
theorem pk_tn {n : Nat} (h : n < 2 ^ 32) : (nI n).toBitVec.toNat = n := Nat.mod_eq_of_lt h
theorem pk_and (x : Int32) {m : Int32} (k : Nat) (hm : m.toBitVec.toNat = 2 ^ k - 1) : x &&& m = nI (x.toBitVec.toNat % 2 ^ k) := by
  apply Int32.toBitVec_inj.mp
  apply BitVec.eq_of_toNat_eq
  rw [Int32.toBitVec_and, BitVec.toNat_and, hm, Nat.and_two_pow_sub_one_eq_mod]
  show _ = (BitVec.ofNat 32 _).toNat
  rw [BitVec.toNat_ofNat]
  exact (Nat.mod_eq_of_lt (Nat.lt_of_le_of_lt (Nat.mod_le _ _) x.toBitVec.isLt)).symm
theorem pk_andN {n : Nat} (h : n < 2 ^ 32) {m : Int32} (k : Nat) (hm : m.toBitVec.toNat = 2 ^ k - 1) : nI n &&& m = nI (n % 2 ^ k) := by
  rw [pk_and _ k hm, pk_tn h]
theorem pk_andE (x : Int32) {m : Int32} (k : Nat) (hm : m.toBitVec.toNat = 2 ^ k - 1) : ∃ j : Nat, j < 2 ^ k ∧ x &&& m = nI j := ⟨_, Nat.mod_lt _ (Nat.two_pow_pos k), pk_and x k hm⟩
theorem pk_andIn (x : Int32) {m : Int32} (k : Nat) (hm : m.toBitVec.toNat = 2 ^ k - 1) (hk : k ≤ 30) : vp_in (x &&& m) (2 ^ k) := by
  obtain ⟨j, hj, e⟩ := pk_andE x k hm
  rw [e]
  exact vp_in_nI hj (Nat.lt_of_le_of_lt (Nat.pow_le_pow_right (by decide) hk) (by decide))
/-! deletion moves arrays down -/
def nb_sh (i t : Nat) (a : Nat → Int32) : Nat → Int32 := fun j => if i ≤ j ∧ j < t then a (j + 1) else a j
def nb_sq (i t : Nat) (a : Nat → Int32) : Nat → Int32 := fun j => if 3 * i ≤ j ∧ j < 3 * t then a (j + 3) else a j
def nb_mk (t k : Nat) (a : Nat → Int32) : Nat → Int32 := fun j => if 3 * t ≤ j ∧ j < 3 * t + k then a (j + 3) else a j
theorem nb_sh0 (i : Nat) (a : Nat → Int32) : nb_sh i i a = a := by
  funext j
  exact if_neg (by omega)
theorem nb_sq0 (i : Nat) (a : Nat → Int32) : nb_sq i i a = a := by
  funext j
  exact if_neg (by omega)
theorem nb_mk0 (t : Nat) (a : Nat → Int32) : nb_mk t 0 a = a := by
  funext j
  exact if_neg (by omega)
theorem nb_shs {i t : Nat} (h : i ≤ t) (a : Nat → Int32) : upd (nb_sh i t a) t (nb_sh i t a (t + 1)) = nb_sh i (t + 1) a := by
  funext j
  simp only [upd, nb_sh]
  by_cases hj : j = t
  · subst hj
    rw [if_pos rfl, if_neg (by omega), if_pos (by omega)]
  · rw [if_neg hj]
    by_cases hk : i ≤ j ∧ j < t
    · rw [if_pos hk, if_pos (by omega)]
    · rw [if_neg hk, if_neg (by omega)]
theorem nb_mks {t k : Nat} (hk : k < 3) (a : Nat → Int32) : upd (nb_mk t k a) (3 * t + k) (nb_mk t k a (3 * t + k + 3)) = nb_mk t (k + 1) a := by
  funext j
  simp only [upd, nb_mk]
  by_cases hj : j = 3 * t + k
  · subst hj
    rw [if_pos rfl, if_neg (by omega), if_pos (by omega)]
  · rw [if_neg hj]
    by_cases hk : 3 * t ≤ j ∧ j < 3 * t + k
    · rw [if_pos hk, if_pos (by omega)]
    · rw [if_neg hk, if_neg (by omega)]
theorem nb_sqs {i t : Nat} (h : i ≤ t) (a : Nat → Int32) : nb_mk t 3 (nb_sq i t a) = nb_sq i (t + 1) a := by
  funext j
  simp only [nb_mk, nb_sq]
  by_cases hj : 3 * t ≤ j ∧ j < 3 * t + 3
  · rw [if_pos hj, if_neg (by omega), if_pos (by omega)]
  · rw [if_neg hj]
    by_cases hk : 3 * i ≤ j ∧ j < 3 * t
    · rw [if_pos hk, if_pos (by omega)]
    · rw [if_neg hk, if_neg (by omega)]
theorem nb_uu (a : Nat → Int32) (i : Nat) (x y : Int32) : upd (upd a i x) i y = upd a i y := by
  funext j
  simp only [upd]
  by_cases h : j = i
  · rw [if_pos h, if_pos h]
  · rw [if_neg h, if_neg h, if_neg h]
theorem nb_ue (a : Nat → Int32) (i : Nat) : upd a i (a i) = a := by
  funext j
  simp only [upd]
  by_cases h : j = i
  · rw [if_pos h, h]
  · rw [if_neg h]
theorem nb_uv {a : Nat → Int32} {i : Nat} {x : Int32} (h : a i = x) : upd a i x = a := by
  rw [← h]
  exact nb_ue a i
/-! frames: the component's five arrays as pictures of the reference's one -/
def nb_fp (f : Nat) (fr : Nat → Int32) : Nat → Int32 := fun s => fr (5 * s + f)
def nb_em (fr : Nat → Int32) (s : Nat) (k t l p h : Int32) : Nat → Int32 := upd (upd (upd (upd (upd fr (5 * s) k) (5 * s + 1) t) (5 * s + 2) l) (5 * s + 3) p) (5 * s + 4) h
theorem nb_fp0 (fr : Nat → Int32) (s : Nat) (k t l p h : Int32) : nb_fp 0 (nb_em fr s k t l p h) = upd (nb_fp 0 fr) s k := by
  funext j
  simp only [nb_fp, nb_em, upd]
  by_cases hj : j = s
  · subst hj
    rw [if_neg (by omega), if_neg (by omega), if_neg (by omega), if_neg (by omega), if_pos (by omega), if_pos rfl]
  · rw [if_neg (by omega), if_neg (by omega), if_neg (by omega), if_neg (by omega), if_neg (by omega), if_neg hj]
theorem nb_fp1 (fr : Nat → Int32) (s : Nat) (k t l p h : Int32) : nb_fp 1 (nb_em fr s k t l p h) = upd (nb_fp 1 fr) s t := by
  funext j
  simp only [nb_fp, nb_em, upd]
  by_cases hj : j = s
  · subst hj
    rw [if_neg (by omega), if_neg (by omega), if_neg (by omega), if_pos (by omega), if_pos rfl]
  · rw [if_neg (by omega), if_neg (by omega), if_neg (by omega), if_neg (by omega), if_neg (by omega), if_neg hj]
theorem nb_fp2 (fr : Nat → Int32) (s : Nat) (k t l p h : Int32) : nb_fp 2 (nb_em fr s k t l p h) = upd (nb_fp 2 fr) s l := by
  funext j
  simp only [nb_fp, nb_em, upd]
  by_cases hj : j = s
  · subst hj
    rw [if_neg (by omega), if_neg (by omega), if_pos (by omega), if_pos rfl]
  · rw [if_neg (by omega), if_neg (by omega), if_neg (by omega), if_neg (by omega), if_neg (by omega), if_neg hj]
theorem nb_fp3 (fr : Nat → Int32) (s : Nat) (k t l p h : Int32) : nb_fp 3 (nb_em fr s k t l p h) = upd (nb_fp 3 fr) s p := by
  funext j
  simp only [nb_fp, nb_em, upd]
  by_cases hj : j = s
  · subst hj
    rw [if_neg (by omega), if_pos (by omega), if_pos rfl]
  · rw [if_neg (by omega), if_neg (by omega), if_neg (by omega), if_neg (by omega), if_neg (by omega), if_neg hj]
theorem nb_fp4 (fr : Nat → Int32) (s : Nat) (k t l p h : Int32) : nb_fp 4 (nb_em fr s k t l p h) = upd (nb_fp 4 fr) s h := by
  funext j
  simp only [nb_fp, nb_em, upd]
  by_cases hj : j = s
  · subst hj
    rw [if_pos (by omega), if_pos rfl]
  · rw [if_neg (by omega), if_neg (by omega), if_neg (by omega), if_neg (by omega), if_neg (by omega), if_neg hj]
/-! the least index that holds -/
theorem nb_find (p : Nat → Prop) (n : Nat) : (∀ j, j < n → ¬ p j) ∨ ∃ i, i < n ∧ p i ∧ ∀ j, j < i → ¬ p j := by
  induction n with
  | zero => exact Or.inl (fun j h => absurd h (by omega))
  | succ n ih =>
    rcases ih with h | ⟨i, hi, hp, hl⟩
    · by_cases hn : p n
      · exact Or.inr ⟨n, by omega, hn, h⟩
      · refine Or.inl fun j hj => ?_
        by_cases e : j = n
        · rw [e]; exact hn
        · exact h j (by omega)
    · exact Or.inr ⟨i, by omega, hp, hl⟩
/-! numbers -/
theorem nb_dec {T : Int32} (h : 0 < T) : (0 < T - 1 ∧ ¬ T - 1 = 0 ∧ ¬ T - 1 ≤ 0) ∨ T - 1 = 0 := by
  obtain ⟨j, hj, rfl⟩ := nI_of (x := T) (Int32.not_lt.mpr (Int32.le_of_lt h))
  rw [← nI_0, nI_ltI (by omega) hj] at h
  obtain ⟨m, rfl⟩ : ∃ m, j = m + 1 := ⟨j - 1, by omega⟩
  rw [nI_pred]
  by_cases hm : m = 0
  · subst hm
    exact Or.inr nI_0
  · refine Or.inl ⟨?_, nI_ne0 (by omega) (by omega), nI_nle (by omega) (by omega)⟩
    rw [← nI_0]
    exact nI_lt (by omega) (by omega)
theorem nb_and63 (x : Int32) : ∃ s : Nat, s < 64 ∧ x &&& 63 = nI s := pk_andE x (m := 63) 6 (by decide)
theorem nb_ix {i n : Nat} (h : i < n) (hn : n ≤ 400) : vp_in (nI i) n := vp_in_nI h (by omega)
theorem nb_cl {i : Nat} (h : i < 400) : (nI i).toNatClampNeg = i := nI_clamp (by omega)
theorem nb_m1 {i : Nat} (h : i < 400) : ¬ nI i = -1 := by
  intro e
  have h1 := congrArg Int32.toInt e
  rw [nI_toInt (by omega), show (-1 : Int32).toInt = -1 from by decide] at h1
  omega
theorem nb_nn {i : Nat} (h : i < 400) : ¬ nI i < 0 := nI_pos (by omega)
theorem nb_n0 {i : Nat} (h : i < 400) : 0 ≤ nI i := nI_pos' (by omega)
/-! the entries -/
def nb_ok (x : Int32) : Prop := 1 ≤ x ∧ x ≤ 65535
def nb_ei (S L T P C : Int32) : Prop :=
  (S = 1 ∧ L = 0 ∧ 0 < T ∧ ∃ q : Nat, q ≤ 3 ∧ C = nI q) ∨ (S = 2 ∧ 0 < T ∧ P = 0 ∧ C = 0) ∨ (S = 3 ∧ T = 0 ∧ P = 0 ∧ C = 0) ∨ (S = 4 ∧ 0 < T ∧ P = 0 ∧ C = 0) ∨ (S = 5 ∧ 0 < T ∧ C = 0)
def nb_ent (e : Nat) (eA eS eL eT eP eC : Nat → Int32) : Prop :=
  (∀ i, i < e → nb_ok (eA i)) ∧ (∀ i, i < e → nb_ei (eS i) (eL i) (eT i) (eP i) (eC i)) ∧ (∀ i j, i < e → j < e → eA i = eA j → i = j)
theorem nb_ent_up {e : Nat} {eA eS eL eT eP eC : Nat → Int32} (i : Nat) {eS' eL' eT' eP' eC' : Nat → Int32} (h : nb_ent e eA eS eL eT eP eC) (hi : nb_ei (eS' i) (eL' i) (eT' i) (eP' i) (eC' i))
    (hs : ∀ j, j ≠ i → eS' j = eS j ∧ eL' j = eL j ∧ eT' j = eT j ∧ eP' j = eP j ∧ eC' j = eC j) : nb_ent e eA eS' eL' eT' eP' eC' := by
  refine ⟨h.1, fun j hj => ?_, h.2.2⟩
  by_cases e : j = i
  · rw [e]; exact hi
  · obtain ⟨h1, h2, h3, h4, h5⟩ := hs j e
    rw [h1, h2, h3, h4, h5]
    exact h.2.1 j hj
theorem nb_ent_del {e i : Nat} {eA eS eL eT eP eC : Nat → Int32} (h : nb_ent (e + 1) eA eS eL eT eP eC) (hi : i ≤ e) :
    nb_ent e (nb_sh i e eA) (nb_sh i e eS) (nb_sh i e eL) (nb_sh i e eT) (nb_sh i e eP) (nb_sh i e eC) := by
  have k : ∀ j, j < e → ∃ m, m < e + 1 ∧ (∀ a : Nat → Int32, nb_sh i e a j = a m) ∧ m = (if i ≤ j then j + 1 else j) := by
    intro j hj
    by_cases hk : i ≤ j
    · exact ⟨j + 1, by omega, fun a => if_pos ⟨hk, hj⟩, (if_pos hk).symm⟩
    · exact ⟨j, by omega, fun a => if_neg (by omega), (if_neg hk).symm⟩
  refine ⟨fun j hj => ?_, fun j hj => ?_, fun j l hj hl he => ?_⟩
  · obtain ⟨m, hm, ha, _⟩ := k j hj
    rw [ha]
    exact h.1 m hm
  · obtain ⟨m, hm, ha, _⟩ := k j hj
    rw [ha, ha, ha, ha, ha]
    exact h.2.1 m hm
  · obtain ⟨m, hm, ha, em⟩ := k j hj
    obtain ⟨m', hm', ha', em'⟩ := k l hl
    rw [ha, ha'] at he
    have := h.2.2 m m' hm hm' he
    by_cases h1 : i ≤ j
    · by_cases h2 : i ≤ l
      · rw [if_pos h1] at em; rw [if_pos h2] at em'; omega
      · rw [if_pos h1] at em; rw [if_neg h2] at em'; omega
    · by_cases h2 : i ≤ l
      · rw [if_neg h1] at em; rw [if_pos h2] at em'; omega
      · rw [if_neg h1] at em; rw [if_neg h2] at em'; omega
theorem nb_ent_app {e : Nat} {eA eS eL eT eP eC : Nat → Int32} {a S L T P C : Int32} (h : nb_ent e eA eS eL eT eP eC) (hn : ∀ j, j < e → ¬ eA j = a) (ha : nb_ok a) (hi : nb_ei S L T P C) :
    nb_ent (e + 1) (upd eA e a) (upd eS e S) (upd eL e L) (upd eT e T) (upd eP e P) (upd eC e C) := by
  refine ⟨fun j hj => ?_, fun j hj => ?_, fun j l hj hl he => ?_⟩
  · by_cases q : j = e
    · rw [q, pk_us]; exact ha
    · rw [pk_un q]; exact h.1 j (by omega)
  · by_cases q : j = e
    · rw [q, pk_us, pk_us, pk_us, pk_us, pk_us]; exact hi
    · rw [pk_un q, pk_un q, pk_un q, pk_un q, pk_un q]; exact h.2.1 j (by omega)
  · by_cases q : j = e
    · by_cases q' : l = e
      · omega
      · rw [q, pk_us, pk_un q'] at he
        exact absurd he.symm (hn l (by omega))
    · by_cases q' : l = e
      · rw [q', pk_us, pk_un q] at he
        exact absurd he (hn j (by omega))
      · rw [pk_un q, pk_un q'] at he
        exact h.2.2 j l (by omega) (by omega) he
theorem nb_sh_lt {i t j : Nat} (a : Nat → Int32) (h : j < i) : nb_sh i t a j = a j := if_neg (by omega)
theorem nb_sh_in {i t j : Nat} (a : Nat → Int32) (h : i ≤ j) (h2 : j < t) : nb_sh i t a j = a (j + 1) := if_pos ⟨h, h2⟩
theorem nb_sh_no {e i : Nat} {a : Nat → Int32} {x : Int32} (h : ∀ j, j < e + 1 → ¬ a j = x) (_ : i ≤ e) : ∀ j, j < e → ¬ nb_sh i e a j = x := by
  intro j hj
  by_cases hk : i ≤ j
  · rw [nb_sh_in a hk hj]; exact h _ (by omega)
  · rw [nb_sh_lt a (by omega)]; exact h _ (by omega)
/-! own addresses and routers -/
def nb_own (o : Nat) (oA oS oT : Nat → Int32) : Prop := ∀ i, i < o → nb_ok (oA i) ∧ ((oS i = 1 ∧ 0 < oT i) ∨ oS i = 2 ∨ oS i = 3)
def nb_rou (r : Nat) (rA : Nat → Int32) : Prop := ∀ i, i < r → nb_ok (rA i)
end
section
/-! finders, frames, small methods: the component (nx_) and the reference (ny_), each with a general post -/
section
variable {cn e o r : Nat} {rt rx ms fn pi dr : Int32} {eA eS eL eT eP eC qI qD oA oS oT oP rA rM fr sn : Nat → Int32}
theorem nx_findOwn_n {post : Int32 → Prop} {x : Int32} (hb : o ≤ 8) (hn : ∀ j, j < o → ¬ oA j = x) (H : post (-1)) : wpX_findOwn post (nI cn, rt, rx, ms, nI e, nI o, nI r, fn, pi, dr, eA, eS, eL, eT, eP, eC, qI, qD, oA, oS, oT, oP, rA, rM, nb_fp 0 fr, nb_fp 1 fr, nb_fp 2 fr, nb_fp 3 fr, nb_fp 4 fr) x := by
  have key : ∀ d j : Nat, j + d = o → wX_findOwn_2 post x (nI cn) rt rx ms (nI e) (nI o) (nI r) fn pi dr eA eS eL eT eP eC qI qD oA oS oT oP rA rM (nb_fp 0 fr) (nb_fp 1 fr) (nb_fp 2 fr) (nb_fp 3 fr) (nb_fp 4 fr) (d + 1) (nI j) := by
    intro d
    induction d with
    | zero =>
      intro j hj
      exact br_t (nI_le (by omega) (by omega)) H
    | succ d ih =>
      intro j hj
      refine br_f (nI_ge (by omega) (by omega)) ⟨nb_ix (by omega) (by omega), br_f ?_ (nm_r (nI_1 j) (ih (j + 1) (by omega)))⟩
      rw [nb_cl (by omega)]
      exact hn j (by omega)
  exact ⟨o + 1, key o 0 (by omega)⟩
theorem nx_findOwn_s {post : Int32 → Prop} {x : Int32} (hb : o ≤ 8) (i : Nat) (hi : i < o) (hy : oA i = x) (hn : ∀ j, j < i → ¬ oA j = x) (H : post (nI i)) : wpX_findOwn post (nI cn, rt, rx, ms, nI e, nI o, nI r, fn, pi, dr, eA, eS, eL, eT, eP, eC, qI, qD, oA, oS, oT, oP, rA, rM, nb_fp 0 fr, nb_fp 1 fr, nb_fp 2 fr, nb_fp 3 fr, nb_fp 4 fr) x := by
  have key : ∀ d j : Nat, j + d = i → wX_findOwn_2 post x (nI cn) rt rx ms (nI e) (nI o) (nI r) fn pi dr eA eS eL eT eP eC qI qD oA oS oT oP rA rM (nb_fp 0 fr) (nb_fp 1 fr) (nb_fp 2 fr) (nb_fp 3 fr) (nb_fp 4 fr) (d + 1) (nI j) := by
    intro d
    induction d with
    | zero =>
      intro j hj
      obtain rfl : j = i := by omega
      refine br_f (nI_ge (by omega) (by omega)) ⟨nb_ix (by omega) (by omega), br_t ?_ H⟩
      rw [nb_cl (by omega)]
      exact hy
    | succ d ih =>
      intro j hj
      refine br_f (nI_ge (by omega) (by omega)) ⟨nb_ix (by omega) (by omega), br_f ?_ (nm_r (nI_1 j) (ih (j + 1) (by omega)))⟩
      rw [nb_cl (by omega)]
      exact hn j (by omega)
  exact ⟨i + 1, key i 0 (by omega)⟩
theorem nx_findRouter_n {post : Int32 → Prop} {x : Int32} (hb : r ≤ 4) (hn : ∀ j, j < r → ¬ rA j = x) (H : post (-1)) : wpX_findRouter post (nI cn, rt, rx, ms, nI e, nI o, nI r, fn, pi, dr, eA, eS, eL, eT, eP, eC, qI, qD, oA, oS, oT, oP, rA, rM, nb_fp 0 fr, nb_fp 1 fr, nb_fp 2 fr, nb_fp 3 fr, nb_fp 4 fr) x := by
  have key : ∀ d j : Nat, j + d = r → wX_findRouter_2 post x (nI cn) rt rx ms (nI e) (nI o) (nI r) fn pi dr eA eS eL eT eP eC qI qD oA oS oT oP rA rM (nb_fp 0 fr) (nb_fp 1 fr) (nb_fp 2 fr) (nb_fp 3 fr) (nb_fp 4 fr) (d + 1) (nI j) := by
    intro d
    induction d with
    | zero =>
      intro j hj
      exact br_t (nI_le (by omega) (by omega)) H
    | succ d ih =>
      intro j hj
      refine br_f (nI_ge (by omega) (by omega)) ⟨nb_ix (by omega) (by omega), br_f ?_ (nm_r (nI_1 j) (ih (j + 1) (by omega)))⟩
      rw [nb_cl (by omega)]
      exact hn j (by omega)
  exact ⟨r + 1, key r 0 (by omega)⟩
theorem nx_findRouter_s {post : Int32 → Prop} {x : Int32} (hb : r ≤ 4) (i : Nat) (hi : i < r) (hy : rA i = x) (hn : ∀ j, j < i → ¬ rA j = x) (H : post (nI i)) : wpX_findRouter post (nI cn, rt, rx, ms, nI e, nI o, nI r, fn, pi, dr, eA, eS, eL, eT, eP, eC, qI, qD, oA, oS, oT, oP, rA, rM, nb_fp 0 fr, nb_fp 1 fr, nb_fp 2 fr, nb_fp 3 fr, nb_fp 4 fr) x := by
  have key : ∀ d j : Nat, j + d = i → wX_findRouter_2 post x (nI cn) rt rx ms (nI e) (nI o) (nI r) fn pi dr eA eS eL eT eP eC qI qD oA oS oT oP rA rM (nb_fp 0 fr) (nb_fp 1 fr) (nb_fp 2 fr) (nb_fp 3 fr) (nb_fp 4 fr) (d + 1) (nI j) := by
    intro d
    induction d with
    | zero =>
      intro j hj
      obtain rfl : j = i := by omega
      refine br_f (nI_ge (by omega) (by omega)) ⟨nb_ix (by omega) (by omega), br_t ?_ H⟩
      rw [nb_cl (by omega)]
      exact hy
    | succ d ih =>
      intro j hj
      refine br_f (nI_ge (by omega) (by omega)) ⟨nb_ix (by omega) (by omega), br_f ?_ (nm_r (nI_1 j) (ih (j + 1) (by omega)))⟩
      rw [nb_cl (by omega)]
      exact hn j (by omega)
  exact ⟨i + 1, key i 0 (by omega)⟩
theorem nx_findEntry_n {post : Int32 → Prop} {x : Int32} (hb : e ≤ 16) (hn : ∀ j, j < e → ¬ eA j = x) (H : post (-1)) : wpX_findEntry post (nI cn, rt, rx, ms, nI e, nI o, nI r, fn, pi, dr, eA, eS, eL, eT, eP, eC, qI, qD, oA, oS, oT, oP, rA, rM, nb_fp 0 fr, nb_fp 1 fr, nb_fp 2 fr, nb_fp 3 fr, nb_fp 4 fr) x := by
  have key : ∀ d j : Nat, j + d = e → wX_findEntry_2 post x (nI cn) rt rx ms (nI e) (nI o) (nI r) fn pi dr eA eS eL eT eP eC qI qD oA oS oT oP rA rM (nb_fp 0 fr) (nb_fp 1 fr) (nb_fp 2 fr) (nb_fp 3 fr) (nb_fp 4 fr) (d + 1) (nI j) := by
    intro d
    induction d with
    | zero =>
      intro j hj
      exact br_t (nI_le (by omega) (by omega)) H
    | succ d ih =>
      intro j hj
      refine br_f (nI_ge (by omega) (by omega)) ⟨nb_ix (by omega) (by omega), br_f ?_ (nm_r (nI_1 j) (ih (j + 1) (by omega)))⟩
      rw [nb_cl (by omega)]
      exact hn j (by omega)
  exact ⟨e + 1, key e 0 (by omega)⟩
theorem nx_findEntry_s {post : Int32 → Prop} {x : Int32} (hb : e ≤ 16) (i : Nat) (hi : i < e) (hy : eA i = x) (hn : ∀ j, j < i → ¬ eA j = x) (H : post (nI i)) : wpX_findEntry post (nI cn, rt, rx, ms, nI e, nI o, nI r, fn, pi, dr, eA, eS, eL, eT, eP, eC, qI, qD, oA, oS, oT, oP, rA, rM, nb_fp 0 fr, nb_fp 1 fr, nb_fp 2 fr, nb_fp 3 fr, nb_fp 4 fr) x := by
  have key : ∀ d j : Nat, j + d = i → wX_findEntry_2 post x (nI cn) rt rx ms (nI e) (nI o) (nI r) fn pi dr eA eS eL eT eP eC qI qD oA oS oT oP rA rM (nb_fp 0 fr) (nb_fp 1 fr) (nb_fp 2 fr) (nb_fp 3 fr) (nb_fp 4 fr) (d + 1) (nI j) := by
    intro d
    induction d with
    | zero =>
      intro j hj
      obtain rfl : j = i := by omega
      refine br_f (nI_ge (by omega) (by omega)) ⟨nb_ix (by omega) (by omega), br_t ?_ H⟩
      rw [nb_cl (by omega)]
      exact hy
    | succ d ih =>
      intro j hj
      refine br_f (nI_ge (by omega) (by omega)) ⟨nb_ix (by omega) (by omega), br_f ?_ (nm_r (nI_1 j) (ih (j + 1) (by omega)))⟩
      rw [nb_cl (by omega)]
      exact hn j (by omega)
  exact ⟨i + 1, key i 0 (by omega)⟩
theorem nx_firstUnmarkedRouter_n {post : Int32 → Prop} (hb : r ≤ 4) (hn : ∀ j, j < r → ¬ rM j = 0) (H : post (-1)) : wpX_firstUnmarkedRouter post (nI cn, rt, rx, ms, nI e, nI o, nI r, fn, pi, dr, eA, eS, eL, eT, eP, eC, qI, qD, oA, oS, oT, oP, rA, rM, nb_fp 0 fr, nb_fp 1 fr, nb_fp 2 fr, nb_fp 3 fr, nb_fp 4 fr) := by
  have key : ∀ d j : Nat, j + d = r → wX_firstUnmarkedRouter_2 post (nI cn) rt rx ms (nI e) (nI o) (nI r) fn pi dr eA eS eL eT eP eC qI qD oA oS oT oP rA rM (nb_fp 0 fr) (nb_fp 1 fr) (nb_fp 2 fr) (nb_fp 3 fr) (nb_fp 4 fr) (d + 1) (nI j) := by
    intro d
    induction d with
    | zero =>
      intro j hj
      exact br_t (nI_le (by omega) (by omega)) H
    | succ d ih =>
      intro j hj
      refine br_f (nI_ge (by omega) (by omega)) ⟨nb_ix (by omega) (by omega), br_f ?_ (nm_r (nI_1 j) (ih (j + 1) (by omega)))⟩
      rw [nb_cl (by omega)]
      exact hn j (by omega)
  exact ⟨r + 1, key r 0 (by omega)⟩
theorem nx_firstUnmarkedRouter_s {post : Int32 → Prop} (hb : r ≤ 4) (i : Nat) (hi : i < r) (hy : rM i = 0) (hn : ∀ j, j < i → ¬ rM j = 0) (H : post (nI i)) : wpX_firstUnmarkedRouter post (nI cn, rt, rx, ms, nI e, nI o, nI r, fn, pi, dr, eA, eS, eL, eT, eP, eC, qI, qD, oA, oS, oT, oP, rA, rM, nb_fp 0 fr, nb_fp 1 fr, nb_fp 2 fr, nb_fp 3 fr, nb_fp 4 fr) := by
  have key : ∀ d j : Nat, j + d = i → wX_firstUnmarkedRouter_2 post (nI cn) rt rx ms (nI e) (nI o) (nI r) fn pi dr eA eS eL eT eP eC qI qD oA oS oT oP rA rM (nb_fp 0 fr) (nb_fp 1 fr) (nb_fp 2 fr) (nb_fp 3 fr) (nb_fp 4 fr) (d + 1) (nI j) := by
    intro d
    induction d with
    | zero =>
      intro j hj
      obtain rfl : j = i := by omega
      refine br_f (nI_ge (by omega) (by omega)) ⟨nb_ix (by omega) (by omega), br_t ?_ H⟩
      rw [nb_cl (by omega)]
      exact hy
    | succ d ih =>
      intro j hj
      refine br_f (nI_ge (by omega) (by omega)) ⟨nb_ix (by omega) (by omega), br_f ?_ (nm_r (nI_1 j) (ih (j + 1) (by omega)))⟩
      rw [nb_cl (by omega)]
      exact hn j (by omega)
  exact ⟨i + 1, key i 0 (by omega)⟩
theorem nx_oldestNotIncomplete_n {post : Int32 → Prop} (hb : e ≤ 16) (hn : ∀ j, j < e → eS j = 1) (H : post (-1)) : wpX_oldestNotIncomplete post (nI cn, rt, rx, ms, nI e, nI o, nI r, fn, pi, dr, eA, eS, eL, eT, eP, eC, qI, qD, oA, oS, oT, oP, rA, rM, nb_fp 0 fr, nb_fp 1 fr, nb_fp 2 fr, nb_fp 3 fr, nb_fp 4 fr) := by
  have key : ∀ d j : Nat, j + d = e → wX_oldestNotIncomplete_2 post (nI cn) rt rx ms (nI e) (nI o) (nI r) fn pi dr eA eS eL eT eP eC qI qD oA oS oT oP rA rM (nb_fp 0 fr) (nb_fp 1 fr) (nb_fp 2 fr) (nb_fp 3 fr) (nb_fp 4 fr) (d + 1) (nI j) := by
    intro d
    induction d with
    | zero =>
      intro j hj
      exact br_t (nI_le (by omega) (by omega)) H
    | succ d ih =>
      intro j hj
      refine br_f (nI_ge (by omega) (by omega)) ⟨nb_ix (by omega) (by omega), br_t ?_ (nm_r (nI_1 j) (ih (j + 1) (by omega)))⟩
      rw [nb_cl (by omega)]
      exact hn j (by omega)
  exact ⟨e + 1, key e 0 (by omega)⟩
theorem nx_oldestNotIncomplete_s {post : Int32 → Prop} (hb : e ≤ 16) (i : Nat) (hi : i < e) (hy : ¬ eS i = 1) (hn : ∀ j, j < i → eS j = 1) (H : post (nI i)) : wpX_oldestNotIncomplete post (nI cn, rt, rx, ms, nI e, nI o, nI r, fn, pi, dr, eA, eS, eL, eT, eP, eC, qI, qD, oA, oS, oT, oP, rA, rM, nb_fp 0 fr, nb_fp 1 fr, nb_fp 2 fr, nb_fp 3 fr, nb_fp 4 fr) := by
  have key : ∀ d j : Nat, j + d = i → wX_oldestNotIncomplete_2 post (nI cn) rt rx ms (nI e) (nI o) (nI r) fn pi dr eA eS eL eT eP eC qI qD oA oS oT oP rA rM (nb_fp 0 fr) (nb_fp 1 fr) (nb_fp 2 fr) (nb_fp 3 fr) (nb_fp 4 fr) (d + 1) (nI j) := by
    intro d
    induction d with
    | zero =>
      intro j hj
      obtain rfl : j = i := by omega
      refine br_f (nI_ge (by omega) (by omega)) ⟨nb_ix (by omega) (by omega), br_f ?_ H⟩
      rw [nb_cl (by omega)]
      exact hy
    | succ d ih =>
      intro j hj
      refine br_f (nI_ge (by omega) (by omega)) ⟨nb_ix (by omega) (by omega), br_t ?_ (nm_r (nI_1 j) (ih (j + 1) (by omega)))⟩
      rw [nb_cl (by omega)]
      exact hn j (by omega)
  exact ⟨i + 1, key i 0 (by omega)⟩
theorem ny_findOwn_n {post : Int32 → Prop} {x : Int32} (hb : o ≤ 8) (hn : ∀ j, j < o → ¬ oA j = x) (H : post (-1)) : wpY_findOwn post (nI cn, rt, rx, ms, nI e, nI o, nI r, fn, pi, dr, eA, eS, eL, eT, eP, eC, qI, qD, sn, oA, oS, oT, oP, rA, rM, fr) x := by
  have key : ∀ d j : Nat, j + d = o → wY_findOwn_2 post x (nI cn) rt rx ms (nI e) (nI o) (nI r) fn pi dr eA eS eL eT eP eC qI qD sn oA oS oT oP rA rM fr (d + 1) (nI j) := by
    intro d
    induction d with
    | zero =>
      intro j hj
      exact br_t (nI_le (by omega) (by omega)) H
    | succ d ih =>
      intro j hj
      refine br_f (nI_ge (by omega) (by omega)) ⟨nb_ix (by omega) (by omega), br_f ?_ (nm_r (nI_1 j) (ih (j + 1) (by omega)))⟩
      rw [nb_cl (by omega)]
      exact hn j (by omega)
  exact ⟨o + 1, key o 0 (by omega)⟩
theorem ny_findOwn_s {post : Int32 → Prop} {x : Int32} (hb : o ≤ 8) (i : Nat) (hi : i < o) (hy : oA i = x) (hn : ∀ j, j < i → ¬ oA j = x) (H : post (nI i)) : wpY_findOwn post (nI cn, rt, rx, ms, nI e, nI o, nI r, fn, pi, dr, eA, eS, eL, eT, eP, eC, qI, qD, sn, oA, oS, oT, oP, rA, rM, fr) x := by
  have key : ∀ d j : Nat, j + d = i → wY_findOwn_2 post x (nI cn) rt rx ms (nI e) (nI o) (nI r) fn pi dr eA eS eL eT eP eC qI qD sn oA oS oT oP rA rM fr (d + 1) (nI j) := by
    intro d
    induction d with
    | zero =>
      intro j hj
      obtain rfl : j = i := by omega
      refine br_f (nI_ge (by omega) (by omega)) ⟨nb_ix (by omega) (by omega), br_t ?_ H⟩
      rw [nb_cl (by omega)]
      exact hy
    | succ d ih =>
      intro j hj
      refine br_f (nI_ge (by omega) (by omega)) ⟨nb_ix (by omega) (by omega), br_f ?_ (nm_r (nI_1 j) (ih (j + 1) (by omega)))⟩
      rw [nb_cl (by omega)]
      exact hn j (by omega)
  exact ⟨i + 1, key i 0 (by omega)⟩
theorem ny_findRouter_n {post : Int32 → Prop} {x : Int32} (hb : r ≤ 4) (hn : ∀ j, j < r → ¬ rA j = x) (H : post (-1)) : wpY_findRouter post (nI cn, rt, rx, ms, nI e, nI o, nI r, fn, pi, dr, eA, eS, eL, eT, eP, eC, qI, qD, sn, oA, oS, oT, oP, rA, rM, fr) x := by
  have key : ∀ d j : Nat, j + d = r → wY_findRouter_2 post x (nI cn) rt rx ms (nI e) (nI o) (nI r) fn pi dr eA eS eL eT eP eC qI qD sn oA oS oT oP rA rM fr (d + 1) (nI j) := by
    intro d
    induction d with
    | zero =>
      intro j hj
      exact br_t (nI_le (by omega) (by omega)) H
    | succ d ih =>
      intro j hj
      refine br_f (nI_ge (by omega) (by omega)) ⟨nb_ix (by omega) (by omega), br_f ?_ (nm_r (nI_1 j) (ih (j + 1) (by omega)))⟩
      rw [nb_cl (by omega)]
      exact hn j (by omega)
  exact ⟨r + 1, key r 0 (by omega)⟩
theorem ny_findRouter_s {post : Int32 → Prop} {x : Int32} (hb : r ≤ 4) (i : Nat) (hi : i < r) (hy : rA i = x) (hn : ∀ j, j < i → ¬ rA j = x) (H : post (nI i)) : wpY_findRouter post (nI cn, rt, rx, ms, nI e, nI o, nI r, fn, pi, dr, eA, eS, eL, eT, eP, eC, qI, qD, sn, oA, oS, oT, oP, rA, rM, fr) x := by
  have key : ∀ d j : Nat, j + d = i → wY_findRouter_2 post x (nI cn) rt rx ms (nI e) (nI o) (nI r) fn pi dr eA eS eL eT eP eC qI qD sn oA oS oT oP rA rM fr (d + 1) (nI j) := by
    intro d
    induction d with
    | zero =>
      intro j hj
      obtain rfl : j = i := by omega
      refine br_f (nI_ge (by omega) (by omega)) ⟨nb_ix (by omega) (by omega), br_t ?_ H⟩
      rw [nb_cl (by omega)]
      exact hy
    | succ d ih =>
      intro j hj
      refine br_f (nI_ge (by omega) (by omega)) ⟨nb_ix (by omega) (by omega), br_f ?_ (nm_r (nI_1 j) (ih (j + 1) (by omega)))⟩
      rw [nb_cl (by omega)]
      exact hn j (by omega)
  exact ⟨i + 1, key i 0 (by omega)⟩
theorem ny_find_n {post : Int32 → Prop} {x : Int32} (hb : e ≤ 16) (hn : ∀ j, j < e → ¬ eA j = x) (H : post (-1)) : wpY_find post (nI cn, rt, rx, ms, nI e, nI o, nI r, fn, pi, dr, eA, eS, eL, eT, eP, eC, qI, qD, sn, oA, oS, oT, oP, rA, rM, fr) x := by
  have key : ∀ d j : Nat, j + d = e → wY_find_2 post x (nI cn) rt rx ms (nI e) (nI o) (nI r) fn pi dr eA eS eL eT eP eC qI qD sn oA oS oT oP rA rM fr (d + 1) (nI j) := by
    intro d
    induction d with
    | zero =>
      intro j hj
      exact br_t (nI_le (by omega) (by omega)) H
    | succ d ih =>
      intro j hj
      refine br_f (nI_ge (by omega) (by omega)) ⟨nb_ix (by omega) (by omega), br_f ?_ (nm_r (nI_1 j) (ih (j + 1) (by omega)))⟩
      rw [nb_cl (by omega)]
      exact hn j (by omega)
  exact ⟨e + 1, key e 0 (by omega)⟩
theorem ny_find_s {post : Int32 → Prop} {x : Int32} (hb : e ≤ 16) (i : Nat) (hi : i < e) (hy : eA i = x) (hn : ∀ j, j < i → ¬ eA j = x) (H : post (nI i)) : wpY_find post (nI cn, rt, rx, ms, nI e, nI o, nI r, fn, pi, dr, eA, eS, eL, eT, eP, eC, qI, qD, sn, oA, oS, oT, oP, rA, rM, fr) x := by
  have key : ∀ d j : Nat, j + d = i → wY_find_2 post x (nI cn) rt rx ms (nI e) (nI o) (nI r) fn pi dr eA eS eL eT eP eC qI qD sn oA oS oT oP rA rM fr (d + 1) (nI j) := by
    intro d
    induction d with
    | zero =>
      intro j hj
      obtain rfl : j = i := by omega
      refine br_f (nI_ge (by omega) (by omega)) ⟨nb_ix (by omega) (by omega), br_t ?_ H⟩
      rw [nb_cl (by omega)]
      exact hy
    | succ d ih =>
      intro j hj
      refine br_f (nI_ge (by omega) (by omega)) ⟨nb_ix (by omega) (by omega), br_f ?_ (nm_r (nI_1 j) (ih (j + 1) (by omega)))⟩
      rw [nb_cl (by omega)]
      exact hn j (by omega)
  exact ⟨i + 1, key i 0 (by omega)⟩
end
end
section
/-! frames and the small methods -/
def nb_sl (x : Int32) : Nat := (x &&& 63).toNatClampNeg
def nb_ev (fr : Nat → Int32) (fn k t l p h : Int32) : Nat → Int32 := nb_em fr (nb_sl fn) k t l p h
section
variable {cn e o r : Nat} {rt rx ms fn pi dr : Int32} {eA eS eL eT eP eC qI qD oA oS oT oP rA rM fr sn : Nat → Int32}
theorem nx_emit {post : SX → Prop} (k t l p h : Int32) (H : post (nI cn, rt, rx, ms, nI e, nI o, nI r, fn + 1, pi, dr, eA, eS, eL, eT, eP, eC, qI, qD, oA, oS, oT, oP, rA, rM, nb_fp 0 (nb_ev fr fn k t l p h), nb_fp 1 (nb_ev fr fn k t l p h), nb_fp 2 (nb_ev fr fn k t l p h), nb_fp 3 (nb_ev fr fn k t l p h), nb_fp 4 (nb_ev fr fn k t l p h))) : wpX_emit post (nI cn, rt, rx, ms, nI e, nI o, nI r, fn, pi, dr, eA, eS, eL, eT, eP, eC, qI, qD, oA, oS, oT, oP, rA, rM, nb_fp 0 fr, nb_fp 1 fr, nb_fp 2 fr, nb_fp 3 fr, nb_fp 4 fr) k t l p h := by
  obtain ⟨s, hs, es⟩ := nb_and63 fn
  have hi : vp_in (fn &&& 63) 64 := by rw [es]; exact nb_ix hs (by omega)
  unfold nb_ev at H
  rw [nb_fp0, nb_fp1, nb_fp2, nb_fp3, nb_fp4] at H
  unfold wpX_emit
  exact nm_e ⟨hi, nm_e ⟨hi, nm_e ⟨hi, nm_e ⟨hi, nm_e ⟨hi, nm_e (nm_e H)⟩⟩⟩⟩⟩
theorem ny_emit {post : SY → Prop} (k t l p h : Int32) (H : post (nI cn, rt, rx, ms, nI e, nI o, nI r, fn + 1, pi, dr, eA, eS, eL, eT, eP, eC, qI, qD, sn, oA, oS, oT, oP, rA, rM, nb_ev fr fn k t l p h)) : wpY_emit post (nI cn, rt, rx, ms, nI e, nI o, nI r, fn, pi, dr, eA, eS, eL, eT, eP, eC, qI, qD, sn, oA, oS, oT, oP, rA, rM, fr) k t l p h := by
  obtain ⟨s, hs, es⟩ := nb_and63 fn
  have e0 : (fn &&& 63) * 5 = nI (5 * s) := by
    rw [es, Nat.mul_comm 5 s]
    exact pk_mul s 5
  have e1 : nI (5 * s) + 1 = nI (5 * s + 1) := nI_1 _
  have e2 : nI (5 * s) + 2 = nI (5 * s + 2) := nI_add _ 2
  have e3 : nI (5 * s) + 3 = nI (5 * s + 3) := nI_add _ 3
  have e4 : nI (5 * s) + 4 = nI (5 * s + 4) := nI_add _ 4
  have hsl : nb_sl fn = s := by
    unfold nb_sl
    rw [es]
    exact nb_cl (by omega)
  unfold nb_ev nb_em at H
  rw [hsl] at H
  unfold wpY_emit
  refine nm_r e0 ?_
  rw [e1, e2, e3, e4, nb_cl (i := 5 * s) (by omega), nb_cl (i := 5 * s + 1) (by omega), nb_cl (i := 5 * s + 2) (by omega), nb_cl (i := 5 * s + 3) (by omega), nb_cl (i := 5 * s + 4) (by omega)]
  exact ⟨nb_ix (by omega) (by omega), nm_e ⟨nb_ix (by omega) (by omega), nm_e ⟨nb_ix (by omega) (by omega), nm_e ⟨nb_ix (by omega) (by omega), nm_e ⟨nb_ix (by omega) (by omega), nm_e (nm_e H)⟩⟩⟩⟩⟩
theorem nx_enterReachable {post : SX → Prop} {i : Nat} (hi : i < 16) (H : post (nI cn, rt, rx, ms, nI e, nI o, nI r, fn, pi, dr, eA, upd eS i 2, eL, upd eT i rt, upd eP i 0, eC, qI, qD, oA, oS, oT, oP, rA, rM, nb_fp 0 fr, nb_fp 1 fr, nb_fp 2 fr, nb_fp 3 fr, nb_fp 4 fr)) : wpX_enterReachable post (nI cn, rt, rx, ms, nI e, nI o, nI r, fn, pi, dr, eA, eS, eL, eT, eP, eC, qI, qD, oA, oS, oT, oP, rA, rM, nb_fp 0 fr, nb_fp 1 fr, nb_fp 2 fr, nb_fp 3 fr, nb_fp 4 fr) (nI i) := by
  have hv : vp_in (nI i) 16 := nb_ix hi (by omega)
  unfold wpX_enterReachable
  rw [nb_cl (by omega)]
  exact ⟨hv, nm_e ⟨hv, nm_e ⟨hv, nm_e H⟩⟩⟩
theorem nx_enterStale {post : SX → Prop} {i : Nat} (hi : i < 16) (H : post (nI cn, rt, rx, ms, nI e, nI o, nI r, fn, pi, dr, eA, upd eS i 3, eL, upd eT i 0, upd eP i 0, eC, qI, qD, oA, oS, oT, oP, rA, rM, nb_fp 0 fr, nb_fp 1 fr, nb_fp 2 fr, nb_fp 3 fr, nb_fp 4 fr)) : wpX_enterStale post (nI cn, rt, rx, ms, nI e, nI o, nI r, fn, pi, dr, eA, eS, eL, eT, eP, eC, qI, qD, oA, oS, oT, oP, rA, rM, nb_fp 0 fr, nb_fp 1 fr, nb_fp 2 fr, nb_fp 3 fr, nb_fp 4 fr) (nI i) := by
  have hv : vp_in (nI i) 16 := nb_ix hi (by omega)
  unfold wpX_enterStale
  rw [nb_cl (by omega)]
  exact ⟨hv, nm_e ⟨hv, nm_e ⟨hv, nm_e H⟩⟩⟩
theorem nx_transmit_3 {post : SX → Prop} {i : Nat} {p d : Int32} (hi : i < 16) (h3 : eS i = 3) (H : post (nI cn, rt, rx, ms, nI e, nI o, nI r, fn + 1, pi, dr, eA, upd eS i 4, eL, upd eT i 5, upd eP i 0, eC, qI, qD, oA, oS, oT, oP, rA, rM, nb_fp 0 (nb_ev fr fn 5 d (eL i) p (eA i)), nb_fp 1 (nb_ev fr fn 5 d (eL i) p (eA i)), nb_fp 2 (nb_ev fr fn 5 d (eL i) p (eA i)), nb_fp 3 (nb_ev fr fn 5 d (eL i) p (eA i)), nb_fp 4 (nb_ev fr fn 5 d (eL i) p (eA i)))) : wpX_transmit post (nI cn, rt, rx, ms, nI e, nI o, nI r, fn, pi, dr, eA, eS, eL, eT, eP, eC, qI, qD, oA, oS, oT, oP, rA, rM, nb_fp 0 fr, nb_fp 1 fr, nb_fp 2 fr, nb_fp 3 fr, nb_fp 4 fr) (nI i) p d := by
  have hv : vp_in (nI i) 16 := nb_ix hi (by omega)
  unfold wpX_transmit
  rw [nb_cl (by omega)]
  exact ⟨hv, hv, nx_emit _ _ _ _ _ ⟨hv, br_t h3 ⟨hv, nm_e ⟨hv, nm_e ⟨hv, nm_e H⟩⟩⟩⟩⟩
theorem nx_transmit_n {post : SX → Prop} {i : Nat} {p d : Int32} (hi : i < 16) (h3 : ¬ eS i = 3) (H : post (nI cn, rt, rx, ms, nI e, nI o, nI r, fn + 1, pi, dr, eA, eS, eL, eT, eP, eC, qI, qD, oA, oS, oT, oP, rA, rM, nb_fp 0 (nb_ev fr fn 5 d (eL i) p (eA i)), nb_fp 1 (nb_ev fr fn 5 d (eL i) p (eA i)), nb_fp 2 (nb_ev fr fn 5 d (eL i) p (eA i)), nb_fp 3 (nb_ev fr fn 5 d (eL i) p (eA i)), nb_fp 4 (nb_ev fr fn 5 d (eL i) p (eA i)))) : wpX_transmit post (nI cn, rt, rx, ms, nI e, nI o, nI r, fn, pi, dr, eA, eS, eL, eT, eP, eC, qI, qD, oA, oS, oT, oP, rA, rM, nb_fp 0 fr, nb_fp 1 fr, nb_fp 2 fr, nb_fp 3 fr, nb_fp 4 fr) (nI i) p d := by
  have hv : vp_in (nI i) 16 := nb_ix hi (by omega)
  unfold wpX_transmit
  rw [nb_cl (by omega)]
  exact ⟨hv, hv, nx_emit _ _ _ _ _ ⟨hv, br_f h3 H⟩⟩
theorem ny_enterReachable {post : SY → Prop} {i : Nat} (hi : i < 16) (H : post (nI cn, rt, rx, ms, nI e, nI o, nI r, fn, pi, dr, eA, upd eS i 2, eL, upd eT i rt, upd eP i 0, eC, qI, qD, sn, oA, oS, oT, oP, rA, rM, fr)) : wpY_enterReachable post (nI cn, rt, rx, ms, nI e, nI o, nI r, fn, pi, dr, eA, eS, eL, eT, eP, eC, qI, qD, sn, oA, oS, oT, oP, rA, rM, fr) (nI i) := by
  have hv : vp_in (nI i) 16 := nb_ix hi (by omega)
  unfold wpY_enterReachable
  rw [nb_cl (by omega)]
  exact ⟨hv, nm_e ⟨hv, nm_e ⟨hv, nm_e H⟩⟩⟩
theorem ny_enterStale {post : SY → Prop} {i : Nat} (hi : i < 16) (H : post (nI cn, rt, rx, ms, nI e, nI o, nI r, fn, pi, dr, eA, upd eS i 3, eL, upd eT i 0, upd eP i 0, eC, qI, qD, sn, oA, oS, oT, oP, rA, rM, fr)) : wpY_enterStale post (nI cn, rt, rx, ms, nI e, nI o, nI r, fn, pi, dr, eA, eS, eL, eT, eP, eC, qI, qD, sn, oA, oS, oT, oP, rA, rM, fr) (nI i) := by
  have hv : vp_in (nI i) 16 := nb_ix hi (by omega)
  unfold wpY_enterStale
  rw [nb_cl (by omega)]
  exact ⟨hv, nm_e ⟨hv, nm_e ⟨hv, nm_e H⟩⟩⟩
theorem ny_transmit_3 {post : SY → Prop} {i : Nat} {p d : Int32} (hi : i < 16) (h3 : eS i = 3) (H : post (nI cn, rt, rx, ms, nI e, nI o, nI r, fn + 1, pi, dr, eA, upd eS i 4, eL, upd eT i 5, upd eP i 0, eC, qI, qD, sn, oA, oS, oT, oP, rA, rM, nb_ev fr fn 5 d (eL i) p (eA i))) : wpY_transmit post (nI cn, rt, rx, ms, nI e, nI o, nI r, fn, pi, dr, eA, eS, eL, eT, eP, eC, qI, qD, sn, oA, oS, oT, oP, rA, rM, fr) (nI i) p d := by
  have hv : vp_in (nI i) 16 := nb_ix hi (by omega)
  unfold wpY_transmit
  rw [nb_cl (by omega)]
  exact ⟨hv, hv, ny_emit _ _ _ _ _ ⟨hv, br_t h3 ⟨hv, nm_e ⟨hv, nm_e ⟨hv, nm_e H⟩⟩⟩⟩⟩
theorem ny_transmit_n {post : SY → Prop} {i : Nat} {p d : Int32} (hi : i < 16) (h3 : ¬ eS i = 3) (H : post (nI cn, rt, rx, ms, nI e, nI o, nI r, fn + 1, pi, dr, eA, eS, eL, eT, eP, eC, qI, qD, sn, oA, oS, oT, oP, rA, rM, nb_ev fr fn 5 d (eL i) p (eA i))) : wpY_transmit post (nI cn, rt, rx, ms, nI e, nI o, nI r, fn, pi, dr, eA, eS, eL, eT, eP, eC, qI, qD, sn, oA, oS, oT, oP, rA, rM, fr) (nI i) p d := by
  have hv : vp_in (nI i) 16 := nb_ix hi (by omega)
  unfold wpY_transmit
  rw [nb_cl (by omega)]
  exact ⟨hv, hv, ny_emit _ _ _ _ _ ⟨hv, br_f h3 H⟩⟩
end
end
section
/-! deletion -/
theorem nb_3a (j k : Nat) : nI j * 3 + nI k = nI (3 * j + k) := by
  rw [show nI j * 3 = nI (j * 3) from pk_mul j 3, nI_add, Nat.mul_comm]
theorem nb_3b (j k : Nat) : nI j * 3 + 3 + nI k = nI (3 * j + k + 3) := by
  rw [show nI j * 3 = nI (j * 3) from pk_mul j 3, show nI (j * 3) + 3 = nI (j * 3 + 3) from nI_add _ 3, nI_add]
  exact congrArg nI (by omega)
theorem nb_3c (j k : Nat) : nI (j + 1) * 3 + nI k = nI (3 * j + k + 3) := by
  rw [nb_3a]
  exact congrArg nI (by omega)
theorem nb_30 (j : Nat) : nI j * 3 = nI (3 * j) := by
  rw [show nI j * 3 = nI (j * 3) from pk_mul j 3, Nat.mul_comm]
section
variable {cn e o r : Nat} {rt rx ms fn pi dr : Int32} {eA eS eL eT eP eC qI qD oA oS oT oP rA rM fr sn : Nat → Int32}
theorem nx_move78 {post : SX → Prop} {j : Nat} (hj : j < 15) (H : post (nI cn, rt, rx, ms, nI e, nI o, nI r, fn, pi, dr, eA, eS, eL, eT, eP, eC, nb_mk j 3 qI, nb_mk j 3 qD, oA, oS, oT, oP, rA, rM, nb_fp 0 fr, nb_fp 1 fr, nb_fp 2 fr, nb_fp 3 fr, nb_fp 4 fr)) : ∃ n, wX_moveEntryDown_78 post (nI j) (nI (j + 1)) (nI cn) rt rx ms (nI e) (nI o) (nI r) fn pi dr n 0 eA eS eL eT eP eC qI qD oA oS oT oP rA rM (nb_fp 0 fr) (nb_fp 1 fr) (nb_fp 2 fr) (nb_fp 3 fr) (nb_fp 4 fr) := by
  have key : ∀ d k : Nat, k + d = 3 → wX_moveEntryDown_78 post (nI j) (nI (j + 1)) (nI cn) rt rx ms (nI e) (nI o) (nI r) fn pi dr (d + 1) (nI k) eA eS eL eT eP eC (nb_mk j k qI) (nb_mk j k qD) oA oS oT oP rA rM (nb_fp 0 fr) (nb_fp 1 fr) (nb_fp 2 fr) (nb_fp 3 fr) (nb_fp 4 fr) := by
    intro d
    induction d with
    | zero =>
      intro k hk
      obtain rfl : k = 3 := by omega
      exact br_t (nI_le (a := 3) (by omega) (by omega)) H
    | succ d ih =>
      intro k hk
      refine br_f (nI_ge (b := 3) (by omega) (by omega)) ?_
      rw [nb_3c j k, nb_3a j k, nb_cl (i := 3 * j + k) (by omega), nb_cl (i := 3 * j + k + 3) (by omega)]
      exact ⟨nb_ix (by omega) (by omega), nb_ix (by omega) (by omega), nm_r (nb_mks (by omega) qI) ⟨nb_ix (by omega) (by omega), nb_ix (by omega) (by omega), nm_r (nb_mks (by omega) qD) (nm_r (nI_1 k) (ih (k + 1) (by omega)))⟩⟩
  have := key 3 0 (by omega)
  rw [nb_mk0, nb_mk0] at this
  exact ⟨4, this⟩
theorem nx_moveDown {post : SX → Prop} {j : Nat} (hj : j < 15) (H : post (nI cn, rt, rx, ms, nI e, nI o, nI r, fn, pi, dr, upd eA j (eA (j + 1)), upd eS j (eS (j + 1)), upd eL j (eL (j + 1)), upd eT j (eT (j + 1)), upd eP j (eP (j + 1)), upd eC j (eC (j + 1)), nb_mk j 3 qI, nb_mk j 3 qD, oA, oS, oT, oP, rA, rM, nb_fp 0 fr, nb_fp 1 fr, nb_fp 2 fr, nb_fp 3 fr, nb_fp 4 fr)) : wpX_moveEntryDown post (nI cn, rt, rx, ms, nI e, nI o, nI r, fn, pi, dr, eA, eS, eL, eT, eP, eC, qI, qD, oA, oS, oT, oP, rA, rM, nb_fp 0 fr, nb_fp 1 fr, nb_fp 2 fr, nb_fp 3 fr, nb_fp 4 fr) (nI j) := by
  have h0 : vp_in (nI j) 16 := nb_ix (by omega) (by omega)
  have h1 : vp_in (nI (j + 1)) 16 := nb_ix (by omega) (by omega)
  unfold wpX_moveEntryDown
  refine nm_r (nI_1 j) ?_
  rw [nb_cl (i := j) (by omega), nb_cl (i := j + 1) (by omega)]
  exact ⟨h1, h0, nm_e ⟨h1, h0, nm_e ⟨h1, h0, nm_e ⟨h1, h0, nm_e ⟨h1, h0, nm_e ⟨h1, h0, nm_e (nx_move78 hj H)⟩⟩⟩⟩⟩⟩
theorem nx_deleteEntry {post : SX → Prop} {m i : Nat} (hm : m < 16) (hi : i ≤ m) (H : post (nI cn, rt, rx, ms, nI m, nI o, nI r, fn, pi, dr, nb_sh i m eA, nb_sh i m eS, nb_sh i m eL, nb_sh i m eT, nb_sh i m eP, nb_sh i m eC, nb_sq i m qI, nb_sq i m qD, oA, oS, oT, oP, rA, rM, nb_fp 0 fr, nb_fp 1 fr, nb_fp 2 fr, nb_fp 3 fr, nb_fp 4 fr)) : wpX_deleteEntry post (nI cn, rt, rx, ms, nI (m + 1), nI o, nI r, fn, pi, dr, eA, eS, eL, eT, eP, eC, qI, qD, oA, oS, oT, oP, rA, rM, nb_fp 0 fr, nb_fp 1 fr, nb_fp 2 fr, nb_fp 3 fr, nb_fp 4 fr) (nI i) := by
  have key : ∀ d t : Nat, t + d = m → i ≤ t → wX_deleteEntry_12 post (d + 1) (nI t) (nI cn) rt rx ms (nI m) (nI o) (nI r) fn pi dr (nb_sh i t eA) (nb_sh i t eS) (nb_sh i t eL) (nb_sh i t eT) (nb_sh i t eP) (nb_sh i t eC) (nb_sq i t qI) (nb_sq i t qD) oA oS oT oP rA rM (nb_fp 0 fr) (nb_fp 1 fr) (nb_fp 2 fr) (nb_fp 3 fr) (nb_fp 4 fr) := by
    intro d
    induction d with
    | zero =>
      intro t ht hit
      obtain rfl : t = m := by omega
      exact br_t (nI_le (by omega) (by omega)) H
    | succ d ih =>
      intro t ht hit
      refine br_f (nI_ge (by omega) (by omega)) (nx_moveDown (by omega) ?_)
      rw [nb_shs hit eA, nb_shs hit eS, nb_shs hit eL, nb_shs hit eT, nb_shs hit eP, nb_shs hit eC, nb_sqs hit qI, nb_sqs hit qD]
      exact nm_r (nI_1 t) (ih (t + 1) (by omega) (by omega))
  have := key (m - i) i (by omega) (by omega)
  rw [nb_sh0 i eA, nb_sh0 i eS, nb_sh0 i eL, nb_sh0 i eT, nb_sh0 i eP, nb_sh0 i eC, nb_sq0 i qI, nb_sq0 i qD] at this
  unfold wpX_deleteEntry
  exact nm_r (nI_pred m) ⟨_, this⟩
theorem ny_move98 {post : SY → Prop} {J2 : Int32 → (Nat → Int32) → (Nat → Int32) → (Nat → Int32) → (Nat → Int32) → (Nat → Int32) → (Nat → Int32) → (Nat → Int32) → (Nat → Int32) → (Nat → Int32) → (Nat → Int32) → (Nat → Int32) → (Nat → Int32) → (Nat → Int32) → (Nat → Int32) → (Nat → Int32) → (Nat → Int32) → Prop} {j : Nat} {F : Int32} (hj : j < 15) (H : J2 (nI (j + 1)) eA eS eL eT eP eC (nb_mk j 3 qI) (nb_mk j 3 qD) sn oA oS oT oP rA rM fr) : ∃ n, wY_deleteAt_98 post J2 (nI j) (nI cn) rt rx ms F (nI o) (nI r) fn pi dr n 0 eA eS eL eT eP eC qI qD sn oA oS oT oP rA rM fr := by
  have key : ∀ d k : Nat, k + d = 3 → wY_deleteAt_98 post J2 (nI j) (nI cn) rt rx ms F (nI o) (nI r) fn pi dr (d + 1) (nI k) eA eS eL eT eP eC (nb_mk j k qI) (nb_mk j k qD) sn oA oS oT oP rA rM fr := by
    intro d
    induction d with
    | zero =>
      intro k hk
      obtain rfl : k = 3 := by omega
      exact br_t (nI_le (a := 3) (by omega) (by omega)) (nm_r (nI_1 j) H)
    | succ d ih =>
      intro k hk
      refine br_f (nI_ge (b := 3) (by omega) (by omega)) ?_
      rw [nb_3b j k, nb_3a j k, nb_cl (i := 3 * j + k) (by omega), nb_cl (i := 3 * j + k + 3) (by omega)]
      exact ⟨nb_ix (by omega) (by omega), nb_ix (by omega) (by omega), nm_r (nb_mks (by omega) qI) ⟨nb_ix (by omega) (by omega), nb_ix (by omega) (by omega), nm_r (nb_mks (by omega) qD) (nm_r (nI_1 k) (ih (k + 1) (by omega)))⟩⟩
  have := key 3 0 (by omega)
  rw [nb_mk0, nb_mk0] at this
  exact ⟨4, this⟩
theorem ny_deleteAt {post : SY → Prop} {m i : Nat} (hm : m < 16) (hi : i ≤ m) (H : post (nI cn, rt, rx, ms, nI m, nI o, nI r, fn, pi, dr, nb_sh i m eA, nb_sh i m eS, nb_sh i m eL, nb_sh i m eT, nb_sh i m eP, nb_sh i m eC, nb_sq i m qI, nb_sq i m qD, sn, oA, oS, oT, oP, rA, rM, fr)) : wpY_deleteAt post (nI cn, rt, rx, ms, nI (m + 1), nI o, nI r, fn, pi, dr, eA, eS, eL, eT, eP, eC, qI, qD, sn, oA, oS, oT, oP, rA, rM, fr) (nI i) := by
  have key : ∀ d t : Nat, t + d = m → i ≤ t → wY_deleteAt_2 post (nI cn) rt rx ms (nI (m + 1)) (nI o) (nI r) fn pi dr (d + 1) (nI t) (nb_sh i t eA) (nb_sh i t eS) (nb_sh i t eL) (nb_sh i t eT) (nb_sh i t eP) (nb_sh i t eC) (nb_sq i t qI) (nb_sq i t qD) sn oA oS oT oP rA rM fr := by
    intro d
    induction d with
    | zero =>
      intro t ht hit
      obtain rfl : t = m := by omega
      refine br_t ?_ (nm_r (nI_pred t) H)
      rw [nI_pred]
      exact nI_le (by omega) (by omega)
    | succ d ih =>
      intro t ht hit
      have h0 : vp_in (nI t) 16 := nb_ix (by omega) (by omega)
      have h1 : vp_in (nI (t + 1)) 16 := nb_ix (by omega) (by omega)
      refine br_f ?_ ?_
      · rw [nI_pred]
        exact nI_ge (by omega) (by omega)
      · rw [nI_1 t, nb_cl (i := t) (by omega), nb_cl (i := t + 1) (by omega)]
        refine ⟨h1, h0, nm_e ⟨h1, h0, nm_e ⟨h1, h0, nm_e ⟨h1, h0, nm_e ⟨h1, h0, nm_e ⟨h1, h0, nm_e (ny_move98 (by omega) ?_)⟩⟩⟩⟩⟩⟩
        rw [nb_shs hit eA, nb_shs hit eS, nb_shs hit eL, nb_shs hit eT, nb_shs hit eP, nb_shs hit eC, nb_sqs hit qI, nb_sqs hit qD]
        exact ih (t + 1) (by omega) (by omega)
  have := key (m - i) i (by omega) (by omega)
  rw [nb_sh0 i eA, nb_sh0 i eS, nb_sh0 i eL, nb_sh0 i eT, nb_sh0 i eP, nb_sh0 i eC, nb_sq0 i qI, nb_sq0 i qD] at this
  unfold wpY_deleteAt
  exact ⟨_, this⟩
end
end
section
/-! creation -/
section
variable {cn e o r : Nat} {rt rx ms fn pi dr : Int32} {eA eS eL eT eP eC qI qD oA oS oT oP rA rM fr sn : Nat → Int32}
theorem nx_c28 {post : Int32 → SX → Prop} {a : Int32} (he : e < 16) (H : post (nI e) (nI cn, rt, rx, ms, nI (e + 1), nI o, nI r, fn, pi, dr, upd eA e a, eS, upd eL e 0, eT, eP, upd eC e 0, qI, qD, oA, oS, oT, oP, rA, rM, nb_fp 0 fr, nb_fp 1 fr, nb_fp 2 fr, nb_fp 3 fr, nb_fp 4 fr)) : wX_createEntry_28 post a (nI cn) rt rx ms (nI e) (nI o) (nI r) fn pi dr eA eS eL eT eP eC qI qD oA oS oT oP rA rM (nb_fp 0 fr) (nb_fp 1 fr) (nb_fp 2 fr) (nb_fp 3 fr) (nb_fp 4 fr) := by
  have hv : vp_in (nI e) 16 := nb_ix he (by omega)
  unfold wX_createEntry_28
  refine nm_r (nI_1 e) ?_
  rw [nb_cl (by omega)]
  exact ⟨hv, nm_e ⟨hv, nm_e ⟨hv, nm_e H⟩⟩⟩
theorem ny_c55 {post : Int32 → SY → Prop} {a : Int32} (he : e < 16) (H : post (nI e) (nI cn, rt, rx, ms, nI (e + 1), nI o, nI r, fn, pi, dr, upd eA e a, upd eS e 0, upd eL e 0, upd eT e 0, upd eP e 0, upd eC e 0, qI, qD, sn, oA, oS, oT, oP, rA, rM, fr)) : wY_create_55 post a (nI cn) rt rx ms (nI e) (nI o) (nI r) fn pi dr eA eS eL eT eP eC qI qD sn oA oS oT oP rA rM fr := by
  have hv : vp_in (nI e) 16 := nb_ix he (by omega)
  unfold wY_create_55
  rw [nb_cl (by omega)]
  exact ⟨hv, nm_e ⟨hv, nm_e ⟨hv, nm_e ⟨hv, nm_e ⟨hv, nm_e ⟨hv, nm_e (nm_r (nI_1 e) H)⟩⟩⟩⟩⟩⟩
theorem ny_c15_n {post : Int32 → SY → Prop} {a : Int32} (hb : e ≤ 16) (hn : ∀ j, j < e → eS j = 1) (H : post (-1) (nI cn, rt, rx, ms, nI e, nI o, nI r, fn, pi, dr, eA, eS, eL, eT, eP, eC, qI, qD, sn, oA, oS, oT, oP, rA, rM, fr)) : ∃ n, wY_create_15 post a (-1) (nI cn) rt rx ms (nI e) (nI o) (nI r) fn pi dr eA eS eL eT eP eC qI qD sn oA oS oT oP rA rM fr n 0 := by
  have key : ∀ d j : Nat, j + d = e → wY_create_15 post a (-1) (nI cn) rt rx ms (nI e) (nI o) (nI r) fn pi dr eA eS eL eT eP eC qI qD sn oA oS oT oP rA rM fr (d + 1) (nI j) := by
    intro d
    induction d with
    | zero =>
      intro j hj
      exact br_t (nI_le (by omega) (by omega)) (br_f (by decide) H)
    | succ d ih =>
      intro j hj
      refine br_f (nI_ge (by omega) (by omega)) ⟨nb_ix (by omega) (by omega), br_t ?_ (nm_r (nI_1 j) (ih (j + 1) (by omega)))⟩
      rw [nb_cl (by omega)]
      exact hn j (by omega)
  exact ⟨e + 1, key e 0 (by omega)⟩
theorem ny_c15_s {post : Int32 → SY → Prop} {a : Int32} (hb : e ≤ 16) (i : Nat) (hi : i < e) (hy : ¬ eS i = 1) (hn : ∀ j, j < i → eS j = 1) (H : wY_create_44 post a (nI i) (nI cn) rt rx ms (nI e) (nI o) (nI r) fn pi dr eA eS eL eT eP eC qI qD sn oA oS oT oP rA rM fr) : ∃ n, wY_create_15 post a (-1) (nI cn) rt rx ms (nI e) (nI o) (nI r) fn pi dr eA eS eL eT eP eC qI qD sn oA oS oT oP rA rM fr n 0 := by
  have key : ∀ d j : Nat, j + d = i → wY_create_15 post a (-1) (nI cn) rt rx ms (nI e) (nI o) (nI r) fn pi dr eA eS eL eT eP eC qI qD sn oA oS oT oP rA rM fr (d + 1) (nI j) := by
    intro d
    induction d with
    | zero =>
      intro j hj
      obtain rfl : j = i := by omega
      refine br_f (nI_ge (by omega) (by omega)) ⟨nb_ix (by omega) (by omega), br_f ?_ H⟩
      rw [nb_cl (by omega)]
      exact hy
    | succ d ih =>
      intro j hj
      refine br_f (nI_ge (by omega) (by omega)) ⟨nb_ix (by omega) (by omega), br_t ?_ (nm_r (nI_1 j) (ih (j + 1) (by omega)))⟩
      rw [nb_cl (by omega)]
      exact hn j (by omega)
  exact ⟨i + 1, key i 0 (by omega)⟩
theorem nj_create (hc : cn ≤ 16) (h2 : 2 ≤ cn) (he : e ≤ cn) (E : nb_ent e eA eS eL eT eP eC) (a : Int32) (hn : ∀ j, j < e → ¬ eA j = a) :
    ((∀ post : Int32 → SX → Prop, post (-1) (nI cn, rt, rx, ms, nI e, nI o, nI r, fn, pi, dr, eA, eS, eL, eT, eP, eC, qI, qD, oA, oS, oT, oP, rA, rM, nb_fp 0 fr, nb_fp 1 fr, nb_fp 2 fr, nb_fp 3 fr, nb_fp 4 fr) → wpX_createEntry post (nI cn, rt, rx, ms, nI e, nI o, nI r, fn, pi, dr, eA, eS, eL, eT, eP, eC, qI, qD, oA, oS, oT, oP, rA, rM, nb_fp 0 fr, nb_fp 1 fr, nb_fp 2 fr, nb_fp 3 fr, nb_fp 4 fr) a) ∧ (∀ post : Int32 → SY → Prop, post (-1) (nI cn, rt, rx, ms, nI e, nI o, nI r, fn, pi, dr, eA, eS, eL, eT, eP, eC, qI, qD, sn, oA, oS, oT, oP, rA, rM, fr) → wpY_create post (nI cn, rt, rx, ms, nI e, nI o, nI r, fn, pi, dr, eA, eS, eL, eT, eP, eC, qI, qD, sn, oA, oS, oT, oP, rA, rM, fr) a)) ∨
    ∃ (e1 : Nat) (eA1 eS1 eL1 eT1 eP1 eC1 qI1 qD1 : Nat → Int32), e1 < cn ∧ nb_ent e1 eA1 eS1 eL1 eT1 eP1 eC1 ∧ (∀ j, j < e1 → ¬ eA1 j = a) ∧
      (∀ post : Int32 → SX → Prop, post (nI e1) (nI cn, rt, rx, ms, nI (e1 + 1), nI o, nI r, fn, pi, dr, upd eA1 e1 a, eS1, upd eL1 e1 0, eT1, eP1, upd eC1 e1 0, qI1, qD1, oA, oS, oT, oP, rA, rM, nb_fp 0 fr, nb_fp 1 fr, nb_fp 2 fr, nb_fp 3 fr, nb_fp 4 fr) → wpX_createEntry post (nI cn, rt, rx, ms, nI e, nI o, nI r, fn, pi, dr, eA, eS, eL, eT, eP, eC, qI, qD, oA, oS, oT, oP, rA, rM, nb_fp 0 fr, nb_fp 1 fr, nb_fp 2 fr, nb_fp 3 fr, nb_fp 4 fr) a) ∧
      (∀ post : Int32 → SY → Prop, post (nI e1) (nI cn, rt, rx, ms, nI (e1 + 1), nI o, nI r, fn, pi, dr, upd eA1 e1 a, upd eS1 e1 0, upd eL1 e1 0, upd eT1 e1 0, upd eP1 e1 0, upd eC1 e1 0, qI1, qD1, sn, oA, oS, oT, oP, rA, rM, fr) → wpY_create post (nI cn, rt, rx, ms, nI e, nI o, nI r, fn, pi, dr, eA, eS, eL, eT, eP, eC, qI, qD, sn, oA, oS, oT, oP, rA, rM, fr) a) := by
  by_cases h : e < cn
  · refine Or.inr ⟨e, eA, eS, eL, eT, eP, eC, qI, qD, h, E, hn, fun post H => ?_, fun post H => ?_⟩
    · unfold wpX_createEntry
      exact br_t (nI_lt h (by omega)) (nx_c28 (by omega) H)
    · unfold wpY_create
      exact br_t (nI_lt h (by omega)) (ny_c55 (by omega) H)
  · have hx : ¬ nI e < nI cn := nI_nlt (by omega) (by omega)
    rcases nb_find (fun j => ¬ eS j = 1) e with hN | ⟨i, hi, hy, hl⟩
    · have hN' : ∀ j, j < e → eS j = 1 := fun j hj => Classical.byContradiction (hN j hj)
      refine Or.inl ⟨fun post H => ?_, fun post H => ?_⟩
      · unfold wpX_createEntry
        exact br_f hx (nx_oldestNotIncomplete_n (by omega) hN' (br_t rfl H))
      · unfold wpY_create
        exact br_f hx (ny_c15_n (by omega) hN' H)
    · have hl' : ∀ j, j < i → eS j = 1 := fun j hj => Classical.byContradiction (hl j hj)
      obtain ⟨m, rfl⟩ : ∃ m, e = m + 1 := ⟨e - 1, by omega⟩
      refine Or.inr ⟨m, nb_sh i m eA, nb_sh i m eS, nb_sh i m eL, nb_sh i m eT, nb_sh i m eP, nb_sh i m eC, nb_sq i m qI, nb_sq i m qD, by omega, nb_ent_del E (by omega), nb_sh_no hn (by omega), fun post H => ?_, fun post H => ?_⟩
      · unfold wpX_createEntry
        exact br_f hx (nx_oldestNotIncomplete_s (by omega) i hi hy hl' (br_f (nb_m1 (by omega)) (nx_deleteEntry (by omega) (by omega) (nx_c28 (by omega) H))))
      · unfold wpY_create
        refine br_f hx (ny_c15_s (by omega) i hi hy hl' ?_)
        unfold wY_create_44
        exact br_t (nb_n0 (by omega)) (ny_deleteAt (by omega) (by omega) (ny_c55 (by omega) H))
end
end
section
/-! the queue of an entry -/
def nb_dq (i : Nat) (q : Nat → Int32) : Nat → Int32 := upd (upd q (3 * i) (q (3 * i + 1))) (3 * i + 1) ((upd q (3 * i) (q (3 * i + 1))) (3 * i + 2))
section
variable {cn e o r : Nat} {rt rx ms fn pi dr : Int32} {eA eS eL eT eP eC qI qD oA oS oT oP rA rM fr sn : Nat → Int32}
theorem nx_e15 {post : SX → Prop} {i q : Nat} {p d : Int32} (hi : i < 16) (hq : q < 3) (hC : eC i = nI q) (H : post (nI cn, rt, rx, ms, nI e, nI o, nI r, fn, pi, dr, eA, eS, eL, eT, eP, upd eC i (nI (q + 1)), upd qI (3 * i + q) p, upd qD (3 * i + q) d, oA, oS, oT, oP, rA, rM, nb_fp 0 fr, nb_fp 1 fr, nb_fp 2 fr, nb_fp 3 fr, nb_fp 4 fr)) : wX_enqueue_15 post (nI i) p d (nI cn) rt rx ms (nI e) (nI o) (nI r) fn pi dr eA eS eL eT eP eC qI qD oA oS oT oP rA rM (nb_fp 0 fr) (nb_fp 1 fr) (nb_fp 2 fr) (nb_fp 3 fr) (nb_fp 4 fr) := by
  have hv : vp_in (nI i) 16 := nb_ix hi (by omega)
  have hw : vp_in (nI (3 * i + q)) 48 := nb_ix (by omega) (by omega)
  unfold wX_enqueue_15
  rw [nb_cl (i := i) (by omega), hC]
  refine ⟨hv, nm_r (nb_3a i q) ?_⟩
  rw [nb_cl (i := 3 * i + q) (by omega), nI_1 q]
  exact ⟨hw, nm_e ⟨hw, nm_e ⟨hv, hv, nm_e H⟩⟩⟩
theorem nx_enq_lt {post : SX → Prop} {i q : Nat} {p d : Int32} (hi : i < 16) (hq : q < 3) (hC : eC i = nI q) (H : post (nI cn, rt, rx, ms, nI e, nI o, nI r, fn, pi, dr, eA, eS, eL, eT, eP, upd eC i (nI (q + 1)), upd qI (3 * i + q) p, upd qD (3 * i + q) d, oA, oS, oT, oP, rA, rM, nb_fp 0 fr, nb_fp 1 fr, nb_fp 2 fr, nb_fp 3 fr, nb_fp 4 fr)) : wpX_enqueue post (nI cn, rt, rx, ms, nI e, nI o, nI r, fn, pi, dr, eA, eS, eL, eT, eP, eC, qI, qD, oA, oS, oT, oP, rA, rM, nb_fp 0 fr, nb_fp 1 fr, nb_fp 2 fr, nb_fp 3 fr, nb_fp 4 fr) (nI i) p d := by
  have hv : vp_in (nI i) 16 := nb_ix hi (by omega)
  unfold wpX_enqueue
  refine ⟨hv, br_t ?_ (nx_e15 hi hq hC H)⟩
  rw [nb_cl (i := i) (by omega), hC]
  exact nI_lt (b := 3) hq (by omega)
theorem nx_drop {post : SX → Prop} {i : Nat} (hi : i < 16) (hC : eC i = nI 3) (H : post (nI cn, rt, rx, ms, nI e, nI o, nI r, fn, pi, dr + 1, eA, eS, eL, eT, eP, upd eC i 2, nb_dq i qI, nb_dq i qD, oA, oS, oT, oP, rA, rM, nb_fp 0 fr, nb_fp 1 fr, nb_fp 2 fr, nb_fp 3 fr, nb_fp 4 fr)) : wpX_dropOldestQueued post (nI cn, rt, rx, ms, nI e, nI o, nI r, fn, pi, dr, eA, eS, eL, eT, eP, eC, qI, qD, oA, oS, oT, oP, rA, rM, nb_fp 0 fr, nb_fp 1 fr, nb_fp 2 fr, nb_fp 3 fr, nb_fp 4 fr) (nI i) := by
  have hv : vp_in (nI i) 16 := nb_ix hi (by omega)
  have w0 : vp_in (nI (3 * i)) 48 := nb_ix (by omega) (by omega)
  have w1 : vp_in (nI (3 * i + 1)) 48 := nb_ix (by omega) (by omega)
  have w2 : vp_in (nI (3 * i + 2)) 48 := nb_ix (by omega) (by omega)
  have a0 : nI (3 * i) + 0 = nI (3 * i) := Int32.add_zero _
  have a1 : nI (3 * i) + 1 = nI (3 * i + 1) := nI_1 _
  have a2 : nI (3 * i + 1) + 1 = nI (3 * i + 2) := nI_1 _
  have c0 := nb_cl (i := 3 * i) (by omega)
  have c1 := nb_cl (i := 3 * i + 1) (by omega)
  have c2 := nb_cl (i := 3 * i + 2) (by omega)
  unfold wpX_dropOldestQueued
  refine nm_r (nb_30 i) ⟨3, ?_⟩
  refine br_f (by decide) ?_
  rw [a0, a1, c0, c1]
  refine ⟨w1, w0, nm_e ⟨w1, w0, nm_e (nm_r (e' := 1) (by decide) ?_)⟩⟩
  refine br_f (by decide) ?_
  rw [a1, a2, c1, c2]
  refine ⟨w2, w1, nm_e ⟨w2, w1, nm_e (nm_r (e' := 2) (by decide) ?_)⟩⟩
  refine br_t (by decide) ?_
  rw [nb_cl (i := i) (by omega), hC]
  exact ⟨hv, hv, nm_r (congrArg (upd eC i) (nI_pred 2)) (nm_e H)⟩
theorem nx_enq_3 {post : SX → Prop} {i : Nat} {p d : Int32} (hi : i < 16) (hC : eC i = nI 3) (H : post (nI cn, rt, rx, ms, nI e, nI o, nI r, fn, pi, dr + 1, eA, eS, eL, eT, eP, upd (upd eC i 2) i 3, upd (nb_dq i qI) (3 * i + 2) p, upd (nb_dq i qD) (3 * i + 2) d, oA, oS, oT, oP, rA, rM, nb_fp 0 fr, nb_fp 1 fr, nb_fp 2 fr, nb_fp 3 fr, nb_fp 4 fr)) : wpX_enqueue post (nI cn, rt, rx, ms, nI e, nI o, nI r, fn, pi, dr, eA, eS, eL, eT, eP, eC, qI, qD, oA, oS, oT, oP, rA, rM, nb_fp 0 fr, nb_fp 1 fr, nb_fp 2 fr, nb_fp 3 fr, nb_fp 4 fr) (nI i) p d := by
  have hv : vp_in (nI i) 16 := nb_ix hi (by omega)
  unfold wpX_enqueue
  refine ⟨hv, br_f ?_ (nx_drop hi hC (nx_e15 (q := 2) hi (by omega) pk_us H))⟩
  rw [nb_cl (i := i) (by omega), hC]
  decide
theorem ny_s344 {post : Int32 → SY → Prop} {i q : Nat} {p d : Int32} (hi : i < 16) (hq : q < 3) (hC : eC i = nI q) (H : post p (nI cn, rt, rx, ms, nI e, nI o, nI r, fn, pi, dr, eA, eS, eL, eT, eP, upd eC i (nI (q + 1)), upd qI (3 * i + q) p, upd qD (3 * i + q) d, sn, oA, oS, oT, oP, rA, rM, fr)) : wY_send_344 post d p (nI i) (nI cn) rt rx ms (nI e) (nI o) (nI r) fn pi dr eA eS eL eT eP eC qI qD sn oA oS oT oP rA rM fr := by
  have hv : vp_in (nI i) 16 := nb_ix hi (by omega)
  have hw : vp_in (nI (3 * i + q)) 48 := nb_ix (by omega) (by omega)
  unfold wY_send_344
  rw [nb_cl (i := i) (by omega), hC, nb_3a, nb_cl (i := 3 * i + q) (by omega), nI_1 q]
  exact ⟨hv, hw, nm_e ⟨hv, hw, nm_e ⟨hv, hv, nm_e H⟩⟩⟩
end
end
section
/-! sending what is queued -/
section
variable {cn e o r : Nat} {rt rx ms fn pi dr : Int32} {eA eS eL eT eP eC qI qD oA oS oT oP rA rM fr sn : Nat → Int32}
theorem nj_fl {i q : Nat} (hi : i < 16) (hq : q ≤ 3) (hC : eC i = nI q) (h3 : ¬ eS i = 3) : ∀ d k : Nat, k + d = q → ∀ (fn : Int32) (fr : Nat → Int32), ∃ (fn1 : Int32) (fr1 : Nat → Int32),
    (∀ post : SX → Prop, post (nI cn, rt, rx, ms, nI e, nI o, nI r, fn1, pi, dr, eA, eS, eL, eT, eP, upd eC i 0, qI, qD, oA, oS, oT, oP, rA, rM, nb_fp 0 fr1, nb_fp 1 fr1, nb_fp 2 fr1, nb_fp 3 fr1, nb_fp 4 fr1) → wX_flush_14 post (nI i) (nI (3 * i)) (nI q) (d + 1) (nI k) (nI cn) rt rx ms (nI e) (nI o) (nI r) fn pi dr eA eS eL eT eP eC qI qD oA oS oT oP rA rM (nb_fp 0 fr) (nb_fp 1 fr) (nb_fp 2 fr) (nb_fp 3 fr) (nb_fp 4 fr)) ∧
    (∀ post : SY → Prop, post (nI cn, rt, rx, ms, nI e, nI o, nI r, fn1, pi, dr, eA, eS, eL, eT, eP, upd eC i 0, qI, qD, sn, oA, oS, oT, oP, rA, rM, fr1) → wY_flush_2 post (nI i) (d + 1) (nI k) (nI cn) rt rx ms (nI e) (nI o) (nI r) fn pi dr eA eS eL eT eP eC qI qD sn oA oS oT oP rA rM fr) := by
  have hv : vp_in (nI i) 16 := nb_ix hi (by omega)
  intro d
  induction d with
  | zero =>
    intro k hk fn fr
    refine ⟨fn, fr, fun post H => ?_, fun post H => ?_⟩
    · refine br_t (nI_le (by omega) (by omega)) ?_
      rw [nb_cl (i := i) (by omega)]
      exact ⟨hv, nm_e H⟩
    · refine ⟨hv, br_t ?_ ?_⟩
      · rw [nb_cl (i := i) (by omega), hC]
        exact nI_le (by omega) (by omega)
      · rw [nb_cl (i := i) (by omega)]
        exact ⟨hv, nm_e H⟩
  | succ d ih =>
    intro k hk fn fr
    have hw : vp_in (nI (3 * i + k)) 48 := nb_ix (by omega) (by omega)
    obtain ⟨fn1, fr1, hX, hY⟩ := ih (k + 1) (by omega) (fn + 1) (nb_ev fr fn 5 (qD (3 * i + k)) (eL i) (qI (3 * i + k)) (eA i))
    refine ⟨fn1, fr1, fun post H => ?_, fun post H => ?_⟩
    · refine br_f (nI_ge (by omega) (by omega)) ?_
      rw [nI_add (3 * i) k, nb_cl (i := 3 * i + k) (by omega)]
      exact ⟨hw, hw, nx_transmit_n hi h3 (nm_r (nI_1 k) (hX post H))⟩
    · refine ⟨hv, br_f ?_ (br_f (nI_ge (b := 3) (by omega) (by omega)) ?_)⟩
      · rw [nb_cl (i := i) (by omega), hC]
        exact nI_ge (by omega) (by omega)
      · rw [nb_3a, nb_cl (i := 3 * i + k) (by omega)]
        exact ⟨hw, hw, ny_transmit_n hi h3 (nm_r (nI_1 k) (hY post H))⟩
theorem nj_flush {i q : Nat} (hi : i < 16) (hq : q ≤ 3) (hC : eC i = nI q) : ∃ (fn1 : Int32) (fr1 eS1 eT1 eP1 : Nat → Int32),
    ((eS1 = eS ∧ eT1 = eT ∧ eP1 = eP) ∨ (eS i = 3 ∧ eS1 = upd eS i 4 ∧ eT1 = upd eT i 5 ∧ eP1 = upd eP i 0)) ∧
    (∀ post : SX → Prop, post (nI cn, rt, rx, ms, nI e, nI o, nI r, fn1, pi, dr, eA, eS1, eL, eT1, eP1, upd eC i 0, qI, qD, oA, oS, oT, oP, rA, rM, nb_fp 0 fr1, nb_fp 1 fr1, nb_fp 2 fr1, nb_fp 3 fr1, nb_fp 4 fr1) → wpX_flush post (nI cn, rt, rx, ms, nI e, nI o, nI r, fn, pi, dr, eA, eS, eL, eT, eP, eC, qI, qD, oA, oS, oT, oP, rA, rM, nb_fp 0 fr, nb_fp 1 fr, nb_fp 2 fr, nb_fp 3 fr, nb_fp 4 fr) (nI i)) ∧
    (∀ post : SY → Prop, post (nI cn, rt, rx, ms, nI e, nI o, nI r, fn1, pi, dr, eA, eS1, eL, eT1, eP1, upd eC i 0, qI, qD, sn, oA, oS, oT, oP, rA, rM, fr1) → wpY_flush post (nI cn, rt, rx, ms, nI e, nI o, nI r, fn, pi, dr, eA, eS, eL, eT, eP, eC, qI, qD, sn, oA, oS, oT, oP, rA, rM, fr) (nI i)) := by
  have hv : vp_in (nI i) 16 := nb_ix hi (by omega)
  have hC' : eC (nI i).toNatClampNeg = nI q := by rw [nb_cl (i := i) (by omega)]; exact hC
  have hin : ∀ post : SX → Prop, (∃ n, wX_flush_14 post (nI i) (nI (3 * i)) (nI q) n (nI 0) (nI cn) rt rx ms (nI e) (nI o) (nI r) fn pi dr eA eS eL eT eP eC qI qD oA oS oT oP rA rM (nb_fp 0 fr) (nb_fp 1 fr) (nb_fp 2 fr) (nb_fp 3 fr) (nb_fp 4 fr)) → wpX_flush post (nI cn, rt, rx, ms, nI e, nI o, nI r, fn, pi, dr, eA, eS, eL, eT, eP, eC, qI, qD, oA, oS, oT, oP, rA, rM, nb_fp 0 fr, nb_fp 1 fr, nb_fp 2 fr, nb_fp 3 fr, nb_fp 4 fr) (nI i) := by
    intro post h
    unfold wpX_flush
    exact nm_r (nb_30 i) ⟨hv, nm_r hC' h⟩
  have hin2 : ∀ post : SY → Prop, (∃ n, wY_flush_2 post (nI i) n (nI 0) (nI cn) rt rx ms (nI e) (nI o) (nI r) fn pi dr eA eS eL eT eP eC qI qD sn oA oS oT oP rA rM fr) → wpY_flush post (nI cn, rt, rx, ms, nI e, nI o, nI r, fn, pi, dr, eA, eS, eL, eT, eP, eC, qI, qD, sn, oA, oS, oT, oP, rA, rM, fr) (nI i) := by
    intro post h
    unfold wpY_flush
    exact h
  by_cases h3 : eS i = 3
  · by_cases h0 : q = 0
    · subst h0
      refine ⟨fn, fr, eS, eT, eP, Or.inl ⟨rfl, rfl, rfl⟩, fun post H => hin post ⟨1, ?_⟩, fun post H => hin2 post ⟨1, ?_⟩⟩
      · refine br_t (nI_le (by omega) (by omega)) ?_
        rw [nb_cl (i := i) (by omega)]
        exact ⟨hv, nm_e H⟩
      · refine ⟨hv, br_t ?_ ?_⟩
        · rw [hC']
          exact nI_le (by omega) (by omega)
        · rw [nb_cl (i := i) (by omega)]
          exact ⟨hv, nm_e H⟩
    · obtain ⟨d, rfl⟩ : ∃ d, q = d + 1 := ⟨q - 1, by omega⟩
      have hw : vp_in (nI (3 * i)) 48 := nb_ix (by omega) (by omega)
      have h3' : ¬ upd eS i 4 i = 3 := by rw [pk_us]; decide
      obtain ⟨fn1, fr1, hX, hY⟩ := nj_fl (cn := cn) (e := e) (o := o) (r := r) (rt := rt) (rx := rx) (ms := ms) (pi := pi) (dr := dr) (eA := eA) (eS := upd eS i 4) (eL := eL) (eT := upd eT i 5) (eP := upd eP i 0) (qI := qI) (qD := qD) (oA := oA) (oS := oS) (oT := oT) (oP := oP) (rA := rA) (rM := rM) (sn := sn) hi hq hC h3' d 1 (by omega) (fn + 1) (nb_ev fr fn 5 (qD (3 * i)) (eL i) (qI (3 * i)) (eA i))
      refine ⟨fn1, fr1, upd eS i 4, upd eT i 5, upd eP i 0, Or.inr ⟨h3, rfl, rfl, rfl⟩, fun post H => hin post ⟨d + 2, ?_⟩, fun post H => hin2 post ⟨d + 2, ?_⟩⟩
      · refine br_f (nI_ge (by omega) (by omega)) ?_
        rw [nI_add (3 * i) 0, Nat.add_zero, nb_cl (i := 3 * i) (by omega)]
        exact ⟨hw, hw, nx_transmit_3 hi h3 (nm_r (nI_1 0) (hX post H))⟩
      · refine ⟨hv, br_f ?_ (br_f (nI_ge (b := 3) (by omega) (by omega)) ?_)⟩
        · rw [hC']
          exact nI_ge (by omega) (by omega)
        · rw [nb_3a, Nat.add_zero, nb_cl (i := 3 * i) (by omega)]
          exact ⟨hw, hw, ny_transmit_3 hi h3 (nm_r (nI_1 0) (hY post H))⟩
  · obtain ⟨fn1, fr1, hX, hY⟩ := nj_fl (cn := cn) (e := e) (o := o) (r := r) (rt := rt) (rx := rx) (ms := ms) (pi := pi) (dr := dr) (eA := eA) (eS := eS) (eL := eL) (eT := eT) (eP := eP) (qI := qI) (qD := qD) (oA := oA) (oS := oS) (oT := oT) (oP := oP) (rA := rA) (rM := rM) (sn := sn) hi hq hC h3 q 0 (by omega) fn fr
    exact ⟨fn1, fr1, eS, eT, eP, Or.inl ⟨rfl, rfl, rfl⟩, fun post H => hin post ⟨q + 1, hX post H⟩, fun post H => hin2 post ⟨q + 1, hY post H⟩⟩
theorem nx_flush_0 {post : SX → Prop} {i : Nat} (hi : i < 16) (hC : eC i = 0) (H : post (nI cn, rt, rx, ms, nI e, nI o, nI r, fn, pi, dr, eA, eS, eL, eT, eP, eC, qI, qD, oA, oS, oT, oP, rA, rM, nb_fp 0 fr, nb_fp 1 fr, nb_fp 2 fr, nb_fp 3 fr, nb_fp 4 fr)) : wpX_flush post (nI cn, rt, rx, ms, nI e, nI o, nI r, fn, pi, dr, eA, eS, eL, eT, eP, eC, qI, qD, oA, oS, oT, oP, rA, rM, nb_fp 0 fr, nb_fp 1 fr, nb_fp 2 fr, nb_fp 3 fr, nb_fp 4 fr) (nI i) := by
  have hv : vp_in (nI i) 16 := nb_ix hi (by omega)
  unfold wpX_flush
  refine nm_r (nb_30 i) ⟨hv, nm_r (e' := nI 0) ?_ ⟨1, ?_⟩⟩
  · rw [nb_cl (i := i) (by omega)]
    exact hC
  · refine br_t (nI_le (b := 0) (by omega) (by omega)) ?_
    rw [nb_cl (i := i) (by omega), nb_uv hC]
    exact ⟨hv, nm_e H⟩
theorem nx_fail_n {post : SX → Prop} {m i : Nat} (hm : m < 16) (hi : i ≤ m) (hr : r ≤ 4) (hn : ∀ j, j < r → ¬ rA j = eA i) (H : post (nI cn, rt, rx, ms, nI m, nI o, nI r, fn, pi, dr + eC i, nb_sh i m eA, nb_sh i m eS, nb_sh i m eL, nb_sh i m eT, nb_sh i m eP, nb_sh i m eC, nb_sq i m qI, nb_sq i m qD, oA, oS, oT, oP, rA, rM, nb_fp 0 fr, nb_fp 1 fr, nb_fp 2 fr, nb_fp 3 fr, nb_fp 4 fr)) : wpX_failEntry post (nI cn, rt, rx, ms, nI (m + 1), nI o, nI r, fn, pi, dr, eA, eS, eL, eT, eP, eC, qI, qD, oA, oS, oT, oP, rA, rM, nb_fp 0 fr, nb_fp 1 fr, nb_fp 2 fr, nb_fp 3 fr, nb_fp 4 fr) (nI i) := by
  have hv : vp_in (nI i) 16 := nb_ix (by omega) (by omega)
  unfold wpX_failEntry
  rw [nb_cl (by omega)]
  exact ⟨hv, nm_e ⟨hv, nx_findRouter_n hr hn (br_t rfl (nx_deleteEntry hm hi H))⟩⟩
theorem nx_fail_s {post : SX → Prop} {m i : Nat} (hm : m < 16) (hi : i ≤ m) (hr : r ≤ 4) (j : Nat) (hj : j < r) (hy : rA j = eA i) (hn : ∀ l, l < j → ¬ rA l = eA i) (H : post (nI cn, rt, rx, ms, nI m, nI o, nI r, fn, pi, dr + eC i, nb_sh i m eA, nb_sh i m eS, nb_sh i m eL, nb_sh i m eT, nb_sh i m eP, nb_sh i m eC, nb_sq i m qI, nb_sq i m qD, oA, oS, oT, oP, rA, upd rM j 1, nb_fp 0 fr, nb_fp 1 fr, nb_fp 2 fr, nb_fp 3 fr, nb_fp 4 fr)) : wpX_failEntry post (nI cn, rt, rx, ms, nI (m + 1), nI o, nI r, fn, pi, dr, eA, eS, eL, eT, eP, eC, qI, qD, oA, oS, oT, oP, rA, rM, nb_fp 0 fr, nb_fp 1 fr, nb_fp 2 fr, nb_fp 3 fr, nb_fp 4 fr) (nI i) := by
  have hv : vp_in (nI i) 16 := nb_ix (by omega) (by omega)
  unfold wpX_failEntry
  rw [nb_cl (by omega)]
  refine ⟨hv, nm_e ⟨hv, nx_findRouter_s hr j hj hy hn (br_f (nb_m1 (by omega)) ?_)⟩⟩
  rw [nb_cl (by omega)]
  exact ⟨nb_ix (by omega) (by omega), nm_e (nx_deleteEntry hm hi H)⟩
theorem ny_fail_n {post : SY → Prop} {m i : Nat} (hm : m < 16) (hi : i ≤ m) (hr : r ≤ 4) (hn : ∀ j, j < r → ¬ rA j = eA i) (H : post (nI cn, rt, rx, ms, nI m, nI o, nI r, fn, pi, dr + eC i, nb_sh i m eA, nb_sh i m eS, nb_sh i m eL, nb_sh i m eT, nb_sh i m eP, nb_sh i m eC, nb_sq i m qI, nb_sq i m qD, sn, oA, oS, oT, oP, rA, rM, fr)) : wpY_fail post (nI cn, rt, rx, ms, nI (m + 1), nI o, nI r, fn, pi, dr, eA, eS, eL, eT, eP, eC, qI, qD, sn, oA, oS, oT, oP, rA, rM, fr) (nI i) := by
  have hv : vp_in (nI i) 16 := nb_ix (by omega) (by omega)
  unfold wpY_fail
  rw [nb_cl (by omega)]
  exact ⟨hv, nm_e ⟨hv, nm_e (ny_deleteAt hm hi (ny_findRouter_n hr hn (br_t (by decide) H)))⟩⟩
theorem ny_fail_s {post : SY → Prop} {m i : Nat} (hm : m < 16) (hi : i ≤ m) (hr : r ≤ 4) (j : Nat) (hj : j < r) (hy : rA j = eA i) (hn : ∀ l, l < j → ¬ rA l = eA i) (H : post (nI cn, rt, rx, ms, nI m, nI o, nI r, fn, pi, dr + eC i, nb_sh i m eA, nb_sh i m eS, nb_sh i m eL, nb_sh i m eT, nb_sh i m eP, nb_sh i m eC, nb_sq i m qI, nb_sq i m qD, sn, oA, oS, oT, oP, rA, upd rM j 1, fr)) : wpY_fail post (nI cn, rt, rx, ms, nI (m + 1), nI o, nI r, fn, pi, dr, eA, eS, eL, eT, eP, eC, qI, qD, sn, oA, oS, oT, oP, rA, rM, fr) (nI i) := by
  have hv : vp_in (nI i) 16 := nb_ix (by omega) (by omega)
  unfold wpY_fail
  rw [nb_cl (by omega)]
  refine ⟨hv, nm_e ⟨hv, nm_e (ny_deleteAt hm hi (ny_findRouter_s hr j hj hy hn (br_f (nb_nn (by omega)) ?_)))⟩⟩
  rw [nb_cl (by omega)]
  exact ⟨nb_ix (by omega) (by omega), nm_e H⟩
end
end
section
/-! the relation -/
def nb_inv (cn e o r : Nat) (rt rx : Int32) (eA eS eL eT eP eC oA oS oT rA : Nat → Int32) : Prop :=
  (2 ≤ cn ∧ cn ≤ 16 ∧ e ≤ cn ∧ o ≤ 8 ∧ r ≤ 4) ∧ (0 < rt ∧ 0 < rx) ∧ nb_ent e eA eS eL eT eP eC ∧ nb_own o oA oS oT ∧ nb_rou r rA
def i_Rel (_ : Nat) (u : SX) (v : SY) : Prop := ∃ (cn e o r : Nat) (rt rx ms fn pi dr : Int32) (eA eS eL eT eP eC qI qD oA oS oT oP rA rM fr sn : Nat → Int32), u = (nI cn, rt, rx, ms, nI e, nI o, nI r, fn, pi, dr, eA, eS, eL, eT, eP, eC, qI, qD, oA, oS, oT, oP, rA, rM, nb_fp 0 fr, nb_fp 1 fr, nb_fp 2 fr, nb_fp 3 fr, nb_fp 4 fr) ∧ v = (nI cn, rt, rx, ms, nI e, nI o, nI r, fn, pi, dr, eA, eS, eL, eT, eP, eC, qI, qD, sn, oA, oS, oT, oP, rA, rM, fr) ∧ nb_inv cn e o r rt rx eA eS eL eT eP eC oA oS oT rA
theorem i_up {k : Nat} {u : SX} {v : SY} (h : i_Rel k u v) : i_Rel (k + 4) u v := h
theorem nb_rel {k : Nat} {cn e o r : Nat} {rt rx ms fn pi dr : Int32} {eA eS eL eT eP eC qI qD oA oS oT oP rA rM fr sn : Nat → Int32} (h : nb_inv cn e o r rt rx eA eS eL eT eP eC oA oS oT rA) : i_Rel k (nI cn, rt, rx, ms, nI e, nI o, nI r, fn, pi, dr, eA, eS, eL, eT, eP, eC, qI, qD, oA, oS, oT, oP, rA, rM, nb_fp 0 fr, nb_fp 1 fr, nb_fp 2 fr, nb_fp 3 fr, nb_fp 4 fr) (nI cn, rt, rx, ms, nI e, nI o, nI r, fn, pi, dr, eA, eS, eL, eT, eP, eC, qI, qD, sn, oA, oS, oT, oP, rA, rM, fr) := ⟨cn, e, o, r, rt, rx, ms, fn, pi, dr, eA, eS, eL, eT, eP, eC, qI, qD, oA, oS, oT, oP, rA, rM, fr, sn, rfl, rfl, h⟩
/-! the constructors -/
def nb_clamp (x a b : Int32) : Int32 := if a ≤ x then (if x ≤ b then x else b) else a
theorem nx_clamp {post : Int32 → Prop} {x a b : Int32} (H : post (nb_clamp x a b)) : wpX_clamp post x a b := by
  unfold nb_clamp at H
  unfold wpX_clamp
  by_cases h1 : a ≤ x
  · rw [if_pos h1] at H
    by_cases h2 : x ≤ b
    · rw [if_pos h2] at H
      exact br_t h1 (br_t h2 H)
    · rw [if_neg h2] at H
      exact br_t h1 (br_f h2 H)
  · rw [if_neg h1] at H
    exact br_f h1 H
theorem nb_clamp_pos {x a b : Int32} (ha : 0 < a) (hb : 0 < b) : 0 < nb_clamp x a b := by
  unfold nb_clamp
  by_cases h1 : a ≤ x
  · rw [if_pos h1]
    by_cases h2 : x ≤ b
    · rw [if_pos h2]
      exact Int32.lt_of_lt_of_le ha h1
    · rw [if_neg h2]
      exact hb
  · rw [if_neg h1]
    exact ha
theorem nb_clamp_16 (x : Int32) : ∃ n : Nat, 2 ≤ n ∧ n ≤ 16 ∧ nb_clamp x 2 16 = nI n := by
  unfold nb_clamp
  by_cases h1 : (2 : Int32) ≤ x
  · rw [if_pos h1]
    by_cases h2 : x ≤ 16
    · rw [if_pos h2]
      obtain ⟨j, hj, rfl⟩ := nI_of2 (x := x) (M := 16) (n := 16) (by decide) (Int32.not_lt.mpr (Int32.le_trans (by decide) h1)) h2
      rw [show (2 : Int32) = nI 2 from rfl, nI_leI (by omega) (by omega)] at h1
      exact ⟨j, h1, hj, rfl⟩
    · rw [if_neg h2]
      exact ⟨16, by omega, by omega, rfl⟩
  · rw [if_neg h1]
    exact ⟨2, by omega, by omega, rfl⟩
section
variable {post : SY → Prop} {x2 x3 x4 z0 f0 f1 f2 f3 f4 f5 f6 f7 f8 f9 : Int32} {w0 w1 w2 w3 w4 w5 w6 w7 w8 w9 w10 w11 w12 w13 w14 w15 : Nat → Int32}
theorem ny_203 (H : post (f0, f1, z0, nb_clamp x4 1 5, f4, f5, f6, f7, f8, f9, w0, w1, w2, w3, w4, w5, w6, w7, w8, w9, w10, w11, w12, w13, w14, w15)) : wY_init_203 post x4 z0 f0 f1 f2 f3 f4 f5 f6 f7 f8 f9 w0 w1 w2 w3 w4 w5 w6 w7 w8 w9 w10 w11 w12 w13 w14 w15 := by
  unfold nb_clamp at H
  unfold wY_init_203
  by_cases h1 : (1 : Int32) ≤ x4
  · rw [if_pos h1] at H
    by_cases h2 : x4 ≤ 5
    · rw [if_pos h2] at H
      exact br_t h1 (br_t h2 H)
    · rw [if_neg h2] at H
      exact br_t h1 (br_f h2 H)
  · rw [if_neg h1] at H
    exact br_f h1 H
theorem ny_178 (H : wY_init_203 post x4 (nb_clamp x3 1 10) f0 z0 f2 f3 f4 f5 f6 f7 f8 f9 w0 w1 w2 w3 w4 w5 w6 w7 w8 w9 w10 w11 w12 w13 w14 w15) : wY_init_178 post x3 x4 z0 f0 f1 f2 f3 f4 f5 f6 f7 f8 f9 w0 w1 w2 w3 w4 w5 w6 w7 w8 w9 w10 w11 w12 w13 w14 w15 := by
  unfold nb_clamp at H
  unfold wY_init_178
  by_cases h1 : (1 : Int32) ≤ x3
  · rw [if_pos h1] at H
    by_cases h2 : x3 ≤ 10
    · rw [if_pos h2] at H
      exact br_t h1 (br_t h2 H)
    · rw [if_neg h2] at H
      exact br_t h1 (br_f h2 H)
  · rw [if_neg h1] at H
    exact br_f h1 H
theorem ny_153 (H : wY_init_178 post x3 x4 (nb_clamp x2 2 60) z0 f1 f2 f3 f4 f5 f6 f7 f8 f9 w0 w1 w2 w3 w4 w5 w6 w7 w8 w9 w10 w11 w12 w13 w14 w15) : wY_init_153 post x2 x3 x4 z0 f0 f1 f2 f3 f4 f5 f6 f7 f8 f9 w0 w1 w2 w3 w4 w5 w6 w7 w8 w9 w10 w11 w12 w13 w14 w15 := by
  unfold nb_clamp at H
  unfold wY_init_153
  by_cases h1 : (2 : Int32) ≤ x2
  · rw [if_pos h1] at H
    by_cases h2 : x2 ≤ 60
    · rw [if_pos h2] at H
      exact br_t h1 (br_t h2 H)
    · rw [if_neg h2] at H
      exact br_t h1 (br_f h2 H)
  · rw [if_neg h1] at H
    exact br_f h1 H
theorem ny_init {x1 : Int32} (H : wY_init_153 post x2 x3 x4 (nb_clamp x1 2 16) 0 0 0 0 0 0 0 0 0 0 (fun _ => 0) (fun _ => 0) (fun _ => 0) (fun _ => 0) (fun _ => 0) (fun _ => 0) (fun _ => 0) (fun _ => 0) (fun _ => 0) (fun _ => 0) (fun _ => 0) (fun _ => 0) (fun _ => 0) (fun _ => 0) (fun _ => 0) (fun _ => 0)) : wpY_init post x1 x2 x3 x4 := by
  unfold nb_clamp at H
  unfold wpY_init
  by_cases h1 : (2 : Int32) ≤ x1
  · rw [if_pos h1] at H
    by_cases h2 : x1 ≤ 16
    · rw [if_pos h2] at H
      exact br_t h1 (br_t h2 H)
    · rw [if_neg h2] at H
      exact br_t h1 (br_f h2 H)
  · rw [if_neg h1] at H
    exact br_f h1 H
end
theorem i_vc0 (k0 : Int32) (k1 : Int32) (k2 : Int32) (k3 : Int32) : wpX_init (fun u => wpY_init (fun v => i_Rel 4 u v) k0 k1 k2 k3) k0 k1 k2 k3 := by
  unfold wpX_init
  refine nx_clamp (nx_clamp (nx_clamp (nx_clamp ?_)))
  refine ny_init (ny_153 (ny_178 (ny_203 ?_)))
  obtain ⟨n, h2, h16, en⟩ := nb_clamp_16 k0
  rw [en]
  refine ⟨n, 0, 0, 0, nb_clamp k1 2 60, nb_clamp k2 1 10, nb_clamp k3 1 5, 0, 0, 0, fun _ => 0, fun _ => 0, fun _ => 0, fun _ => 0, fun _ => 0, fun _ => 0, fun _ => 0, fun _ => 0, fun _ => 0, fun _ => 0, fun _ => 0, fun _ => 0, fun _ => 0, fun _ => 0, fun _ => 0, fun _ => 0, rfl, rfl, ⟨h2, h16, by omega, by omega, by omega⟩, ⟨nb_clamp_pos (by decide) (by decide), nb_clamp_pos (by decide) (by decide)⟩, ⟨fun i hi => absurd hi (by omega), fun i hi => absurd hi (by omega), fun i j hi => absurd hi (by omega)⟩, fun i hi => absurd hi (by omega), fun i hi => absurd hi (by omega)⟩
end
section
/-! validity, selection -/
def nb_oz (x : Int32) : Prop := 0 ≤ x ∧ x ≤ 65535
theorem nx_valid_t {post : Int32 → Prop} {x : Int32} (h : nb_ok x) (H : post 1) : wpX_isValid post x := br_f (Int32.not_lt.mpr h.1) (br_f (Int32.not_lt.mpr h.2) H)
theorem nx_valid_f {post : Int32 → Prop} {x : Int32} (h : ¬ nb_ok x) (H : post 0) : wpX_isValid post x := by
  by_cases h1 : x < 1
  · exact br_t h1 H
  · exact br_f h1 (br_t (Int32.not_le.mp fun h2 => h ⟨Int32.not_lt.mp h1, h2⟩) H)
theorem nx_voz_t {post : Int32 → Prop} {x : Int32} (h : nb_oz x) (H : post 1) : wpX_isValidOrZero post x := br_f (Int32.not_lt.mpr h.1) (br_f (Int32.not_lt.mpr h.2) H)
theorem nx_voz_f {post : Int32 → Prop} {x : Int32} (h : ¬ nb_oz x) (H : post 0) : wpX_isValidOrZero post x := by
  by_cases h1 : x < 0
  · exact br_t h1 H
  · exact br_f h1 (br_t (Int32.not_le.mp fun h2 => h ⟨Int32.not_lt.mp h1, h2⟩) H)
theorem nb_ei_q {S L T P C : Int32} (h : nb_ei S L T P C) : ∃ q : Nat, q ≤ 3 ∧ C = nI q := by
  rcases h with h | h | h | h | h
  · exact h.2.2.2
  · exact ⟨0, by omega, h.2.2.2⟩
  · exact ⟨0, by omega, h.2.2.2⟩
  · exact ⟨0, by omega, h.2.2.2⟩
  · exact ⟨0, by omega, h.2.2⟩
section
variable {cn e o r : Nat} {rt rx ms fn pi dr : Int32} {eA eS eL eT eP eC qI qD oA oS oT oP rA rM fr sn : Nat → Int32}
theorem ny_valid_t {post : Int32 → Prop} {x : Int32} (h : nb_ok x) (H : post 1) : wpY_valid post (nI cn, rt, rx, ms, nI e, nI o, nI r, fn, pi, dr, eA, eS, eL, eT, eP, eC, qI, qD, sn, oA, oS, oT, oP, rA, rM, fr) x := by
  unfold wpY_valid
  exact br_f (Int32.not_lt.mpr h.1) (br_f (Int32.not_lt.mpr h.2) H)
theorem ny_valid_f {post : Int32 → Prop} {x : Int32} (h : ¬ nb_ok x) (H : post 0) : wpY_valid post (nI cn, rt, rx, ms, nI e, nI o, nI r, fn, pi, dr, eA, eS, eL, eT, eP, eC, qI, qD, sn, oA, oS, oT, oP, rA, rM, fr) x := by
  unfold wpY_valid
  by_cases h1 : x < 1
  · exact br_t h1 H
  · exact br_f h1 (br_t (Int32.not_le.mp fun h2 => h ⟨Int32.not_lt.mp h1, h2⟩) H)
theorem ny_sel_n {post : Int32 → Prop} (hb : r ≤ 4) (hn : ∀ j, j < r → ¬ rM j = 0) (H : post (rA 0)) : ∃ n, wY_selected_11 post (nI cn) rt rx ms (nI e) (nI o) (nI r) fn pi dr eA eS eL eT eP eC qI qD sn oA oS oT oP rA rM fr n 0 := by
  have key : ∀ d j : Nat, j + d = r → wY_selected_11 post (nI cn) rt rx ms (nI e) (nI o) (nI r) fn pi dr eA eS eL eT eP eC qI qD sn oA oS oT oP rA rM fr (d + 1) (nI j) := by
    intro d
    induction d with
    | zero =>
      intro j hj
      exact br_t (nI_le (by omega) (by omega)) H
    | succ d ih =>
      intro j hj
      refine br_f (nI_ge (by omega) (by omega)) ⟨nb_ix (by omega) (by omega), br_f ?_ (nm_r (nI_1 j) (ih (j + 1) (by omega)))⟩
      rw [nb_cl (by omega)]
      exact hn j (by omega)
  exact ⟨r + 1, key r 0 (by omega)⟩
theorem ny_sel_s {post : Int32 → Prop} (hb : r ≤ 4) (i : Nat) (hi : i < r) (hy : rM i = 0) (hn : ∀ j, j < i → ¬ rM j = 0) (H : post (rA i)) : ∃ n, wY_selected_11 post (nI cn) rt rx ms (nI e) (nI o) (nI r) fn pi dr eA eS eL eT eP eC qI qD sn oA oS oT oP rA rM fr n 0 := by
  have key : ∀ d j : Nat, j + d = i → wY_selected_11 post (nI cn) rt rx ms (nI e) (nI o) (nI r) fn pi dr eA eS eL eT eP eC qI qD sn oA oS oT oP rA rM fr (d + 1) (nI j) := by
    intro d
    induction d with
    | zero =>
      intro j hj
      obtain rfl : j = i := by omega
      refine br_f (nI_ge (by omega) (by omega)) ?_
      rw [nb_cl (by omega)]
      exact ⟨nb_ix (by omega) (by omega), br_t hy ⟨nb_ix (by omega) (by omega), H⟩⟩
    | succ d ih =>
      intro j hj
      refine br_f (nI_ge (by omega) (by omega)) ⟨nb_ix (by omega) (by omega), br_f ?_ (nm_r (nI_1 j) (ih (j + 1) (by omega)))⟩
      rw [nb_cl (by omega)]
      exact hn j (by omega)
  exact ⟨i + 1, key i 0 (by omega)⟩
theorem nj_sel (hb : r ≤ 4) (hR : nb_rou r rA) : ∃ x : Int32, (0 < r → nb_ok x) ∧ (∀ post : Int32 → Prop, post x → wpX_selectedRouter post (nI cn, rt, rx, ms, nI e, nI o, nI r, fn, pi, dr, eA, eS, eL, eT, eP, eC, qI, qD, oA, oS, oT, oP, rA, rM, nb_fp 0 fr, nb_fp 1 fr, nb_fp 2 fr, nb_fp 3 fr, nb_fp 4 fr)) ∧ (∀ post : Int32 → Prop, post x → wpY_selected post (nI cn, rt, rx, ms, nI e, nI o, nI r, fn, pi, dr, eA, eS, eL, eT, eP, eC, qI, qD, sn, oA, oS, oT, oP, rA, rM, fr)) := by
  by_cases h0 : r = 0
  · subst h0
    refine ⟨0, fun h => absurd h (by omega), fun post H => ?_, fun post H => ?_⟩
    · unfold wpX_selectedRouter
      exact br_t rfl H
    · unfold wpY_selected
      exact br_t rfl H
  · have hz : ¬ nI r = 0 := nI_ne0 (by omega) (by omega)
    rcases nb_find (fun j => rM j = 0) r with hN | ⟨i, hi, hy, hl⟩
    · refine ⟨rA 0, fun h => hR 0 h, fun post H => ?_, fun post H => ?_⟩
      · unfold wpX_selectedRouter
        exact br_f hz (nx_firstUnmarkedRouter_n hb hN (br_t rfl H))
      · unfold wpY_selected
        exact br_f hz (ny_sel_n hb hN H)
    · refine ⟨rA i, fun h => hR i hi, fun post H => ?_, fun post H => ?_⟩
      · unfold wpX_selectedRouter
        refine br_f hz (nx_firstUnmarkedRouter_s hb i hi hy hl (br_f (nb_m1 (by omega)) ⟨nb_ix (by omega) (by omega), ?_⟩))
        rw [nb_cl (by omega)]
        exact H
      · unfold wpY_selected
        exact br_f hz (ny_sel_s hb i hi hy hl H)
end
/-! the calls that only read -/
theorem i_vc_dropped {k : Nat} {u : SX} {v : SY} (I : i_Rel k u v) (hk : k + 4 ≤ 2052) : wpX_dropped (fun r => wpY_dropped (fun r' => r' = r ∧ i_Rel (k + 4) u v) v) u := by
  obtain ⟨cn, e, o, r, rt, rx, ms, fn, pi, dr, eA, eS, eL, eT, eP, eC, qI, qD, oA, oS, oT, oP, rA, rM, fr, sn, rfl, rfl, I⟩ := I
  unfold wpX_dropped wpY_dropped
  exact And.intro rfl (nb_rel I)
theorem i_vc_frameCount {k : Nat} {u : SX} {v : SY} (I : i_Rel k u v) (hk : k + 4 ≤ 2052) : wpX_frameCount (fun r => wpY_frameCount (fun r' => r' = r ∧ i_Rel (k + 4) u v) v) u := by
  obtain ⟨cn, e, o, r, rt, rx, ms, fn, pi, dr, eA, eS, eL, eT, eP, eC, qI, qD, oA, oS, oT, oP, rA, rM, fr, sn, rfl, rfl, I⟩ := I
  unfold wpX_frameCount wpY_frameCount
  exact And.intro rfl (nb_rel I)
theorem i_vc_defaultRouter {k : Nat} {u : SX} {v : SY} (I : i_Rel k u v) (hk : k + 4 ≤ 2052) : wpX_defaultRouter (fun r => wpY_defaultRouter (fun r' => r' = r ∧ i_Rel (k + 4) u v) v) u := by
  obtain ⟨cn, e, o, r, rt, rx, ms, fn, pi, dr, eA, eS, eL, eT, eP, eC, qI, qD, oA, oS, oT, oP, rA, rM, fr, sn, rfl, rfl, I⟩ := I
  obtain ⟨x, _, hX, hY⟩ := nj_sel (cn := cn) (e := e) (o := o) (rt := rt) (rx := rx) (ms := ms) (fn := fn) (pi := pi) (dr := dr) (eA := eA) (eS := eS) (eL := eL) (eT := eT) (eP := eP) (eC := eC) (qI := qI) (qD := qD) (oA := oA) (oS := oS) (oT := oT) (oP := oP) (rM := rM) (fr := fr) (sn := sn) I.1.2.2.2.2 I.2.2.2.2
  unfold wpX_defaultRouter
  refine hX _ ?_
  unfold wpY_defaultRouter
  exact hY _ (And.intro rfl (nb_rel I))
theorem i_vc_entryAt {k : Nat} {u : SX} {v : SY} (I : i_Rel k u v) (hk : k + 4 ≤ 2052) (v1 : Int32) : wpX_entryAt (fun r => wpY_entryAt (fun r' => r' = r ∧ i_Rel (k + 4) u v) v v1) u v1 := by
  obtain ⟨cn, e, o, r, rt, rx, ms, fn, pi, dr, eA, eS, eL, eT, eP, eC, qI, qD, oA, oS, oT, oP, rA, rM, fr, sn, rfl, rfl, I⟩ := I
  have hR := nb_rel (k := k + 4) (ms := ms) (fn := fn) (pi := pi) (dr := dr) (qI := qI) (qD := qD) (oP := oP) (rM := rM) (fr := fr) (sn := sn) I
  have hb := I.1
  by_cases h0 : v1 < 0
  · exact br_t h0 (br_t h0 ⟨rfl, hR⟩)
  · by_cases h1 : v1 < nI e
    · have h1' : ¬ nI e ≤ v1 := Int32.not_le.mpr h1
      have hv : vp_in v1 16 := by
        obtain ⟨j, hj, rfl⟩ := nI_of h0
        rw [nI_ltI hj (by omega)] at h1
        exact nb_ix (by omega) (by omega)
      exact br_f h0 (br_t h1 ⟨hv, br_f h0 (br_f h1' ⟨hv, rfl, hR⟩)⟩)
    · exact br_f h0 (br_f h1 (br_f h0 (br_t (Int32.not_lt.mp h1) ⟨rfl, hR⟩)))
theorem i_vc_routerInfo {k : Nat} {u : SX} {v : SY} (I : i_Rel k u v) (hk : k + 4 ≤ 2052) (v1 : Int32) (v2 : Int32) : wpX_routerInfo (fun r => wpY_routerInfo (fun r' => r' = r ∧ i_Rel (k + 4) u v) v v1 v2) u v1 v2 := by
  obtain ⟨cn, e, o, r, rt, rx, ms, fn, pi, dr, eA, eS, eL, eT, eP, eC, qI, qD, oA, oS, oT, oP, rA, rM, fr, sn, rfl, rfl, I⟩ := I
  have hR := nb_rel (k := k + 4) (ms := ms) (fn := fn) (pi := pi) (dr := dr) (qI := qI) (qD := qD) (oP := oP) (rM := rM) (fr := fr) (sn := sn) I
  have hb := I.1
  by_cases h0 : v1 < 0
  · exact br_t h0 (br_t h0 ⟨rfl, hR⟩)
  · by_cases h1 : v1 < nI r
    · have h1' : ¬ nI r ≤ v1 := Int32.not_le.mpr h1
      have hv : vp_in v1 4 := by
        obtain ⟨j, hj, rfl⟩ := nI_of h0
        rw [nI_ltI hj (by omega)] at h1
        exact nb_ix (by omega) (by omega)
      by_cases e0 : v2 = 0
      · subst e0
        exact br_f h0 (br_t h1 (br_t rfl ⟨hv, br_f h0 (br_f h1' (br_f (by decide) (br_t (by decide) (br_t rfl ⟨hv, rfl, hR⟩))))⟩))
      · by_cases e1 : v2 = 1
        · subst e1
          exact br_f h0 (br_t h1 (br_f e0 (br_t rfl ⟨hv, br_f h0 (br_f h1' (br_f (by decide) (br_t (by decide) (br_f e0 ⟨hv, rfl, hR⟩))))⟩)))
        · refine br_f h0 (br_t h1 (br_f e0 (br_f e1 (br_f h0 (br_f h1' ?_)))))
          by_cases h2 : v2 < 0
          · exact br_t h2 ⟨rfl, hR⟩
          · refine br_f h2 (br_f (fun h3 => ?_) ⟨rfl, hR⟩)
            obtain ⟨j, hj, rfl⟩ := nI_of2 (x := v2) (M := 1) (n := 1) (by decide) h2 h3
            by_cases hz : j = 0
            · subst hz
              exact e0 rfl
            · obtain rfl : j = 1 := by omega
              exact e1 rfl
    · exact br_f h0 (br_f h1 (br_f h0 (br_t (Int32.not_lt.mp h1) ⟨rfl, hR⟩)))
end
section
/-! the calls that only read, with a search -/
theorem nb_five {x : Int32} (h0 : ¬ x < 0) (h4 : x ≤ 4) : x = 0 ∨ x = 1 ∨ x = 2 ∨ x = 3 ∨ x = 4 := by
  obtain ⟨j, hj, rfl⟩ := nI_of2 (x := x) (M := 4) (n := 4) (by decide) h0 h4
  have : j = 0 ∨ j = 1 ∨ j = 2 ∨ j = 3 ∨ j = 4 := by omega
  rcases this with rfl | rfl | rfl | rfl | rfl
  · exact Or.inl rfl
  · exact Or.inr (Or.inl rfl)
  · exact Or.inr (Or.inr (Or.inl rfl))
  · exact Or.inr (Or.inr (Or.inr (Or.inl rfl)))
  · exact Or.inr (Or.inr (Or.inr (Or.inr rfl)))
theorem nb_three {x : Int32} (h0 : ¬ x < 0) (h4 : x ≤ 2) : x = 0 ∨ x = 1 ∨ x = 2 := by
  obtain ⟨j, hj, rfl⟩ := nI_of2 (x := x) (M := 2) (n := 2) (by decide) h0 h4
  have : j = 0 ∨ j = 1 ∨ j = 2 := by omega
  rcases this with rfl | rfl | rfl
  · exact Or.inl rfl
  · exact Or.inr (Or.inl rfl)
  · exact Or.inr (Or.inr rfl)
theorem i_vc_entryInfo {k : Nat} {u : SX} {v : SY} (I : i_Rel k u v) (hk : k + 4 ≤ 2052) (v1 : Int32) (v2 : Int32) : wpX_entryInfo (fun r => wpY_entryInfo (fun r' => r' = r ∧ i_Rel (k + 4) u v) v v1 v2) u v1 v2 := by
  obtain ⟨cn, e, o, r, rt, rx, ms, fn, pi, dr, eA, eS, eL, eT, eP, eC, qI, qD, oA, oS, oT, oP, rA, rM, fr, sn, rfl, rfl, I⟩ := I
  have hR := nb_rel (k := k + 4) (ms := ms) (fn := fn) (pi := pi) (dr := dr) (qI := qI) (qD := qD) (oP := oP) (rM := rM) (fr := fr) (sn := sn) I
  have hb := I.1
  have hE := I.2.2.1
  by_cases h0 : v2 < 0
  · exact br_t h0 (br_t h0 ⟨rfl, hR⟩)
  · by_cases h4 : v2 ≤ 4
    · rcases nb_find (fun j => eA j = v1) e with hN | ⟨i, hi, hy, hl⟩
      · have hq : wpY_entryInfo (fun r' => r' = 0 ∧ i_Rel (k + 4) (nI cn, rt, rx, ms, nI e, nI o, nI r, fn, pi, dr, eA, eS, eL, eT, eP, eC, qI, qD, oA, oS, oT, oP, rA, rM, nb_fp 0 fr, nb_fp 1 fr, nb_fp 2 fr, nb_fp 3 fr, nb_fp 4 fr) (nI cn, rt, rx, ms, nI e, nI o, nI r, fn, pi, dr, eA, eS, eL, eT, eP, eC, qI, qD, sn, oA, oS, oT, oP, rA, rM, fr)) (nI cn, rt, rx, ms, nI e, nI o, nI r, fn, pi, dr, eA, eS, eL, eT, eP, eC, qI, qD, sn, oA, oS, oT, oP, rA, rM, fr) v1 v2 := by
          refine br_f h0 (br_t h4 ?_)
          by_cases hv : nb_ok v1
          · exact ny_valid_t hv (br_f (by decide) (ny_find_n (by omega) hN (br_f (by decide) ⟨rfl, hR⟩)))
          · exact ny_valid_f hv (br_t rfl (br_f (by decide) ⟨rfl, hR⟩))
        exact br_f h0 (br_t h4 (nx_findEntry_n (by omega) hN (br_t rfl (br_c (fun _ => hq) (fun _ => hq)))))
      · have hv : vp_in (nI i) 16 := nb_ix (by omega) (by omega)
        have hm := nb_m1 (i := i) (by omega)
        have hn := nb_n0 (i := i) (by omega)
        have hc := nb_cl (i := i) (by omega)
        have hok : nb_ok v1 := by
          have := hE.1 i hi
          rw [hy] at this
          exact this
        have hei := hE.2.1 i hi
        have hq : ∀ z, wY_entryInfo_28 (fun r' => r' = z ∧ i_Rel (k + 4) (nI cn, rt, rx, ms, nI e, nI o, nI r, fn, pi, dr, eA, eS, eL, eT, eP, eC, qI, qD, oA, oS, oT, oP, rA, rM, nb_fp 0 fr, nb_fp 1 fr, nb_fp 2 fr, nb_fp 3 fr, nb_fp 4 fr) (nI cn, rt, rx, ms, nI e, nI o, nI r, fn, pi, dr, eA, eS, eL, eT, eP, eC, qI, qD, sn, oA, oS, oT, oP, rA, rM, fr)) v2 (nI i) (nI cn) rt rx ms (nI e) (nI o) (nI r) fn pi dr eA eS eL eT eP eC qI qD sn oA oS oT oP rA rM fr → wpY_entryInfo (fun r' => r' = z ∧ i_Rel (k + 4) (nI cn, rt, rx, ms, nI e, nI o, nI r, fn, pi, dr, eA, eS, eL, eT, eP, eC, qI, qD, oA, oS, oT, oP, rA, rM, nb_fp 0 fr, nb_fp 1 fr, nb_fp 2 fr, nb_fp 3 fr, nb_fp 4 fr) (nI cn, rt, rx, ms, nI e, nI o, nI r, fn, pi, dr, eA, eS, eL, eT, eP, eC, qI, qD, sn, oA, oS, oT, oP, rA, rM, fr)) (nI cn, rt, rx, ms, nI e, nI o, nI r, fn, pi, dr, eA, eS, eL, eT, eP, eC, qI, qD, sn, oA, oS, oT, oP, rA, rM, fr) v1 v2 := fun z H =>
          br_f h0 (br_t h4 (ny_valid_t hok (br_f (by decide) (ny_find_s (by omega) i hi hy hl H))))
        refine br_f h0 (br_t h4 (nx_findEntry_s (by omega) i hi hy hl (br_f hm (br_f h0 ?_))))
        rw [hc]
        rcases nb_five h0 h4 with rfl | rfl | rfl | rfl | rfl
        · refine br_f (by decide) (br_t rfl ⟨hv, hq _ (br_t hn (br_t rfl ⟨hv, ?_, hR⟩))⟩)
          rw [hc]
        · refine br_f (by decide) (br_f (by decide) (br_t rfl ⟨hv, hq _ (br_t hn (br_f (by decide) (br_t rfl ⟨hv, ?_, hR⟩)))⟩))
          rw [hc]
        · refine br_f (by decide) (br_f (by decide) (br_f (by decide) (br_t rfl ⟨hv, hq _ (br_t hn (br_f (by decide) (br_f (by decide) (br_t rfl ⟨hv, ?_, hR⟩))))⟩)))
          rw [hc]
        · refine br_f (by decide) (br_f (by decide) (br_f (by decide) (br_f (by decide) (br_t rfl ⟨hv, hq _ (br_t hn (br_f (by decide) (br_f (by decide) (br_f (by decide) (br_t rfl ⟨hv, ?_⟩)))))⟩))))
          rw [hc]
          by_cases h3 : eS i = 3
          · refine br_t h3 ⟨?_, hR⟩
            rcases hei with h | h | h | h | h
            · exact absurd (h.1.symm.trans h3) (by decide)
            · exact absurd (h.1.symm.trans h3) (by decide)
            · exact h.2.1.symm
            · exact absurd (h.1.symm.trans h3) (by decide)
            · exact absurd (h.1.symm.trans h3) (by decide)
          · exact br_f h3 ⟨hv, rfl, hR⟩
        · refine br_t (by decide) ⟨hv, hq _ (br_t hn (br_f (by decide) (br_f (by decide) (br_f (by decide) (br_f (by decide) ⟨hv, ?_⟩)))))⟩
          rw [hc]
          refine nm_e ?_
          rcases hei with h | h | h | h | h
          · rw [h.1]
            exact br_f (by decide) (br_f (by decide) (br_f (by decide) ⟨hv, rfl, hR⟩))
          · rw [h.1, h.2.2.1]
            exact br_t rfl ⟨rfl, hR⟩
          · rw [h.1, h.2.2.1]
            exact br_f (by decide) (br_t rfl ⟨rfl, hR⟩)
          · rw [h.1, h.2.2.1]
            exact br_f (by decide) (br_f (by decide) (br_t rfl ⟨rfl, hR⟩))
          · rw [h.1]
            exact br_f (by decide) (br_f (by decide) (br_f (by decide) ⟨hv, rfl, hR⟩))
    · exact br_f h0 (br_f h4 (br_f h0 (br_f h4 ⟨rfl, hR⟩)))
theorem i_vc_addressInfo {k : Nat} {u : SX} {v : SY} (I : i_Rel k u v) (hk : k + 4 ≤ 2052) (v1 : Int32) (v2 : Int32) : wpX_addressInfo (fun r => wpY_addressInfo (fun r' => r' = r ∧ i_Rel (k + 4) u v) v v1 v2) u v1 v2 := by
  obtain ⟨cn, e, o, r, rt, rx, ms, fn, pi, dr, eA, eS, eL, eT, eP, eC, qI, qD, oA, oS, oT, oP, rA, rM, fr, sn, rfl, rfl, I⟩ := I
  have hR := nb_rel (k := k + 4) (ms := ms) (fn := fn) (pi := pi) (dr := dr) (qI := qI) (qD := qD) (oP := oP) (rM := rM) (fr := fr) (sn := sn) I
  have hb := I.1
  have hO := I.2.2.2.1
  by_cases h0 : v2 < 0
  · exact br_t h0 (br_t h0 ⟨rfl, hR⟩)
  · by_cases h4 : v2 ≤ 2
    · rcases nb_find (fun j => oA j = v1) o with hN | ⟨i, hi, hy, hl⟩
      · have hq : wpY_addressInfo (fun r' => r' = 0 ∧ i_Rel (k + 4) (nI cn, rt, rx, ms, nI e, nI o, nI r, fn, pi, dr, eA, eS, eL, eT, eP, eC, qI, qD, oA, oS, oT, oP, rA, rM, nb_fp 0 fr, nb_fp 1 fr, nb_fp 2 fr, nb_fp 3 fr, nb_fp 4 fr) (nI cn, rt, rx, ms, nI e, nI o, nI r, fn, pi, dr, eA, eS, eL, eT, eP, eC, qI, qD, sn, oA, oS, oT, oP, rA, rM, fr)) (nI cn, rt, rx, ms, nI e, nI o, nI r, fn, pi, dr, eA, eS, eL, eT, eP, eC, qI, qD, sn, oA, oS, oT, oP, rA, rM, fr) v1 v2 := by
          refine br_f h0 (br_t h4 ?_)
          by_cases hv : nb_ok v1
          · exact ny_valid_t hv (br_f (by decide) (ny_findOwn_n (by omega) hN (br_f (by decide) ⟨rfl, hR⟩)))
          · exact ny_valid_f hv (br_t rfl (br_f (by decide) ⟨rfl, hR⟩))
        exact br_f h0 (br_t h4 (nx_findOwn_n (by omega) hN (br_t rfl (br_c (fun _ => hq) (fun _ => hq)))))
      · have hv : vp_in (nI i) 8 := nb_ix (by omega) (by omega)
        have hm := nb_m1 (i := i) (by omega)
        have hn := nb_n0 (i := i) (by omega)
        have hc := nb_cl (i := i) (by omega)
        have hok : nb_ok v1 := by
          have := (hO i hi).1
          rw [hy] at this
          exact this
        have hq : ∀ z, wY_addressInfo_28 (fun r' => r' = z ∧ i_Rel (k + 4) (nI cn, rt, rx, ms, nI e, nI o, nI r, fn, pi, dr, eA, eS, eL, eT, eP, eC, qI, qD, oA, oS, oT, oP, rA, rM, nb_fp 0 fr, nb_fp 1 fr, nb_fp 2 fr, nb_fp 3 fr, nb_fp 4 fr) (nI cn, rt, rx, ms, nI e, nI o, nI r, fn, pi, dr, eA, eS, eL, eT, eP, eC, qI, qD, sn, oA, oS, oT, oP, rA, rM, fr)) v2 (nI i) (nI cn) rt rx ms (nI e) (nI o) (nI r) fn pi dr eA eS eL eT eP eC qI qD sn oA oS oT oP rA rM fr → wpY_addressInfo (fun r' => r' = z ∧ i_Rel (k + 4) (nI cn, rt, rx, ms, nI e, nI o, nI r, fn, pi, dr, eA, eS, eL, eT, eP, eC, qI, qD, oA, oS, oT, oP, rA, rM, nb_fp 0 fr, nb_fp 1 fr, nb_fp 2 fr, nb_fp 3 fr, nb_fp 4 fr) (nI cn, rt, rx, ms, nI e, nI o, nI r, fn, pi, dr, eA, eS, eL, eT, eP, eC, qI, qD, sn, oA, oS, oT, oP, rA, rM, fr)) (nI cn, rt, rx, ms, nI e, nI o, nI r, fn, pi, dr, eA, eS, eL, eT, eP, eC, qI, qD, sn, oA, oS, oT, oP, rA, rM, fr) v1 v2 := fun z H =>
          br_f h0 (br_t h4 (ny_valid_t hok (br_f (by decide) (ny_findOwn_s (by omega) i hi hy hl H))))
        refine br_f h0 (br_t h4 (nx_findOwn_s (by omega) i hi hy hl (br_f hm ?_)))
        rw [hc]
        rcases nb_three h0 h4 with rfl | rfl | rfl
        · refine br_t rfl ⟨hv, hq _ (br_t hn (br_t rfl ⟨hv, ?_, hR⟩))⟩
          rw [hc]
        · refine br_f (by decide) (br_t rfl ⟨hv, hq _ (br_t hn (br_f (by decide) (br_t rfl ⟨hv, ?_, hR⟩)))⟩)
          rw [hc]
        · refine br_f (by decide) (br_f (by decide) ⟨hv, hq _ (br_t hn (br_f (by decide) (br_f (by decide) ⟨hv, ?_, hR⟩)))⟩)
          rw [hc]
    · exact br_f h0 (br_f h4 (br_f h0 (br_f h4 ⟨rfl, hR⟩)))
theorem i_vc_queuedPacket {k : Nat} {u : SX} {v : SY} (I : i_Rel k u v) (hk : k + 4 ≤ 2052) (v1 : Int32) (v2 : Int32) : wpX_queuedPacket (fun r => wpY_queuedPacket (fun r' => r' = r ∧ i_Rel (k + 4) u v) v v1 v2) u v1 v2 := by
  obtain ⟨cn, e, o, r, rt, rx, ms, fn, pi, dr, eA, eS, eL, eT, eP, eC, qI, qD, oA, oS, oT, oP, rA, rM, fr, sn, rfl, rfl, I⟩ := I
  have hR := nb_rel (k := k + 4) (ms := ms) (fn := fn) (pi := pi) (dr := dr) (qI := qI) (qD := qD) (oP := oP) (rM := rM) (fr := fr) (sn := sn) I
  have hb := I.1
  have hE := I.2.2.1
  rcases nb_find (fun j => eA j = v1) e with hN | ⟨i, hi, hy, hl⟩
  · refine nx_findEntry_n (by omega) hN (br_t rfl ?_)
    refine ny_find_n (by omega) hN ?_
    by_cases hv : nb_ok v1
    · exact ny_valid_t hv (br_f (by decide) (br_t (by decide) ⟨rfl, hR⟩))
    · exact ny_valid_f hv (br_t rfl ⟨rfl, hR⟩)
  · have hv : vp_in (nI i) 16 := nb_ix (by omega) (by omega)
    have hm := nb_m1 (i := i) (by omega)
    have hn := nb_nn (i := i) (by omega)
    have hc := nb_cl (i := i) (by omega)
    have hok : nb_ok v1 := by
      have := hE.1 i hi
      rw [hy] at this
      exact this
    obtain ⟨q, hq, eq⟩ := nb_ei_q (hE.2.1 i hi)
    refine nx_findEntry_s (by omega) i hi hy hl (br_f hm ?_)
    by_cases h0 : v2 < 0
    · refine br_t h0 ?_
      exact ny_find_s (by omega) i hi hy hl (ny_valid_t hok (br_f (by decide) (br_f hn (br_t h0 ⟨rfl, hR⟩))))
    · refine br_f h0 ?_
      rw [hc, eq]
      obtain ⟨j, hj, rfl⟩ := nI_of h0
      by_cases h1 : j < q
      · rw [nb_3a]
        refine ⟨hv, br_t (nI_lt h1 (by omega)) ⟨nb_ix (by omega) (by omega), ?_⟩⟩
        refine ny_find_s (by omega) i hi hy hl (ny_valid_t hok (br_f (by decide) (br_f hn (br_f h0 ?_))))
        rw [hc, eq]
        refine ⟨hv, br_f (nI_ge h1 (by omega)) (br_t (nI_lt (b := 3) (by omega) (by omega)) ?_)⟩
        rw [nb_3a]
        exact ⟨nb_ix (by omega) (by omega), rfl, hR⟩
      · refine ⟨hv, br_f (nI_nlt (by omega) (by omega)) ?_⟩
        refine ny_find_s (by omega) i hi hy hl (ny_valid_t hok (br_f (by decide) (br_f hn (br_f h0 ?_))))
        rw [hc, eq]
        exact ⟨hv, br_t (nI_le (by omega) (by omega)) ⟨rfl, hR⟩⟩
theorem i_vc_frameField {k : Nat} {u : SX} {v : SY} (I : i_Rel k u v) (hk : k + 4 ≤ 2052) (v1 : Int32) (v2 : Int32) : wpX_frameField (fun r => wpY_frameField (fun r' => r' = r ∧ i_Rel (k + 4) u v) v v1 v2) u v1 v2 := by
  obtain ⟨cn, e, o, r, rt, rx, ms, fn, pi, dr, eA, eS, eL, eT, eP, eC, qI, qD, oA, oS, oT, oP, rA, rM, fr, sn, rfl, rfl, I⟩ := I
  have hR := nb_rel (k := k + 4) (ms := ms) (fn := fn) (pi := pi) (dr := dr) (qI := qI) (qD := qD) (oP := oP) (rM := rM) (fr := fr) (sn := sn) I
  by_cases h0 : v1 < 0
  · exact br_t h0 (br_t h0 ⟨rfl, hR⟩)
  · by_cases h1 : fn ≤ v1
    · exact br_f h0 (br_t h1 (br_f h0 (br_t h1 ⟨rfl, hR⟩)))
    · by_cases h2 : fn - 64 ≤ v1
      · have h2' : ¬ v1 < fn - 64 := Int32.not_lt.mpr h2
        refine br_f h0 (br_f h1 (br_t h2 ?_))
        obtain ⟨s, hs, es⟩ := nb_and63 v1
        refine nm_r es ?_
        have hv : vp_in (nI s) 64 := nb_ix hs (by omega)
        have hc := nb_cl (i := s) (by omega)
        by_cases g0 : v2 < 0
        · exact br_t g0 (br_f h0 (br_f h1 (br_f h2' (br_t g0 ⟨rfl, hR⟩))))
        · refine br_f g0 ?_
          by_cases g4 : 4 < v2
          · exact br_t g4 (br_f h0 (br_f h1 (br_f h2' (br_f g0 (br_f (Int32.not_le.mpr g4) ⟨rfl, hR⟩)))))
          · refine br_f g4 ?_
            have g4' : v2 ≤ 4 := Int32.not_lt.mp g4
            have hy : ∀ (f : Nat) (z : Int32), f ≤ 4 → v2 = nI f → z = fr (5 * s + f) → wpY_frameField (fun r' => r' = z ∧ i_Rel (k + 4) (nI cn, rt, rx, ms, nI e, nI o, nI r, fn, pi, dr, eA, eS, eL, eT, eP, eC, qI, qD, oA, oS, oT, oP, rA, rM, nb_fp 0 fr, nb_fp 1 fr, nb_fp 2 fr, nb_fp 3 fr, nb_fp 4 fr) (nI cn, rt, rx, ms, nI e, nI o, nI r, fn, pi, dr, eA, eS, eL, eT, eP, eC, qI, qD, sn, oA, oS, oT, oP, rA, rM, fr)) (nI cn, rt, rx, ms, nI e, nI o, nI r, fn, pi, dr, eA, eS, eL, eT, eP, eC, qI, qD, sn, oA, oS, oT, oP, rA, rM, fr) v1 v2 := by
              intro f z hf ef er
              refine br_f h0 (br_f h1 (br_f h2' (br_f g0 (br_t g4' ?_))))
              rw [es, show nI s * 5 = nI (s * 5) from pk_mul s 5, ef, nI_add, Nat.mul_comm s 5, nb_cl (by omega)]
              exact ⟨nb_ix (by omega) (by omega), er.symm, hR⟩
            rw [hc]
            rcases nb_five g0 g4' with e0 | e1 | e2 | e3 | e4
            · exact br_t e0 ⟨hv, hy 0 _ (by omega) e0 rfl⟩
            · exact br_f (by rw [e1]; decide) (br_t e1 ⟨hv, hy 1 _ (by omega) e1 rfl⟩)
            · exact br_f (by rw [e2]; decide) (br_f (by rw [e2]; decide) (br_t e2 ⟨hv, hy 2 _ (by omega) e2 rfl⟩))
            · exact br_f (by rw [e3]; decide) (br_f (by rw [e3]; decide) (br_f (by rw [e3]; decide) (br_t e3 ⟨hv, hy 3 _ (by omega) e3 rfl⟩)))
            · exact br_f (by rw [e4]; decide) (br_f (by rw [e4]; decide) (br_f (by rw [e4]; decide) (br_f (by rw [e4]; decide) (br_t e4 ⟨hv, hy 4 _ (by omega) e4 rfl⟩))))
      · exact br_f h0 (br_f h1 (br_f h2 (br_f h0 (br_f h1 (br_t (Int32.not_le.mp h2) ⟨rfl, hR⟩)))))
end
section
/-! own addresses, routers, confirmation -/
theorem nb_own_app {o : Nat} {oA oS oT : Nat → Int32} {a t : Int32} (h : nb_own o oA oS oT) (ha : nb_ok a) (ht : 0 < t) : nb_own (o + 1) (upd oA o a) (upd oS o 1) (upd oT o t) := by
  intro i hi
  by_cases q : i = o
  · rw [q, pk_us, pk_us, pk_us]
    exact ⟨ha, Or.inl ⟨rfl, ht⟩⟩
  · rw [pk_un q, pk_un q, pk_un q]
    exact h i (by omega)
theorem nb_own_up {o : Nat} {oA oS oT : Nat → Int32} (k : Nat) {oS1 oT1 : Nat → Int32} (h : nb_own o oA oS oT) (hk : (oS1 k = 1 ∧ 0 < oT1 k) ∨ oS1 k = 2 ∨ oS1 k = 3) (hs : ∀ j, j ≠ k → oS1 j = oS j ∧ oT1 j = oT j) : nb_own o oA oS1 oT1 := by
  intro i hi
  refine ⟨(h i hi).1, ?_⟩
  by_cases q : i = k
  · rw [q]
    exact hk
  · rw [(hs i q).1, (hs i q).2]
    exact (h i hi).2
theorem nb_rou_app {r : Nat} {rA : Nat → Int32} {a : Int32} (h : nb_rou r rA) (ha : nb_ok a) : nb_rou (r + 1) (upd rA r a) := by
  intro i hi
  by_cases q : i = r
  · rw [q, pk_us]
    exact ha
  · rw [pk_un q]
    exact h i (by omega)
theorem i_vc_addAddress {k : Nat} {u : SX} {v : SY} (I : i_Rel k u v) (hk : k + 4 ≤ 2052) (v1 : Int32) : wpX_addAddress (fun r u' => wpY_addAddress (fun r' v' => r' = r ∧ i_Rel (k + 4) u' v') v v1) u v1 := by
  obtain ⟨cn, e, o, r, rt, rx, ms, fn, pi, dr, eA, eS, eL, eT, eP, eC, qI, qD, oA, oS, oT, oP, rA, rM, fr, sn, rfl, rfl, I⟩ := I
  have hR := nb_rel (k := k + 4) (ms := ms) (fn := fn) (pi := pi) (dr := dr) (qI := qI) (qD := qD) (oP := oP) (rM := rM) (fr := fr) (sn := sn) I
  have hb := I.1
  by_cases hv : nb_ok v1
  · rcases nb_find (fun j => oA j = v1) o with hN | ⟨i, hi, hy, hl⟩
    · by_cases h8 : o < 8
      · have ho : vp_in (nI o) 8 := nb_ix h8 (by omega)
        have hc := nb_cl (i := o) (by omega)
        have hX : ∀ post : Int32 → SX → Prop, post 1 (nI cn, rt, rx, ms, nI e, nI (o + 1), nI r, fn + 1, pi, dr, eA, eS, eL, eT, eP, eC, qI, qD, upd oA o v1, upd oS o 1, upd oT o rx, upd oP o 1, rA, rM, nb_fp 0 (nb_ev fr fn 3 v1 0 0 0), nb_fp 1 (nb_ev fr fn 3 v1 0 0 0), nb_fp 2 (nb_ev fr fn 3 v1 0 0 0), nb_fp 3 (nb_ev fr fn 3 v1 0 0 0), nb_fp 4 (nb_ev fr fn 3 v1 0 0 0)) → wpX_addAddress post (nI cn, rt, rx, ms, nI e, nI o, nI r, fn, pi, dr, eA, eS, eL, eT, eP, eC, qI, qD, oA, oS, oT, oP, rA, rM, nb_fp 0 fr, nb_fp 1 fr, nb_fp 2 fr, nb_fp 3 fr, nb_fp 4 fr) v1 := by
          intro post H
          unfold wpX_addAddress
          dsimp only
          rw [hc]
          exact nx_valid_t hv (br_f (by decide) (nx_findOwn_n (by omega) hN (br_t rfl (br_t (nI_lt (b := 8) h8 (by omega)) ⟨ho, nm_e ⟨ho, nm_e ⟨ho, nm_e ⟨ho, nm_e (nm_r (nI_1 o) (nx_emit _ _ _ _ _ H))⟩⟩⟩⟩))))
        have hY : ∀ post : Int32 → SY → Prop, post 1 (nI cn, rt, rx, ms, nI e, nI (o + 1), nI r, fn + 1, pi, dr, eA, eS, eL, eT, eP, eC, qI, qD, sn, upd oA o v1, upd oS o 1, upd oT o rx, upd oP o 1, rA, rM, nb_ev fr fn 3 v1 0 0 0) → wpY_addAddress post (nI cn, rt, rx, ms, nI e, nI o, nI r, fn, pi, dr, eA, eS, eL, eT, eP, eC, qI, qD, sn, oA, oS, oT, oP, rA, rM, fr) v1 := by
          intro post H
          unfold wpY_addAddress
          dsimp only
          rw [hc]
          exact ny_valid_t hv (br_f (by decide) (ny_findOwn_n (by omega) hN (br_f (by decide) (br_t (nI_lt (b := 8) h8 (by omega)) ⟨ho, nm_e ⟨ho, nm_e ⟨ho, nm_e ⟨ho, nm_e (nm_r (nI_1 o) (ny_emit _ _ _ _ _ H))⟩⟩⟩⟩))))
        exact hX _ (hY _ ⟨rfl, nb_rel ⟨⟨hb.1, hb.2.1, hb.2.2.1, by omega, hb.2.2.2.2⟩, I.2.1, I.2.2.1, nb_own_app I.2.2.2.1 hv I.2.1.2, I.2.2.2.2⟩⟩)
      · have h8' : ¬ nI o < 8 := nI_nlt (b := 8) (by omega) (by omega)
        unfold wpX_addAddress
        refine nx_valid_t hv (br_f (by decide) (nx_findOwn_n (by omega) hN (br_t rfl (br_f h8' ?_))))
        unfold wpY_addAddress
        exact ny_valid_t hv (br_f (by decide) (ny_findOwn_n (by omega) hN (br_f (by decide) (br_f h8' ⟨rfl, hR⟩))))
    · unfold wpX_addAddress
      refine nx_valid_t hv (br_f (by decide) (nx_findOwn_s (by omega) i hi hy hl (br_f (nb_m1 (by omega)) ?_)))
      unfold wpY_addAddress
      exact ny_valid_t hv (br_f (by decide) (ny_findOwn_s (by omega) i hi hy hl (br_t (nb_n0 (by omega)) ⟨rfl, hR⟩)))
  · unfold wpX_addAddress
    refine nx_valid_f hv (br_t rfl ?_)
    unfold wpY_addAddress
    exact ny_valid_f hv (br_t rfl ⟨rfl, hR⟩)
theorem i_vc_addRouter {k : Nat} {u : SX} {v : SY} (I : i_Rel k u v) (hk : k + 4 ≤ 2052) (v1 : Int32) : wpX_addRouter (fun r u' => wpY_addRouter (fun r' v' => r' = r ∧ i_Rel (k + 4) u' v') v v1) u v1 := by
  obtain ⟨cn, e, o, r, rt, rx, ms, fn, pi, dr, eA, eS, eL, eT, eP, eC, qI, qD, oA, oS, oT, oP, rA, rM, fr, sn, rfl, rfl, I⟩ := I
  have hR := nb_rel (k := k + 4) (ms := ms) (fn := fn) (pi := pi) (dr := dr) (qI := qI) (qD := qD) (oP := oP) (rM := rM) (fr := fr) (sn := sn) I
  have hb := I.1
  by_cases hv : nb_ok v1
  · rcases nb_find (fun j => rA j = v1) r with hN | ⟨i, hi, hy, hl⟩
    · by_cases h8 : r < 4
      · have ho : vp_in (nI r) 4 := nb_ix h8 (by omega)
        have hc := nb_cl (i := r) (by omega)
        have hX : ∀ post : Int32 → SX → Prop, post 1 (nI cn, rt, rx, ms, nI e, nI o, nI (r + 1), fn, pi, dr, eA, eS, eL, eT, eP, eC, qI, qD, oA, oS, oT, oP, upd rA r v1, upd rM r 0, nb_fp 0 fr, nb_fp 1 fr, nb_fp 2 fr, nb_fp 3 fr, nb_fp 4 fr) → wpX_addRouter post (nI cn, rt, rx, ms, nI e, nI o, nI r, fn, pi, dr, eA, eS, eL, eT, eP, eC, qI, qD, oA, oS, oT, oP, rA, rM, nb_fp 0 fr, nb_fp 1 fr, nb_fp 2 fr, nb_fp 3 fr, nb_fp 4 fr) v1 := by
          intro post H
          unfold wpX_addRouter
          dsimp only
          rw [hc]
          exact nx_valid_t hv (br_f (by decide) (nx_findRouter_n (by omega) hN (br_t rfl (br_t (nI_lt (b := 4) h8 (by omega)) ⟨ho, nm_e ⟨ho, nm_e (nm_r (nI_1 r) H)⟩⟩))))
        have hY : ∀ post : Int32 → SY → Prop, post 1 (nI cn, rt, rx, ms, nI e, nI o, nI (r + 1), fn, pi, dr, eA, eS, eL, eT, eP, eC, qI, qD, sn, oA, oS, oT, oP, upd rA r v1, upd rM r 0, fr) → wpY_addRouter post (nI cn, rt, rx, ms, nI e, nI o, nI r, fn, pi, dr, eA, eS, eL, eT, eP, eC, qI, qD, sn, oA, oS, oT, oP, rA, rM, fr) v1 := by
          intro post H
          unfold wpY_addRouter
          dsimp only
          rw [hc]
          exact ny_valid_t hv (br_f (by decide) (ny_findRouter_n (by omega) hN (br_f (by decide) (br_t (nI_lt (b := 4) h8 (by omega)) ⟨ho, nm_e ⟨ho, nm_e (nm_r (nI_1 r) H)⟩⟩))))
        exact hX _ (hY _ ⟨rfl, nb_rel ⟨⟨hb.1, hb.2.1, hb.2.2.1, hb.2.2.2.1, by omega⟩, I.2.1, I.2.2.1, I.2.2.2.1, nb_rou_app I.2.2.2.2 hv⟩⟩)
      · have h8' : ¬ nI r < 4 := nI_nlt (b := 4) (by omega) (by omega)
        unfold wpX_addRouter
        refine nx_valid_t hv (br_f (by decide) (nx_findRouter_n (by omega) hN (br_t rfl (br_f h8' ?_))))
        unfold wpY_addRouter
        exact ny_valid_t hv (br_f (by decide) (ny_findRouter_n (by omega) hN (br_f (by decide) (br_f h8' ⟨rfl, hR⟩))))
    · unfold wpX_addRouter
      refine nx_valid_t hv (br_f (by decide) (nx_findRouter_s (by omega) i hi hy hl (br_f (nb_m1 (by omega)) ?_)))
      unfold wpY_addRouter
      exact ny_valid_t hv (br_f (by decide) (ny_findRouter_s (by omega) i hi hy hl (br_t (nb_n0 (by omega)) ⟨rfl, hR⟩)))
  · unfold wpX_addRouter
    refine nx_valid_f hv (br_t rfl ?_)
    unfold wpY_addRouter
    exact ny_valid_f hv (br_t rfl ⟨rfl, hR⟩)
theorem nb_ei_c0 {S L T P C : Int32} (h : nb_ei S L T P C) (h1 : ¬ S = 1) : C = 0 := by
  rcases h with h | h | h | h | h
  · exact absurd h.1 h1
  · exact h.2.2.2
  · exact h.2.2.2
  · exact h.2.2.2
  · exact h.2.2
theorem nb_ent_reach {e i : Nat} {eA eS eL eT eP eC : Nat → Int32} {rt : Int32} (E : nb_ent e eA eS eL eT eP eC) (hi : i < e) (h1 : ¬ eS i = 1) (hr : 0 < rt) : nb_ent e eA (upd eS i 2) eL (upd eT i rt) (upd eP i 0) eC := by
  refine nb_ent_up i E ?_ (fun j hj => ⟨pk_un hj, rfl, pk_un hj, pk_un hj, rfl⟩)
  rw [pk_us, pk_us, pk_us]
  exact Or.inr (Or.inl ⟨rfl, hr, rfl, nb_ei_c0 (E.2.1 i hi) h1⟩)
theorem nb_ent_stale {e i : Nat} {eA eS eL eT eP eC : Nat → Int32} (E : nb_ent e eA eS eL eT eP eC) (hi : i < e) (h1 : ¬ eS i = 1) : nb_ent e eA (upd eS i 3) eL (upd eT i 0) (upd eP i 0) eC := by
  refine nb_ent_up i E ?_ (fun j hj => ⟨pk_un hj, rfl, pk_un hj, pk_un hj, rfl⟩)
  rw [pk_us, pk_us, pk_us]
  exact Or.inr (Or.inr (Or.inl ⟨rfl, rfl, rfl, nb_ei_c0 (E.2.1 i hi) h1⟩))
theorem nb_ent_link {e i : Nat} {eA eS eL eT eP eC : Nat → Int32} {l : Int32} (E : nb_ent e eA eS eL eT eP eC) (hi : i < e) (h1 : ¬ eS i = 1) : nb_ent e eA eS (upd eL i l) eT eP eC := by
  refine nb_ent_up i E ?_ (fun j hj => ⟨rfl, pk_un hj, rfl, rfl, rfl⟩)
  rcases E.2.1 i hi with h | h | h | h | h
  · exact absurd h.1 h1
  · exact Or.inr (Or.inl h)
  · exact Or.inr (Or.inr (Or.inl h))
  · exact Or.inr (Or.inr (Or.inr (Or.inl h)))
  · exact Or.inr (Or.inr (Or.inr (Or.inr h)))
theorem i_vc_confirm {k : Nat} {u : SX} {v : SY} (I : i_Rel k u v) (hk : k + 4 ≤ 2052) (v1 : Int32) : wpX_confirm (fun r u' => wpY_confirm (fun r' v' => r' = r ∧ i_Rel (k + 4) u' v') v v1) u v1 := by
  obtain ⟨cn, e, o, r, rt, rx, ms, fn, pi, dr, eA, eS, eL, eT, eP, eC, qI, qD, oA, oS, oT, oP, rA, rM, fr, sn, rfl, rfl, I⟩ := I
  have hR := nb_rel (k := k + 4) (ms := ms) (fn := fn) (pi := pi) (dr := dr) (qI := qI) (qD := qD) (oP := oP) (rM := rM) (fr := fr) (sn := sn) I
  have hb := I.1
  have hE := I.2.2.1
  rcases nb_find (fun j => eA j = v1) e with hN | ⟨i, hi, hy, hl⟩
  · unfold wpX_confirm
    refine nx_findEntry_n (by omega) hN (br_t rfl ?_)
    unfold wpY_confirm
    by_cases hv : nb_ok v1
    · exact ny_valid_t hv (br_f (by decide) (ny_find_n (by omega) hN (br_t (by decide) ⟨rfl, hR⟩)))
    · exact ny_valid_f hv (br_t rfl ⟨rfl, hR⟩)
  · have hv : vp_in (nI i) 16 := nb_ix (by omega) (by omega)
    have hc := nb_cl (i := i) (by omega)
    have hok : nb_ok v1 := by
      have := hE.1 i hi
      rw [hy] at this
      exact this
    by_cases h1 : eS i = 1
    · have h1' : eS (nI i).toNatClampNeg = 1 := by rw [hc]; exact h1
      unfold wpX_confirm
      refine nx_findEntry_s (by omega) i hi hy hl (br_f (nb_m1 (by omega)) ⟨hv, br_t h1' ?_⟩)
      unfold wpY_confirm
      exact ny_valid_t hok (br_f (by decide) (ny_find_s (by omega) i hi hy hl (br_f (nb_nn (by omega)) ⟨hv, br_t h1' ⟨rfl, hR⟩⟩)))
    · have h1' : ¬ eS (nI i).toNatClampNeg = 1 := by rw [hc]; exact h1
      have hX : ∀ post : Int32 → SX → Prop, post 1 (nI cn, rt, rx, ms, nI e, nI o, nI r, fn, pi, dr, eA, upd eS i 2, eL, upd eT i rt, upd eP i 0, eC, qI, qD, oA, oS, oT, oP, rA, rM, nb_fp 0 fr, nb_fp 1 fr, nb_fp 2 fr, nb_fp 3 fr, nb_fp 4 fr) → wpX_confirm post (nI cn, rt, rx, ms, nI e, nI o, nI r, fn, pi, dr, eA, eS, eL, eT, eP, eC, qI, qD, oA, oS, oT, oP, rA, rM, nb_fp 0 fr, nb_fp 1 fr, nb_fp 2 fr, nb_fp 3 fr, nb_fp 4 fr) v1 := by
        intro post H
        unfold wpX_confirm
        exact nx_findEntry_s (by omega) i hi hy hl (br_f (nb_m1 (by omega)) ⟨hv, br_f h1' (nx_enterReachable (by omega) H)⟩)
      have hY : ∀ post : Int32 → SY → Prop, post 1 (nI cn, rt, rx, ms, nI e, nI o, nI r, fn, pi, dr, eA, upd eS i 2, eL, upd eT i rt, upd eP i 0, eC, qI, qD, sn, oA, oS, oT, oP, rA, rM, fr) → wpY_confirm post (nI cn, rt, rx, ms, nI e, nI o, nI r, fn, pi, dr, eA, eS, eL, eT, eP, eC, qI, qD, sn, oA, oS, oT, oP, rA, rM, fr) v1 := by
        intro post H
        unfold wpY_confirm
        exact ny_valid_t hok (br_f (by decide) (ny_find_s (by omega) i hi hy hl (br_f (nb_nn (by omega)) ⟨hv, br_f h1' (ny_enterReachable (by omega) H)⟩)))
      exact hX _ (hY _ ⟨rfl, nb_rel ⟨I.1, I.2.1, nb_ent_reach hE hi h1 I.2.1.1, I.2.2.2⟩⟩)
end
section
/-! sending -/
section
variable {cn e o r : Nat} {rt rx ms fn pi dr : Int32} {eA eS eL eT eP eC qI qD oA oS oT oP rA rM fr sn : Nat → Int32}
theorem nj_s37 (I : nb_inv cn e o r rt rx eA eS eL eT eP eC oA oS oT rA) {h d : Int32} (hh : nb_ok h) : ∃ (e1 : Nat) (fn1 dr1 : Int32) (eA1 eS1 eL1 eT1 eP1 eC1 qI1 qD1 fr1 : Nat → Int32), nb_inv cn e1 o r rt rx eA1 eS1 eL1 eT1 eP1 eC1 oA oS oT rA ∧
    (∀ post : Int32 → SX → Prop, post (pi + 1) (nI cn, rt, rx, ms, nI e1, nI o, nI r, fn1, pi + 1, dr1, eA1, eS1, eL1, eT1, eP1, eC1, qI1, qD1, oA, oS, oT, oP, rA, rM, nb_fp 0 fr1, nb_fp 1 fr1, nb_fp 2 fr1, nb_fp 3 fr1, nb_fp 4 fr1) → wX_send_37 post d h (nI cn) rt rx ms (nI e) (nI o) (nI r) fn pi dr eA eS eL eT eP eC qI qD oA oS oT oP rA rM (nb_fp 0 fr) (nb_fp 1 fr) (nb_fp 2 fr) (nb_fp 3 fr) (nb_fp 4 fr)) ∧
    (∀ post : Int32 → SY → Prop, post (pi + 1) (nI cn, rt, rx, ms, nI e1, nI o, nI r, fn1, pi + 1, dr1, eA1, eS1, eL1, eT1, eP1, eC1, qI1, qD1, sn, oA, oS, oT, oP, rA, rM, fr1) → wY_send_99 post d h (nI cn) rt rx ms (nI e) (nI o) (nI r) fn pi dr eA eS eL eT eP eC qI qD sn oA oS oT oP rA rM fr) := by
  have hb := I.1
  have hE := I.2.2.1
  rcases nb_find (fun j => eA j = h) e with hN | ⟨i, hi, hy, hl⟩
  · rcases nj_create (cn := cn) (e := e) (o := o) (r := r) (rt := rt) (rx := rx) (ms := ms) (fn := fn) (pi := pi + 1) (dr := dr) (qI := qI) (qD := qD) (oA := oA) (oS := oS) (oT := oT) (oP := oP) (rA := rA) (rM := rM) (fr := fr) (sn := sn) hb.2.1 hb.1 hb.2.2.1 hE h hN with ⟨hX, hY⟩ | ⟨e1, eA1, eS1, eL1, eT1, eP1, eC1, qI1, qD1, he1, hE1, hn1, hX, hY⟩
    · refine ⟨e, fn, dr + 1, eA, eS, eL, eT, eP, eC, qI, qD, fr, I, fun post H => ?_, fun post H => ?_⟩
      · unfold wX_send_37
        refine nm_e (nx_findEntry_n (by omega) hN (br_t rfl ?_))
        unfold wpX_startResolution
        exact hX _ (br_t rfl (nm_e H))
      · unfold wY_send_99
        refine nm_e (ny_find_n (by omega) hN (br_f (by decide) ?_))
        exact hY _ (br_f (by decide) (nm_e H))
    · have hv : vp_in (nI e1) 16 := nb_ix (by omega) (by omega)
      have hw : vp_in (nI (3 * e1)) 48 := nb_ix (by omega) (by omega)
      refine ⟨e1 + 1, fn + 1, dr, upd eA1 e1 h, upd eS1 e1 1, upd eL1 e1 0, upd eT1 e1 rx, upd eP1 e1 1, upd eC1 e1 1, upd qI1 (3 * e1) (pi + 1), upd qD1 (3 * e1) d, nb_ev fr fn 1 h 0 0 0, ⟨⟨hb.1, hb.2.1, by omega, hb.2.2.2⟩, I.2.1, nb_ent_app hE1 hn1 hh (Or.inl ⟨rfl, rfl, I.2.1.2, 1, by omega, rfl⟩), I.2.2.2⟩, fun post H => ?_, fun post H => ?_⟩
      · unfold wX_send_37
        refine nm_e (nx_findEntry_n (by omega) hN (br_t rfl ?_))
        unfold wpX_startResolution
        refine hX _ (br_f (nb_m1 (by omega)) ?_)
        rw [nb_cl (i := e1) (by omega)]
        refine ⟨hv, nm_e ⟨hv, nm_e ⟨hv, nm_e (nx_enq_lt (q := 0) (by omega) (by omega) pk_us (nx_emit _ _ _ _ _ ?_))⟩⟩⟩
        rw [nb_uu]
        exact H
      · unfold wY_send_99
        refine nm_e (ny_find_n (by omega) hN (br_f (by decide) ?_))
        refine hY _ (br_t (nb_n0 (by omega)) ?_)
        rw [nb_30 e1, nb_cl (i := e1) (by omega), nb_cl (i := 3 * e1) (by omega)]
        refine ⟨hv, nm_e ⟨hv, nm_e ⟨hv, nm_e ⟨hw, nm_e ⟨hw, nm_e ⟨hv, nm_e (ny_emit _ _ _ _ _ ?_)⟩⟩⟩⟩⟩⟩
        rw [nb_uu, nb_uu, nb_uu, nb_uu]
        exact H
  · have hv : vp_in (nI i) 16 := nb_ix (by omega) (by omega)
    have hc := nb_cl (i := i) (by omega)
    have hm := nb_m1 (i := i) (by omega)
    have hn := nb_n0 (i := i) (by omega)
    have hei := hE.2.1 i hi
    by_cases h1 : eS i = 1
    · have h1' : eS (nI i).toNatClampNeg = 1 := by rw [hc]; exact h1
      obtain ⟨q, hq, hC⟩ := nb_ei_q hei
      have hC' : eC (nI i).toNatClampNeg = nI q := by rw [hc]; exact hC
      have hL : eL i = 0 ∧ 0 < eT i := by
        rcases hei with h | h | h | h | h
        · exact ⟨h.2.1, h.2.2.1⟩
        · exact absurd (h.1.symm.trans h1) (by decide)
        · exact absurd (h.1.symm.trans h1) (by decide)
        · exact absurd (h.1.symm.trans h1) (by decide)
        · exact absurd (h.1.symm.trans h1) (by decide)
      by_cases hq3 : q < 3
      · refine ⟨e, fn, dr, eA, eS, eL, eT, eP, upd eC i (nI (q + 1)), upd qI (3 * i + q) (pi + 1), upd qD (3 * i + q) d, fr, ⟨I.1, I.2.1, ?_, I.2.2.2⟩, fun post H => ?_, fun post H => ?_⟩
        · refine nb_ent_up i hE ?_ (fun j hj => ⟨rfl, rfl, rfl, rfl, pk_un hj⟩)
          rw [pk_us]
          exact Or.inl ⟨h1, hL.1, hL.2, q + 1, by omega, rfl⟩
        · unfold wX_send_37
          exact nm_e (nx_findEntry_s (by omega) i hi hy hl (br_f hm ⟨hv, br_t h1' (nx_enq_lt (by omega) hq3 hC H)⟩))
        · unfold wY_send_99
          refine nm_e (ny_find_s (by omega) i hi hy hl (br_t hn ⟨hv, br_t h1' ⟨hv, br_t ?_ (ny_s344 (by omega) hq3 hC H)⟩⟩))
          rw [hC']
          exact nI_lt (b := 3) hq3 (by omega)
      · obtain rfl : q = 3 := by omega
        refine ⟨e, fn, dr + 1, eA, eS, eL, eT, eP, upd (upd eC i 2) i 3, upd (nb_dq i qI) (3 * i + 2) (pi + 1), upd (nb_dq i qD) (3 * i + 2) d, fr, ⟨I.1, I.2.1, ?_, I.2.2.2⟩, fun post H => ?_, fun post H => ?_⟩
        · refine nb_ent_up i hE ?_ (fun j hj => ⟨rfl, rfl, rfl, rfl, (pk_un hj).trans (pk_un hj)⟩)
          rw [pk_us]
          exact Or.inl ⟨h1, hL.1, hL.2, 3, by omega, rfl⟩
        · unfold wX_send_37
          exact nm_e (nx_findEntry_s (by omega) i hi hy hl (br_f hm ⟨hv, br_t h1' (nx_enq_3 (by omega) hC H)⟩))
        · have w0 : vp_in (nI (3 * i)) 48 := nb_ix (by omega) (by omega)
          have w1 : vp_in (nI (3 * i + 1)) 48 := nb_ix (by omega) (by omega)
          have w2 : vp_in (nI (3 * i + 2)) 48 := nb_ix (by omega) (by omega)
          have a1 : nI (3 * i) + 1 = nI (3 * i + 1) := nI_1 _
          have a2 : nI (3 * i) + 2 = nI (3 * i + 2) := nI_add _ 2
          unfold wY_send_99
          refine nm_e (ny_find_s (by omega) i hi hy hl (br_t hn ⟨hv, br_t h1' ⟨hv, br_f ?_ ?_⟩⟩))
          · rw [hC']
            decide
          · rw [nb_30 i, a1, a2, hc, nb_cl (i := 3 * i) (by omega), nb_cl (i := 3 * i + 1) (by omega), nb_cl (i := 3 * i + 2) (by omega)]
            exact ⟨w1, w0, nm_e ⟨w1, w0, nm_e ⟨w2, w1, nm_e ⟨w2, w1, nm_e ⟨hv, nm_e (nm_e (ny_s344 (q := 2) (by omega) (by omega) pk_us H))⟩⟩⟩⟩⟩
    · have h1' : ¬ eS (nI i).toNatClampNeg = 1 := by rw [hc]; exact h1
      by_cases h3 : eS i = 3
      · refine ⟨e, fn + 1, dr, eA, upd eS i 4, eL, upd eT i 5, upd eP i 0, eC, qI, qD, nb_ev fr fn 5 d (eL i) (pi + 1) (eA i), ⟨I.1, I.2.1, ?_, I.2.2.2⟩, fun post H => ?_, fun post H => ?_⟩
        · refine nb_ent_up i hE ?_ (fun j hj => ⟨pk_un hj, rfl, pk_un hj, pk_un hj, rfl⟩)
          rw [pk_us, pk_us, pk_us]
          exact Or.inr (Or.inr (Or.inr (Or.inl ⟨rfl, by decide, rfl, nb_ei_c0 hei h1⟩)))
        · unfold wX_send_37
          exact nm_e (nx_findEntry_s (by omega) i hi hy hl (br_f hm ⟨hv, br_f h1' (nx_transmit_3 (by omega) h3 H)⟩))
        · unfold wY_send_99
          exact nm_e (ny_find_s (by omega) i hi hy hl (br_t hn ⟨hv, br_f h1' (ny_transmit_3 (by omega) h3 H)⟩))
      · refine ⟨e, fn + 1, dr, eA, eS, eL, eT, eP, eC, qI, qD, nb_ev fr fn 5 d (eL i) (pi + 1) (eA i), I, fun post H => ?_, fun post H => ?_⟩
        · unfold wX_send_37
          exact nm_e (nx_findEntry_s (by omega) i hi hy hl (br_f hm ⟨hv, br_f h1' (nx_transmit_n (by omega) h3 H)⟩))
        · unfold wY_send_99
          exact nm_e (ny_find_s (by omega) i hi hy hl (br_t hn ⟨hv, br_f h1' (ny_transmit_n (by omega) h3 H)⟩))
end
end
section
/-! sending off the link -/
def nb_clr (t : Nat) (a : Nat → Int32) : Nat → Int32 := fun j => if j < t then 0 else a j
theorem nb_clr0 (a : Nat → Int32) : nb_clr 0 a = a := by
  funext j
  exact if_neg (by omega)
theorem nb_clrs (t : Nat) (a : Nat → Int32) : upd (nb_clr t a) t 0 = nb_clr (t + 1) a := by
  funext j
  simp only [upd, nb_clr]
  by_cases hj : j = t
  · subst hj
    rw [if_pos rfl, if_pos (by omega)]
  · rw [if_neg hj]
    by_cases hk : j < t
    · rw [if_pos hk, if_pos (by omega)]
    · rw [if_neg hk, if_neg (by omega)]
section
variable {cn e o r : Nat} {rt rx ms fn pi dr : Int32} {eA eS eL eT eP eC qI qD oA oS oT oP rA rM fr sn : Nat → Int32}
theorem nj_clear {d : Int32} (hr : r ≤ 4) : ∃ rM1 : Nat → Int32,
    (∀ post : SX → Prop, post (nI cn, rt, rx, ms, nI e, nI o, nI r, fn, pi, dr, eA, eS, eL, eT, eP, eC, qI, qD, oA, oS, oT, oP, rA, rM1, nb_fp 0 fr, nb_fp 1 fr, nb_fp 2 fr, nb_fp 3 fr, nb_fp 4 fr) → wpX_clearMarksIfAllMarked post (nI cn, rt, rx, ms, nI e, nI o, nI r, fn, pi, dr, eA, eS, eL, eT, eP, eC, qI, qD, oA, oS, oT, oP, rA, rM, nb_fp 0 fr, nb_fp 1 fr, nb_fp 2 fr, nb_fp 3 fr, nb_fp 4 fr)) ∧
    (∀ post : Int32 → SY → Prop, wY_send_94 post d (nI cn) rt rx ms (nI e) (nI o) (nI r) fn pi dr eA eS eL eT eP eC qI qD sn oA oS oT oP rA rM1 fr → ∃ n, wY_send_35 post d (nI cn) rt rx ms (nI e) (nI o) (nI r) fn pi dr eA eS eL eT eP eC qI qD sn oA oS oT oP rA rM fr n 1 0) := by
  rcases nb_find (fun j => rM j = 0) r with hN | ⟨i, hi, hy, hl⟩
  · refine ⟨nb_clr r rM, fun post H => ?_, fun post H => ?_⟩
    · have key : ∀ m t : Nat, t + m = r → wX_clearMarksIfAllMarked_11 post (nI cn) rt rx ms (nI e) (nI o) (nI r) fn pi dr (m + 1) (nI t) eA eS eL eT eP eC qI qD oA oS oT oP rA (nb_clr t rM) (nb_fp 0 fr) (nb_fp 1 fr) (nb_fp 2 fr) (nb_fp 3 fr) (nb_fp 4 fr) := by
        intro m
        induction m with
        | zero =>
          intro t ht
          obtain rfl : t = r := by omega
          exact br_t (nI_le (by omega) (by omega)) H
        | succ m ih =>
          intro t ht
          refine br_f (nI_ge (by omega) (by omega)) ?_
          rw [nb_cl (by omega)]
          exact ⟨nb_ix (by omega) (by omega), nm_r (nb_clrs t rM) (nm_r (nI_1 t) (ih (t + 1) (by omega)))⟩
      have := key r 0 (by omega)
      rw [nb_clr0] at this
      unfold wpX_clearMarksIfAllMarked
      exact nx_firstUnmarkedRouter_n hr hN (br_t rfl ⟨_, this⟩)
    · have key : ∀ m t : Nat, t + m = r → wY_send_71 post d (nI cn) rt rx ms (nI e) (nI o) (nI r) fn pi dr (m + 1) (nI t) eA eS eL eT eP eC qI qD sn oA oS oT oP rA (nb_clr t rM) fr := by
        intro m
        induction m with
        | zero =>
          intro t ht
          obtain rfl : t = r := by omega
          exact br_t (nI_le (by omega) (by omega)) H
        | succ m ih =>
          intro t ht
          refine br_f (nI_ge (by omega) (by omega)) ?_
          rw [nb_cl (by omega)]
          exact ⟨nb_ix (by omega) (by omega), nm_r (nb_clrs t rM) (nm_r (nI_1 t) (ih (t + 1) (by omega)))⟩
      have h0 := key r 0 (by omega)
      rw [nb_clr0] at h0
      have key2 : ∀ m j : Nat, j + m = r → wY_send_35 post d (nI cn) rt rx ms (nI e) (nI o) (nI r) fn pi dr eA eS eL eT eP eC qI qD sn oA oS oT oP rA rM fr (m + 1) 1 (nI j) := by
        intro m
        induction m with
        | zero =>
          intro j hj
          exact br_t (nI_le (by omega) (by omega)) (br_f (by decide) ⟨_, h0⟩)
        | succ m ih =>
          intro j hj
          refine br_f (nI_ge (by omega) (by omega)) ⟨nb_ix (by omega) (by omega), br_f ?_ (nm_r (nI_1 j) (ih (j + 1) (by omega)))⟩
          rw [nb_cl (by omega)]
          exact hN j (by omega)
      exact ⟨_, key2 r 0 (by omega)⟩
  · refine ⟨rM, fun post H => ?_, fun post H => ?_⟩
    · unfold wpX_clearMarksIfAllMarked
      exact nx_firstUnmarkedRouter_s hr i hi hy hl (br_f (nb_m1 (by omega)) H)
    · have key2 : ∀ (m j : Nat) (x : Int32), j + m = r → (x = 0 ∨ j ≤ i) → wY_send_35 post d (nI cn) rt rx ms (nI e) (nI o) (nI r) fn pi dr eA eS eL eT eP eC qI qD sn oA oS oT oP rA rM fr (m + 1) x (nI j) := by
        intro m
        induction m with
        | zero =>
          intro j x hj hx
          have hx0 : x = 0 := by
            rcases hx with h | h
            · exact h
            · omega
          exact br_t (nI_le (by omega) (by omega)) (br_t hx0 H)
        | succ m ih =>
          intro j x hj hx
          refine br_f (nI_ge (by omega) (by omega)) ⟨nb_ix (by omega) (by omega), br_c (fun _ => nm_r (nI_1 j) (ih (j + 1) 0 (by omega) (Or.inl rfl))) (fun hz => nm_r (nI_1 j) (ih (j + 1) x (by omega) ?_))⟩
          rw [nb_cl (by omega)] at hz
          rcases hx with h | h
          · exact Or.inl h
          · by_cases hji : j = i
            · subst hji
              exact absurd hy hz
            · exact Or.inr (by omega)
      exact ⟨_, key2 r 0 1 (by omega) (Or.inr (by omega))⟩
end
theorem i_vc_send {k : Nat} {u : SX} {v : SY} (I : i_Rel k u v) (hk : k + 4 ≤ 2052) (v1 : Int32) (v2 : Int32) : wpX_send (fun r u' => wpY_send (fun r' v' => r' = r ∧ i_Rel (k + 4) u' v') v v1 (lw_bz v2)) u v1 (lw_bz v2) := by
  obtain ⟨cn, e, o, r, rt, rx, ms, fn, pi, dr, eA, eS, eL, eT, eP, eC, qI, qD, oA, oS, oT, oP, rA, rM, fr, sn, rfl, rfl, I⟩ := I
  have hR := nb_rel (k := k + 4) (ms := ms) (fn := fn) (pi := pi) (dr := dr) (qI := qI) (qD := qD) (oP := oP) (rM := rM) (fr := fr) (sn := sn) I
  have hb := I.1
  generalize lw_bz v2 = b
  by_cases hv : nb_ok v1
  · by_cases h0 : b = 0
    · obtain ⟨e1, fn1, dr1, eA1, eS1, eL1, eT1, eP1, eC1, qI1, qD1, fr1, I1, hX, hY⟩ := nj_s37 (ms := ms) (fn := fn) (pi := pi) (dr := dr) (qI := qI) (qD := qD) (oP := oP) (rM := rM) (fr := fr) (sn := sn) (h := v1) (d := v1) I hv
      unfold wpX_send
      refine nx_valid_t hv (br_f (by decide) (br_t h0 (br_t h0 (hX _ ?_))))
      unfold wpY_send
      exact ny_valid_t hv (br_f (by decide) (br_t h0 (br_t h0 (hY _ ⟨rfl, nb_rel I1⟩))))
    · by_cases hr : r = 0
      · have hr' : nI r = 0 := by rw [hr]; rfl
        unfold wpX_send
        refine nx_valid_t hv (br_f (by decide) (br_f h0 (br_t hr' ?_)))
        unfold wpY_send
        exact ny_valid_t hv (br_f (by decide) (br_f h0 (br_t hr' ⟨rfl, hR⟩)))
      · have hr' : ¬ nI r = 0 := nI_ne0 (by omega) (by omega)
        obtain ⟨rM1, cX, cY⟩ := nj_clear (cn := cn) (e := e) (o := o) (r := r) (rt := rt) (rx := rx) (ms := ms) (fn := fn) (pi := pi) (dr := dr) (eA := eA) (eS := eS) (eL := eL) (eT := eT) (eP := eP) (eC := eC) (qI := qI) (qD := qD) (oA := oA) (oS := oS) (oT := oT) (oP := oP) (rA := rA) (rM := rM) (fr := fr) (sn := sn) (d := v1) hb.2.2.2.2
        obtain ⟨x, hx, sX, sY⟩ := nj_sel (cn := cn) (e := e) (o := o) (rt := rt) (rx := rx) (ms := ms) (fn := fn) (pi := pi) (dr := dr) (eA := eA) (eS := eS) (eL := eL) (eT := eT) (eP := eP) (eC := eC) (qI := qI) (qD := qD) (oA := oA) (oS := oS) (oT := oT) (oP := oP) (rM := rM1) (fr := fr) (sn := sn) hb.2.2.2.2 I.2.2.2.2
        obtain ⟨e1, fn1, dr1, eA1, eS1, eL1, eT1, eP1, eC1, qI1, qD1, fr1, I1, hX, hY⟩ := nj_s37 (ms := ms) (fn := fn) (pi := pi) (dr := dr) (qI := qI) (qD := qD) (oP := oP) (rM := rM1) (fr := fr) (sn := sn) (h := x) (d := v1) I (hx (by omega))
        unfold wpX_send
        refine nx_valid_t hv (br_f (by decide) (br_f h0 (br_f hr' (br_f h0 (cX _ (sX _ (hX _ ?_)))))))
        unfold wpY_send
        exact ny_valid_t hv (br_f (by decide) (br_f h0 (br_f hr' (br_f h0 (cY _ (sY _ (hY _ ⟨rfl, nb_rel I1⟩)))))))
  · unfold wpX_send
    refine nx_valid_f hv (br_t rfl ?_)
    unfold wpY_send
    exact ny_valid_f hv (br_t rfl ⟨rfl, hR⟩)
end
section
/-! advertisements -/
section
variable {cn e o r : Nat} {rt rx ms fn pi dr : Int32} {eA eS eL eT eP eC qI qD oA oS oT oP rA rM fr sn : Nat → Int32}
theorem nj_na (I : nb_inv cn e o r rt rx eA eS eL eT eP eC oA oS oT rA) {i : Nat} (hi : i < e) (l s w : Int32) : ∃ (fn1 : Int32) (fr1 eS1 eL1 eT1 eP1 eC1 : Nat → Int32), nb_ent e eA eS1 eL1 eT1 eP1 eC1 ∧
    (∀ post : Int32 → SX → Prop, post 1 (nI cn, rt, rx, ms, nI e, nI o, nI r, fn1, pi, dr, eA, eS1, eL1, eT1, eP1, eC1, qI, qD, oA, oS, oT, oP, rA, rM, nb_fp 0 fr1, nb_fp 1 fr1, nb_fp 2 fr1, nb_fp 3 fr1, nb_fp 4 fr1) → wX_receiveNA_76 post l (nI i) s w (nI cn) rt rx ms (nI e) (nI o) (nI r) fn pi dr eA eS eL eT eP eC qI qD oA oS oT oP rA rM (nb_fp 0 fr) (nb_fp 1 fr) (nb_fp 2 fr) (nb_fp 3 fr) (nb_fp 4 fr)) ∧
    (∀ post : Int32 → SY → Prop, post 1 (nI cn, rt, rx, ms, nI e, nI o, nI r, fn1, pi, dr, eA, eS1, eL1, eT1, eP1, eC1, qI, qD, sn, oA, oS, oT, oP, rA, rM, fr1) → wY_receiveNA_99 post l (nI i) s w (nI cn) rt rx ms (nI e) (nI o) (nI r) fn pi dr eA eS eL eT eP eC qI qD sn oA oS oT oP rA rM fr) := by
  have hb := I.1
  have hE := I.2.2.1
  have hi16 : i < 16 := by omega
  have hv : vp_in (nI i) 16 := nb_ix (by omega) (by omega)
  have hc := nb_cl (i := i) (by omega)
  have hei := hE.2.1 i hi
  by_cases h1 : eS i = 1
  · have h1' : eS (nI i).toNatClampNeg = 1 := by rw [hc]; exact h1
    by_cases h0 : l = 0
    · refine ⟨fn, fr, eS, eL, eT, eP, eC, hE, fun post H => ⟨hv, br_t h1' (br_t h0 H)⟩, fun post H => ⟨hv, br_t h1' (br_t h0 H)⟩⟩
    · obtain ⟨q, hq, hC⟩ := nb_ei_q hei
      have hl' : upd eL (nI i).toNatClampNeg l = upd eL i l := by rw [hc]
      by_cases hs : s = 0
      · obtain ⟨fn1, fr1, eS1, eT1, eP1, hd, hX, hY⟩ := nj_flush (cn := cn) (e := e) (o := o) (r := r) (rt := rt) (rx := rx) (ms := ms) (fn := fn) (pi := pi) (dr := dr) (eA := eA) (eS := upd eS i 3) (eL := upd eL i l) (eT := upd eT i 0) (eP := upd eP i 0) (qI := qI) (qD := qD) (oA := oA) (oS := oS) (oT := oT) (oP := oP) (rA := rA) (rM := rM) (fr := fr) (sn := sn) (i := i) (q := q) hi16 hq hC
        refine ⟨fn1, fr1, eS1, upd eL i l, eT1, eP1, upd eC i 0, ?_, fun post H => ⟨hv, br_t h1' (br_f h0 ⟨hv, nm_r hl' (br_t hs (nx_enterStale hi16 (hX _ H)))⟩)⟩, fun post H => ⟨hv, br_t h1' (br_f h0 ⟨hv, nm_r hl' (br_t hs (ny_enterStale hi16 (hY _ H)))⟩)⟩⟩
        rcases hd with ⟨rfl, rfl, rfl⟩ | ⟨_, rfl, rfl, rfl⟩
        · refine nb_ent_up i hE ?_ (fun j hj => ⟨pk_un hj, pk_un hj, pk_un hj, pk_un hj, pk_un hj⟩)
          rw [pk_us, pk_us, pk_us, pk_us, pk_us]
          exact Or.inr (Or.inr (Or.inl ⟨rfl, rfl, rfl, rfl⟩))
        · refine nb_ent_up i hE ?_ (fun j hj => ⟨(pk_un hj).trans (pk_un hj), pk_un hj, (pk_un hj).trans (pk_un hj), (pk_un hj).trans (pk_un hj), pk_un hj⟩)
          rw [pk_us, pk_us, pk_us, pk_us, pk_us]
          exact Or.inr (Or.inr (Or.inr (Or.inl ⟨rfl, by decide, rfl, rfl⟩)))
      · obtain ⟨fn1, fr1, eS1, eT1, eP1, hd, hX, hY⟩ := nj_flush (cn := cn) (e := e) (o := o) (r := r) (rt := rt) (rx := rx) (ms := ms) (fn := fn) (pi := pi) (dr := dr) (eA := eA) (eS := upd eS i 2) (eL := upd eL i l) (eT := upd eT i rt) (eP := upd eP i 0) (qI := qI) (qD := qD) (oA := oA) (oS := oS) (oT := oT) (oP := oP) (rA := rA) (rM := rM) (fr := fr) (sn := sn) (i := i) (q := q) hi16 hq hC
        refine ⟨fn1, fr1, eS1, upd eL i l, eT1, eP1, upd eC i 0, ?_, fun post H => ⟨hv, br_t h1' (br_f h0 ⟨hv, nm_r hl' (br_f hs (nx_enterReachable hi16 (hX _ H)))⟩)⟩, fun post H => ⟨hv, br_t h1' (br_f h0 ⟨hv, nm_r hl' (br_f hs (ny_enterReachable hi16 (hY _ H)))⟩)⟩⟩
        rcases hd with ⟨rfl, rfl, rfl⟩ | ⟨h3, _⟩
        · refine nb_ent_up i hE ?_ (fun j hj => ⟨pk_un hj, pk_un hj, pk_un hj, pk_un hj, pk_un hj⟩)
          rw [pk_us, pk_us, pk_us, pk_us, pk_us]
          exact Or.inr (Or.inl ⟨rfl, I.2.1.1, rfl, rfl⟩)
        · rw [pk_us] at h3
          exact absurd h3 (by decide)
  · have h1' : ¬ eS (nI i).toNatClampNeg = 1 := by rw [hc]; exact h1
    by_cases hd : l = 0 ∨ l = eL i
    · have hX0 : ∀ post : SX → Prop, wX_updateByAdvertisement_19 post (nI i) l s w 0 (nI cn) rt rx ms (nI e) (nI o) (nI r) fn pi dr eA eS eL eT eP eC qI qD oA oS oT oP rA rM (nb_fp 0 fr) (nb_fp 1 fr) (nb_fp 2 fr) (nb_fp 3 fr) (nb_fp 4 fr) → wpX_updateByAdvertisement post (nI cn, rt, rx, ms, nI e, nI o, nI r, fn, pi, dr, eA, eS, eL, eT, eP, eC, qI, qD, oA, oS, oT, oP, rA, rM, nb_fp 0 fr, nb_fp 1 fr, nb_fp 2 fr, nb_fp 3 fr, nb_fp 4 fr) (nI i) l s w := by
        intro post H
        unfold wpX_updateByAdvertisement
        by_cases h0 : l = 0
        · exact br_t h0 H
        · rcases hd with h | h
          · exact absurd h h0
          · exact br_f h0 ⟨hv, br_t (by rw [hc]; exact h) H⟩
      have hY0 : ∀ post : Int32 → SY → Prop, wY_receiveNA_174 post l (nI i) s w 0 (nI cn) rt rx ms (nI e) (nI o) (nI r) fn pi dr eA eS eL eT eP eC qI qD sn oA oS oT oP rA rM fr → wY_receiveNA_99 post l (nI i) s w (nI cn) rt rx ms (nI e) (nI o) (nI r) fn pi dr eA eS eL eT eP eC qI qD sn oA oS oT oP rA rM fr := by
        intro post H
        unfold wY_receiveNA_99
        refine ⟨hv, br_f h1' ?_⟩
        by_cases h0 : l = 0
        · exact br_t h0 H
        · rcases hd with h | h
          · exact absurd h h0
          · exact br_f h0 ⟨hv, br_t (by rw [hc]; exact h) H⟩
      by_cases hs : s = 0
      · refine ⟨fn, fr, eS, eL, eT, eP, eC, hE, fun post H => ⟨hv, br_f h1' (hX0 _ (br_t rfl (br_t rfl (br_t hs (br_t rfl H)))))⟩, fun post H => hY0 _ ?_⟩
        have A : wY_receiveNA_206 post l (nI i) s 0 (nI cn) rt rx ms (nI e) (nI o) (nI r) fn pi dr eA eS eL eT eP eC qI qD sn oA oS oT oP rA rM fr := br_t rfl (br_t hs (br_t rfl H))
        exact br_c (fun _ => br_t rfl A) (fun _ => A)
      · refine ⟨fn, fr, upd eS i 2, eL, upd eT i rt, upd eP i 0, eC, nb_ent_reach hE hi h1 I.2.1.1, fun post H => ⟨hv, br_f h1' (hX0 _ (br_t rfl (br_t rfl (br_f hs (nx_enterReachable hi16 H)))))⟩, fun post H => hY0 _ ?_⟩
        have A : wY_receiveNA_206 post l (nI i) s 0 (nI cn) rt rx ms (nI e) (nI o) (nI r) fn pi dr eA eS eL eT eP eC qI qD sn oA oS oT oP rA rM fr := br_t rfl (br_f hs (ny_enterReachable hi16 H))
        exact br_c (fun _ => br_t rfl A) (fun _ => A)
    · have hX1 : ∀ post : SX → Prop, wX_updateByAdvertisement_19 post (nI i) l s w 1 (nI cn) rt rx ms (nI e) (nI o) (nI r) fn pi dr eA eS eL eT eP eC qI qD oA oS oT oP rA rM (nb_fp 0 fr) (nb_fp 1 fr) (nb_fp 2 fr) (nb_fp 3 fr) (nb_fp 4 fr) → wpX_updateByAdvertisement post (nI cn, rt, rx, ms, nI e, nI o, nI r, fn, pi, dr, eA, eS, eL, eT, eP, eC, qI, qD, oA, oS, oT, oP, rA, rM, nb_fp 0 fr, nb_fp 1 fr, nb_fp 2 fr, nb_fp 3 fr, nb_fp 4 fr) (nI i) l s w := by
        intro post H
        unfold wpX_updateByAdvertisement
        exact br_f (fun h => hd (Or.inl h)) ⟨hv, br_f (by rw [hc]; exact fun h => hd (Or.inr h)) H⟩
      have hY1 : ∀ post : Int32 → SY → Prop, wY_receiveNA_174 post l (nI i) s w 1 (nI cn) rt rx ms (nI e) (nI o) (nI r) fn pi dr eA eS eL eT eP eC qI qD sn oA oS oT oP rA rM fr → wY_receiveNA_99 post l (nI i) s w (nI cn) rt rx ms (nI e) (nI o) (nI r) fn pi dr eA eS eL eT eP eC qI qD sn oA oS oT oP rA rM fr := by
        intro post H
        unfold wY_receiveNA_99
        exact ⟨hv, br_f h1' (br_f (fun h => hd (Or.inl h)) ⟨hv, br_f (by rw [hc]; exact fun h => hd (Or.inr h)) H⟩)⟩
      by_cases hw : w = 0
      · by_cases h2 : eS i = 2
        · have h2' : eS (nI i).toNatClampNeg = 2 := by rw [hc]; exact h2
          exact ⟨fn, fr, upd eS i 3, eL, upd eT i 0, upd eP i 0, eC, nb_ent_stale hE hi h1, fun post H => ⟨hv, br_f h1' (hX1 _ (br_f (by decide) (br_t hw ⟨hv, br_t h2' (nx_enterStale hi16 H)⟩)))⟩, fun post H => hY1 _ (br_t hw (br_f (by decide) ⟨hv, br_t h2' (ny_enterStale hi16 H)⟩))⟩
        · have h2' : ¬ eS (nI i).toNatClampNeg = 2 := by rw [hc]; exact h2
          exact ⟨fn, fr, eS, eL, eT, eP, eC, hE, fun post H => ⟨hv, br_f h1' (hX1 _ (br_f (by decide) (br_t hw ⟨hv, br_f h2' H⟩)))⟩, fun post H => hY1 _ (br_t hw (br_f (by decide) ⟨hv, br_f h2' H⟩))⟩
      · have hl' : upd eL (nI i).toNatClampNeg l = upd eL i l := by rw [hc]
        by_cases hs : s = 0
        · exact ⟨fn, fr, upd eS i 3, upd eL i l, upd eT i 0, upd eP i 0, eC, nb_ent_stale (nb_ent_link hE hi h1) hi h1, fun post H => ⟨hv, br_f h1' (hX1 _ (br_f (by decide) (br_f hw (br_f (by decide) ⟨hv, nm_r hl' (br_t hs (br_f (by decide) (nx_enterStale hi16 H)))⟩))))⟩, fun post H => hY1 _ (br_f hw (br_f (by decide) ⟨hv, nm_r hl' (br_t hs (br_f (by decide) (ny_enterStale hi16 H)))⟩))⟩
        · exact ⟨fn, fr, upd eS i 2, upd eL i l, upd eT i rt, upd eP i 0, eC, nb_ent_reach (nb_ent_link hE hi h1) hi h1 I.2.1.1, fun post H => ⟨hv, br_f h1' (hX1 _ (br_f (by decide) (br_f hw (br_f (by decide) ⟨hv, nm_r hl' (br_f hs (nx_enterReachable hi16 H))⟩))))⟩, fun post H => hY1 _ (br_f hw (br_f (by decide) ⟨hv, nm_r hl' (br_f hs (ny_enterReachable hi16 H))⟩))⟩
theorem nx_dup_1 {post : SX → Prop} {i : Nat} (hi : i < 8) (h : oS i = 1) (H : post (nI cn, rt, rx, ms, nI e, nI o, nI r, fn, pi, dr, eA, eS, eL, eT, eP, eC, qI, qD, oA, upd oS i 3, upd oT i 0, oP, rA, rM, nb_fp 0 fr, nb_fp 1 fr, nb_fp 2 fr, nb_fp 3 fr, nb_fp 4 fr)) : wpX_becomeDuplicateIfTentative post (nI cn, rt, rx, ms, nI e, nI o, nI r, fn, pi, dr, eA, eS, eL, eT, eP, eC, qI, qD, oA, oS, oT, oP, rA, rM, nb_fp 0 fr, nb_fp 1 fr, nb_fp 2 fr, nb_fp 3 fr, nb_fp 4 fr) (nI i) := by
  have hv : vp_in (nI i) 8 := nb_ix hi (by omega)
  unfold wpX_becomeDuplicateIfTentative
  rw [nb_cl (by omega)]
  exact ⟨hv, br_t h ⟨hv, nm_e ⟨hv, nm_e H⟩⟩⟩
theorem nx_dup_n {post : SX → Prop} {i : Nat} (hi : i < 8) (h : ¬ oS i = 1) (H : post (nI cn, rt, rx, ms, nI e, nI o, nI r, fn, pi, dr, eA, eS, eL, eT, eP, eC, qI, qD, oA, oS, oT, oP, rA, rM, nb_fp 0 fr, nb_fp 1 fr, nb_fp 2 fr, nb_fp 3 fr, nb_fp 4 fr)) : wpX_becomeDuplicateIfTentative post (nI cn, rt, rx, ms, nI e, nI o, nI r, fn, pi, dr, eA, eS, eL, eT, eP, eC, qI, qD, oA, oS, oT, oP, rA, rM, nb_fp 0 fr, nb_fp 1 fr, nb_fp 2 fr, nb_fp 3 fr, nb_fp 4 fr) (nI i) := by
  have hv : vp_in (nI i) 8 := nb_ix hi (by omega)
  unfold wpX_becomeDuplicateIfTentative
  rw [nb_cl (by omega)]
  exact ⟨hv, br_f h H⟩
end
theorem nb_own_dup {o i : Nat} {oA oS oT : Nat → Int32} (h : nb_own o oA oS oT) : nb_own o oA (upd oS i 3) (upd oT i 0) := by
  refine nb_own_up i h (Or.inr (Or.inr pk_us)) (fun j hj => ⟨pk_un hj, pk_un hj⟩)
theorem i_vc_receiveNA {k : Nat} {u : SX} {v : SY} (I : i_Rel k u v) (hk : k + 4 ≤ 2052) (v1 : Int32) (v2 : Int32) (v3 : Int32) : wpX_receiveNA (fun r u' => wpY_receiveNA (fun r' v' => r' = r ∧ i_Rel (k + 4) u' v') v v1 v2 v3) u v1 v2 v3 := by
  obtain ⟨cn, e, o, r, rt, rx, ms, fn, pi, dr, eA, eS, eL, eT, eP, eC, qI, qD, oA, oS, oT, oP, rA, rM, fr, sn, rfl, rfl, I⟩ := I
  have hR := nb_rel (k := k + 4) (ms := ms) (fn := fn) (pi := pi) (dr := dr) (qI := qI) (qD := qD) (oP := oP) (rM := rM) (fr := fr) (sn := sn) I
  have hb := I.1
  by_cases hv : nb_ok v1
  · by_cases hz : nb_oz v2
    · have z0 : ¬ v2 < 0 := Int32.not_lt.mpr hz.1
      rcases nb_find (fun j => oA j = v1) o with hN | ⟨i, hi, hy, hl⟩
      · rcases nb_find (fun j => eA j = v1) e with eN | ⟨i, hi, hy, hl⟩
        · unfold wpX_receiveNA
          refine nx_valid_t hv (br_f (by decide) (nx_voz_t hz (br_f (by decide) (nx_findOwn_n (by omega) hN (br_t rfl (nx_findEntry_n (by omega) eN (br_t rfl ?_)))))))
          unfold wpY_receiveNA
          exact ny_valid_t hv (br_f (by decide) (br_f z0 (br_t hz.2 (ny_findOwn_n (by omega) hN (br_t (by decide) (ny_find_n (by omega) eN (br_f (by decide) ⟨rfl, hR⟩)))))))
        · have hX0 : ∀ (post : Int32 → SX → Prop), (∀ s w, (s = if v3 &&& 1 = 0 then 0 else 1) → (w = if v3 &&& 2 = 0 then 0 else 1) → wX_receiveNA_76 post v2 (nI i) s w (nI cn) rt rx ms (nI e) (nI o) (nI r) fn pi dr eA eS eL eT eP eC qI qD oA oS oT oP rA rM (nb_fp 0 fr) (nb_fp 1 fr) (nb_fp 2 fr) (nb_fp 3 fr) (nb_fp 4 fr)) → wpX_receiveNA post (nI cn, rt, rx, ms, nI e, nI o, nI r, fn, pi, dr, eA, eS, eL, eT, eP, eC, qI, qD, oA, oS, oT, oP, rA, rM, nb_fp 0 fr, nb_fp 1 fr, nb_fp 2 fr, nb_fp 3 fr, nb_fp 4 fr) v1 v2 v3 := by
            intro post H
            unfold wpX_receiveNA
            refine nx_valid_t hv (br_f (by decide) (nx_voz_t hz (br_f (by decide) (nx_findOwn_n (by omega) hN (br_t rfl (nx_findEntry_s (by omega) i hi hy hl (br_f (nb_m1 (by omega)) ?_)))))))
            exact br_c (fun a => br_c (fun b => H _ _ (if_pos a).symm (if_pos b).symm) (fun b => H _ _ (if_pos a).symm (if_neg b).symm)) (fun a => br_c (fun b => H _ _ (if_neg a).symm (if_pos b).symm) (fun b => H _ _ (if_neg a).symm (if_neg b).symm))
          have hY0 : ∀ (post : Int32 → SY → Prop), (∀ s w, (s = if v3 &&& 1 = 0 then 0 else 1) → (w = if v3 &&& 2 = 0 then 0 else 1) → wY_receiveNA_99 post v2 (nI i) s w (nI cn) rt rx ms (nI e) (nI o) (nI r) fn pi dr eA eS eL eT eP eC qI qD sn oA oS oT oP rA rM fr) → wpY_receiveNA post (nI cn, rt, rx, ms, nI e, nI o, nI r, fn, pi, dr, eA, eS, eL, eT, eP, eC, qI, qD, sn, oA, oS, oT, oP, rA, rM, fr) v1 v2 v3 := by
            intro post H
            unfold wpY_receiveNA
            refine ny_valid_t hv (br_f (by decide) (br_f z0 (br_t hz.2 (ny_findOwn_n (by omega) hN (br_t (by decide) (ny_find_s (by omega) i hi hy hl (br_t (nb_n0 (by omega)) ?_)))))))
            exact br_c (fun a => br_c (fun b => H _ _ (if_pos a).symm (if_pos b).symm) (fun b => H _ _ (if_pos a).symm (if_neg b).symm)) (fun a => br_c (fun b => H _ _ (if_neg a).symm (if_pos b).symm) (fun b => H _ _ (if_neg a).symm (if_neg b).symm))
          obtain ⟨fn1, fr1, eS1, eL1, eT1, eP1, eC1, E1, hX, hY⟩ := nj_na (ms := ms) (fn := fn) (pi := pi) (dr := dr) (qI := qI) (qD := qD) (oP := oP) (rM := rM) (fr := fr) (sn := sn) I hi v2 (if v3 &&& 1 = 0 then 0 else 1) (if v3 &&& 2 = 0 then 0 else 1)
          refine hX0 _ (fun s w es ew => ?_)
          rw [es, ew]
          refine hX _ (hY0 _ (fun s w es ew => ?_))
          rw [es, ew]
          exact hY _ ⟨rfl, nb_rel ⟨I.1, I.2.1, E1, I.2.2.2⟩⟩
      · have hv8 : vp_in (nI i) 8 := nb_ix (by omega) (by omega)
        have hc := nb_cl (i := i) (by omega)
        by_cases h1 : oS i = 1
        · have hX : ∀ post : Int32 → SX → Prop, post 1 (nI cn, rt, rx, ms, nI e, nI o, nI r, fn, pi, dr, eA, eS, eL, eT, eP, eC, qI, qD, oA, upd oS i 3, upd oT i 0, oP, rA, rM, nb_fp 0 fr, nb_fp 1 fr, nb_fp 2 fr, nb_fp 3 fr, nb_fp 4 fr) → wpX_receiveNA post (nI cn, rt, rx, ms, nI e, nI o, nI r, fn, pi, dr, eA, eS, eL, eT, eP, eC, qI, qD, oA, oS, oT, oP, rA, rM, nb_fp 0 fr, nb_fp 1 fr, nb_fp 2 fr, nb_fp 3 fr, nb_fp 4 fr) v1 v2 v3 := by
            intro post H
            unfold wpX_receiveNA
            exact nx_valid_t hv (br_f (by decide) (nx_voz_t hz (br_f (by decide) (nx_findOwn_s (by omega) i hi hy hl (br_f (nb_m1 (by omega)) (nx_dup_1 (by omega) h1 H))))))
          have hY : ∀ post : Int32 → SY → Prop, post 1 (nI cn, rt, rx, ms, nI e, nI o, nI r, fn, pi, dr, eA, eS, eL, eT, eP, eC, qI, qD, sn, oA, upd oS i 3, upd oT i 0, oP, rA, rM, fr) → wpY_receiveNA post (nI cn, rt, rx, ms, nI e, nI o, nI r, fn, pi, dr, eA, eS, eL, eT, eP, eC, qI, qD, sn, oA, oS, oT, oP, rA, rM, fr) v1 v2 v3 := by
            intro post H
            unfold wpY_receiveNA
            refine ny_valid_t hv (br_f (by decide) (br_f z0 (br_t hz.2 (ny_findOwn_s (by omega) i hi hy hl (br_f (nb_nn (by omega)) ?_)))))
            rw [hc]
            exact ⟨hv8, br_t h1 ⟨hv8, nm_e ⟨hv8, nm_e H⟩⟩⟩
          exact hX _ (hY _ ⟨rfl, nb_rel ⟨I.1, I.2.1, I.2.2.1, nb_own_dup I.2.2.2.1, I.2.2.2.2⟩⟩)
        · unfold wpX_receiveNA
          refine nx_valid_t hv (br_f (by decide) (nx_voz_t hz (br_f (by decide) (nx_findOwn_s (by omega) i hi hy hl (br_f (nb_m1 (by omega)) (nx_dup_n (by omega) h1 ?_))))))
          unfold wpY_receiveNA
          refine ny_valid_t hv (br_f (by decide) (br_f z0 (br_t hz.2 (ny_findOwn_s (by omega) i hi hy hl (br_f (nb_nn (by omega)) ?_)))))
          exact ⟨hv8, br_f (by rw [hc]; exact h1) ⟨rfl, hR⟩⟩
    · unfold wpX_receiveNA
      refine nx_valid_t hv (br_f (by decide) (nx_voz_f hz (br_t rfl ?_)))
      unfold wpY_receiveNA
      refine ny_valid_t hv (br_f (by decide) ?_)
      by_cases z0 : v2 < 0
      · exact br_t z0 ⟨rfl, hR⟩
      · exact br_f z0 (br_f (fun h => hz ⟨Int32.not_lt.mp z0, h⟩) ⟨rfl, hR⟩)
  · unfold wpX_receiveNA
    refine nx_valid_f hv (br_t rfl ?_)
    unfold wpY_receiveNA
    exact ny_valid_f hv (br_t rfl ⟨rfl, hR⟩)
end
section
/-! solicitations -/
section
variable {cn e o r : Nat} {rt rx ms fn pi dr : Int32} {eA eS eL eT eP eC qI qD oA oS oT oP rA rM fr sn : Nat → Int32}
theorem nj_learn (I : nb_inv cn e o r rt rx eA eS eL eT eP eC oA oS oT rA) {s t l : Int32} (hs : nb_ok s) (h0 : ¬ l = 0) {g : Nat} (hg : g < o) (gy : oA g = t) (gl : ∀ j, j < g → ¬ oA j = t) (g2 : oS g = 2) :
    ∃ (e1 : Nat) (fn1 : Int32) (eA1 eS1 eL1 eT1 eP1 eC1 qI1 qD1 fr1 : Nat → Int32), nb_inv cn e1 o r rt rx eA1 eS1 eL1 eT1 eP1 eC1 oA oS oT rA ∧
    (∀ post : SX → Prop, post (nI cn, rt, rx, ms, nI e1, nI o, nI r, fn1, pi, dr, eA1, eS1, eL1, eT1, eP1, eC1, qI1, qD1, oA, oS, oT, oP, rA, rM, nb_fp 0 fr1, nb_fp 1 fr1, nb_fp 2 fr1, nb_fp 3 fr1, nb_fp 4 fr1) → wpX_learnSource post (nI cn, rt, rx, ms, nI e, nI o, nI r, fn, pi, dr, eA, eS, eL, eT, eP, eC, qI, qD, oA, oS, oT, oP, rA, rM, nb_fp 0 fr, nb_fp 1 fr, nb_fp 2 fr, nb_fp 3 fr, nb_fp 4 fr) s l) ∧
    (∀ post : Int32 → SY → Prop, wY_receiveNS_215 post s t l (nI cn) rt rx ms (nI e1) (nI o) (nI r) fn1 pi dr eA1 eS1 eL1 eT1 eP1 eC1 qI1 qD1 sn oA oS oT oP rA rM fr1 → wY_receiveNS_38 post s t l (nI cn) rt rx ms (nI e) (nI o) (nI r) fn pi dr eA eS eL eT eP eC qI qD sn oA oS oT oP rA rM fr) := by
  have hb := I.1
  have hE := I.2.2.1
  have hv8 : vp_in (nI g) 8 := nb_ix (by omega) (by omega)
  have gc := nb_cl (i := g) (by omega)
  have g3 : ¬ oS (nI g).toNatClampNeg = 3 := by rw [gc, g2]; decide
  have g1 : ¬ oS (nI g).toNatClampNeg = 1 := by rw [gc, g2]; decide
  have hs0 : ¬ s = 0 := by
    intro h
    rw [h] at hs
    exact absurd hs.1 (by decide)
  rcases nb_find (fun j => eA j = s) e with hN | ⟨i, hi, hy, hl⟩
  · rcases nj_create (cn := cn) (e := e) (o := o) (r := r) (rt := rt) (rx := rx) (ms := ms) (fn := fn) (pi := pi) (dr := dr) (qI := qI) (qD := qD) (oA := oA) (oS := oS) (oT := oT) (oP := oP) (rA := rA) (rM := rM) (fr := fr) (sn := sn) hb.2.1 hb.1 hb.2.2.1 hE s hN with ⟨hX, hY⟩ | ⟨e1, eA1, eS1, eL1, eT1, eP1, eC1, qI1, qD1, he1, hE1, hn1, hX, hY⟩
    · refine ⟨e, fn, eA, eS, eL, eT, eP, eC, qI, qD, fr, I, fun post H => ?_, fun post H => ?_⟩
      · unfold wpX_learnSource
        exact nx_findEntry_n (by omega) hN (br_t rfl (hX _ (br_t rfl H)))
      · unfold wY_receiveNS_38
        exact ny_findOwn_s (by omega) g hg gy gl (br_f (nb_nn (by omega)) ⟨hv8, br_f g3 ⟨hv8, br_f g1 (br_f hs0 (br_f h0 (ny_find_n (by omega) hN (br_f (by decide) (hY _ (br_t (by decide) H)))))) ⟩⟩)
    · have hv : vp_in (nI e1) 16 := nb_ix (by omega) (by omega)
      have hc := nb_cl (i := e1) (by omega)
      refine ⟨e1 + 1, fn, upd eA1 e1 s, upd eS1 e1 3, upd eL1 e1 l, upd eT1 e1 0, upd eP1 e1 0, upd eC1 e1 0, qI1, qD1, fr, ⟨⟨hb.1, hb.2.1, by omega, hb.2.2.2⟩, I.2.1, nb_ent_app hE1 hn1 hs (Or.inr (Or.inr (Or.inl ⟨rfl, rfl, rfl, rfl⟩))), I.2.2.2⟩, fun post H => ?_, fun post H => ?_⟩
      · unfold wpX_learnSource
        refine nx_findEntry_n (by omega) hN (br_t rfl (hX _ (br_f (nb_m1 (by omega)) ?_)))
        rw [hc, nb_uu]
        exact ⟨hv, nm_e (nx_enterStale (by omega) H)⟩
      · unfold wY_receiveNS_38
        refine ny_findOwn_s (by omega) g hg gy gl (br_f (nb_nn (by omega)) ⟨hv8, br_f g3 ⟨hv8, br_f g1 (br_f hs0 (br_f h0 (ny_find_n (by omega) hN (br_f (by decide) (hY _ (br_f (nb_nn (by omega)) ?_)))))) ⟩⟩)
        rw [hc, nb_uu]
        refine ⟨hv, nm_e (ny_enterStale (by omega) ?_)⟩
        rw [nb_uu, nb_uu, nb_uu]
        exact H
  · have hi16 : i < 16 := by omega
    have hv : vp_in (nI i) 16 := nb_ix (by omega) (by omega)
    have hc := nb_cl (i := i) (by omega)
    have hm := nb_m1 (i := i) (by omega)
    have hn := nb_n0 (i := i) (by omega)
    have hei := hE.2.1 i hi
    have hl' : upd eL (nI i).toNatClampNeg l = upd eL i l := by rw [hc]
    by_cases h1 : eS i = 1
    · have h1' : eS (nI i).toNatClampNeg = 1 := by rw [hc]; exact h1
      obtain ⟨q, hq, hC⟩ := nb_ei_q hei
      have hL : eL i = 0 := by
        rcases hei with h | h | h | h | h
        · exact h.2.1
        · exact absurd (h.1.symm.trans h1) (by decide)
        · exact absurd (h.1.symm.trans h1) (by decide)
        · exact absurd (h.1.symm.trans h1) (by decide)
        · exact absurd (h.1.symm.trans h1) (by decide)
      have hLl : ¬ eL (nI i).toNatClampNeg = l := by
        rw [hc, hL]
        exact fun h => h0 h.symm
      obtain ⟨fn1, fr1, eS1, eT1, eP1, hd, hX, hY⟩ := nj_flush (cn := cn) (e := e) (o := o) (r := r) (rt := rt) (rx := rx) (ms := ms) (fn := fn) (pi := pi) (dr := dr) (eA := eA) (eS := upd eS i 3) (eL := upd eL i l) (eT := upd eT i 0) (eP := upd eP i 0) (qI := qI) (qD := qD) (oA := oA) (oS := oS) (oT := oT) (oP := oP) (rA := rA) (rM := rM) (fr := fr) (sn := sn) (i := i) (q := q) hi16 hq hC
      refine ⟨e, fn1, eA, eS1, upd eL i l, eT1, eP1, upd eC i 0, qI, qD, fr1, ⟨I.1, I.2.1, ?_, I.2.2.2⟩, fun post H => ?_, fun post H => ?_⟩
      · rcases hd with ⟨rfl, rfl, rfl⟩ | ⟨_, rfl, rfl, rfl⟩
        · refine nb_ent_up i hE ?_ (fun j hj => ⟨pk_un hj, pk_un hj, pk_un hj, pk_un hj, pk_un hj⟩)
          rw [pk_us, pk_us, pk_us, pk_us, pk_us]
          exact Or.inr (Or.inr (Or.inl ⟨rfl, rfl, rfl, rfl⟩))
        · refine nb_ent_up i hE ?_ (fun j hj => ⟨(pk_un hj).trans (pk_un hj), pk_un hj, (pk_un hj).trans (pk_un hj), (pk_un hj).trans (pk_un hj), pk_un hj⟩)
          rw [pk_us, pk_us, pk_us, pk_us, pk_us]
          exact Or.inr (Or.inr (Or.inr (Or.inl ⟨rfl, by decide, rfl, rfl⟩)))
      · unfold wpX_learnSource
        exact nx_findEntry_s (by omega) i hi hy hl (br_f hm ⟨hv, br_f hLl ⟨hv, nm_r hl' (nx_enterStale hi16 (hX _ H))⟩⟩)
      · unfold wY_receiveNS_38
        exact ny_findOwn_s (by omega) g hg gy gl (br_f (nb_nn (by omega)) ⟨hv8, br_f g3 ⟨hv8, br_f g1 (br_f hs0 (br_f h0 (ny_find_s (by omega) i hi hy hl (br_t hn ⟨hv, br_t h1' ⟨hv, nm_r hl' (ny_enterStale hi16 (hY _ H))⟩⟩)))) ⟩⟩)
    · have h1' : ¬ eS (nI i).toNatClampNeg = 1 := by rw [hc]; exact h1
      have hC0 := nb_ei_c0 hei h1
      by_cases hll : eL i = l
      · have hll' : eL (nI i).toNatClampNeg = l := by rw [hc]; exact hll
        refine ⟨e, fn, eA, eS, eL, eT, eP, eC, qI, qD, fr, I, fun post H => ?_, fun post H => ?_⟩
        · unfold wpX_learnSource
          exact nx_findEntry_s (by omega) i hi hy hl (br_f hm ⟨hv, br_t hll' H⟩)
        · unfold wY_receiveNS_38
          exact ny_findOwn_s (by omega) g hg gy gl (br_f (nb_nn (by omega)) ⟨hv8, br_f g3 ⟨hv8, br_f g1 (br_f hs0 (br_f h0 (ny_find_s (by omega) i hi hy hl (br_t hn ⟨hv, br_f h1' ⟨hv, br_t hll' H⟩⟩)))) ⟩⟩)
      · have hll' : ¬ eL (nI i).toNatClampNeg = l := by rw [hc]; exact hll
        refine ⟨e, fn, eA, upd eS i 3, upd eL i l, upd eT i 0, upd eP i 0, eC, qI, qD, fr, ⟨I.1, I.2.1, nb_ent_stale (nb_ent_link hE hi h1) hi h1, I.2.2.2⟩, fun post H => ?_, fun post H => ?_⟩
        · unfold wpX_learnSource
          exact nx_findEntry_s (by omega) i hi hy hl (br_f hm ⟨hv, br_f hll' ⟨hv, nm_r hl' (nx_enterStale hi16 (nx_flush_0 hi16 hC0 H))⟩⟩)
        · unfold wY_receiveNS_38
          exact ny_findOwn_s (by omega) g hg gy gl (br_f (nb_nn (by omega)) ⟨hv8, br_f g3 ⟨hv8, br_f g1 (br_f hs0 (br_f h0 (ny_find_s (by omega) i hi hy hl (br_t hn ⟨hv, br_f h1' ⟨hv, br_f hll' ⟨hv, nm_r hl' (ny_enterStale hi16 H)⟩⟩⟩)))) ⟩⟩)
end
section
variable {cn e o r : Nat} {rt rx ms fn pi dr : Int32} {eA eS eL eT eP eC qI qD oA oS oT oP rA rM fr sn : Nat → Int32}
theorem nj_ns (I : nb_inv cn e o r rt rx eA eS eL eT eP eC oA oS oT rA) {s t l : Int32} (hs : nb_oz s) (hsl : s = 0 → l = 0) :
    ∃ (e1 : Nat) (fn1 : Int32) (eA1 eS1 eL1 eT1 eP1 eC1 qI1 qD1 fr1 oS1 oT1 : Nat → Int32), nb_inv cn e1 o r rt rx eA1 eS1 eL1 eT1 eP1 eC1 oA oS1 oT1 rA ∧
    (∀ post : Int32 → SX → Prop, post 1 (nI cn, rt, rx, ms, nI e1, nI o, nI r, fn1, pi, dr, eA1, eS1, eL1, eT1, eP1, eC1, qI1, qD1, oA, oS1, oT1, oP, rA, rM, nb_fp 0 fr1, nb_fp 1 fr1, nb_fp 2 fr1, nb_fp 3 fr1, nb_fp 4 fr1) → wX_receiveNS_33 post s t l (nI cn) rt rx ms (nI e) (nI o) (nI r) fn pi dr eA eS eL eT eP eC qI qD oA oS oT oP rA rM (nb_fp 0 fr) (nb_fp 1 fr) (nb_fp 2 fr) (nb_fp 3 fr) (nb_fp 4 fr)) ∧
    (∀ post : Int32 → SY → Prop, post 1 (nI cn, rt, rx, ms, nI e1, nI o, nI r, fn1, pi, dr, eA1, eS1, eL1, eT1, eP1, eC1, qI1, qD1, sn, oA, oS1, oT1, oP, rA, rM, fr1) → wY_receiveNS_38 post s t l (nI cn) rt rx ms (nI e) (nI o) (nI r) fn pi dr eA eS eL eT eP eC qI qD sn oA oS oT oP rA rM fr) := by
  have hb := I.1
  rcases nb_find (fun j => oA j = t) o with hN | ⟨g, hg, gy, gl⟩
  · refine ⟨e, fn, eA, eS, eL, eT, eP, eC, qI, qD, fr, oS, oT, I, fun post H => ?_, fun post H => ?_⟩
    · unfold wX_receiveNS_33
      exact nx_findOwn_n (by omega) hN (br_t rfl H)
    · unfold wY_receiveNS_38
      exact ny_findOwn_n (by omega) hN (br_t (by decide) H)
  · have hv8 : vp_in (nI g) 8 := nb_ix (by omega) (by omega)
    have gc := nb_cl (i := g) (by omega)
    have hm := nb_m1 (i := g) (by omega)
    have hn := nb_nn (i := g) (by omega)
    rcases (I.2.2.2.1 g hg).2 with ⟨g1, _⟩ | g2 | g3
    · have x2 : ¬ oS (nI g).toNatClampNeg = 2 := by rw [gc, g1]; decide
      have x3 : ¬ oS (nI g).toNatClampNeg = 3 := by rw [gc, g1]; decide
      have x1 : oS (nI g).toNatClampNeg = 1 := by rw [gc, g1]
      by_cases hs0 : s = 0
      · refine ⟨e, fn, eA, eS, eL, eT, eP, eC, qI, qD, fr, upd oS g 3, upd oT g 0, ⟨I.1, I.2.1, I.2.2.1, nb_own_dup I.2.2.2.1, I.2.2.2.2⟩, fun post H => ?_, fun post H => ?_⟩
        · unfold wX_receiveNS_33
          exact nx_findOwn_s (by omega) g hg gy gl (br_f hm ⟨hv8, br_f x2 (br_t hs0 (nx_dup_1 (by omega) g1 H))⟩)
        · unfold wY_receiveNS_38
          refine ny_findOwn_s (by omega) g hg gy gl (br_f hn ⟨hv8, br_f x3 ⟨hv8, br_t x1 (br_t hs0 ?_)⟩⟩)
          rw [gc]
          exact ⟨hv8, nm_e ⟨hv8, nm_e H⟩⟩
      · refine ⟨e, fn, eA, eS, eL, eT, eP, eC, qI, qD, fr, oS, oT, I, fun post H => ?_, fun post H => ?_⟩
        · unfold wX_receiveNS_33
          exact nx_findOwn_s (by omega) g hg gy gl (br_f hm ⟨hv8, br_f x2 (br_f hs0 H)⟩)
        · unfold wY_receiveNS_38
          exact ny_findOwn_s (by omega) g hg gy gl (br_f hn ⟨hv8, br_f x3 ⟨hv8, br_t x1 (br_f hs0 H)⟩⟩)
    · have x2 : oS (nI g).toNatClampNeg = 2 := by rw [gc, g2]
      have x3 : ¬ oS (nI g).toNatClampNeg = 3 := by rw [gc, g2]; decide
      have x1 : ¬ oS (nI g).toNatClampNeg = 1 := by rw [gc, g2]; decide
      by_cases h0 : l = 0
      · refine ⟨e, fn + 1, eA, eS, eL, eT, eP, eC, qI, qD, nb_ev fr fn 4 t l 0 s, oS, oT, I, fun post H => ?_, fun post H => ?_⟩
        · unfold wX_receiveNS_33
          exact nx_findOwn_s (by omega) g hg gy gl (br_f hm ⟨hv8, br_t x2 (br_t h0 (nx_emit _ _ _ _ _ H))⟩)
        · unfold wY_receiveNS_38
          refine ny_findOwn_s (by omega) g hg gy gl (br_f hn ⟨hv8, br_f x3 ⟨hv8, br_f x1 ?_⟩⟩)
          by_cases hs0 : s = 0
          · refine br_t hs0 (ny_emit _ _ _ _ _ ?_)
            rw [hs0, h0] at H
            exact H
          · exact br_f hs0 (br_t h0 (ny_emit _ _ _ _ _ H))
      · have hs0 : ¬ s = 0 := fun h => h0 (hsl h)
        have hok : nb_ok s := by
          refine ⟨?_, hs.2⟩
          obtain ⟨j, hj, rfl⟩ := nI_of (x := s) (Int32.not_lt.mpr hs.1)
          have : j ≠ 0 := by
            intro h
            rw [h] at hs0
            exact hs0 rfl
          exact nI_le (a := 1) (by omega) hj
        obtain ⟨e1, fn1, eA1, eS1, eL1, eT1, eP1, eC1, qI1, qD1, fr1, I1, hX, hY⟩ := nj_learn (ms := ms) (fn := fn) (pi := pi) (dr := dr) (qI := qI) (qD := qD) (oP := oP) (rM := rM) (fr := fr) (sn := sn) (t := t) I hok h0 hg gy gl g2
        refine ⟨e1, fn1 + 1, eA1, eS1, eL1, eT1, eP1, eC1, qI1, qD1, nb_ev fr1 fn1 4 t l 0 s, oS, oT, I1, fun post H => ?_, fun post H => ?_⟩
        · unfold wX_receiveNS_33
          exact nx_findOwn_s (by omega) g hg gy gl (br_f hm ⟨hv8, br_t x2 (br_f h0 (hX _ (nx_emit _ _ _ _ _ H)))⟩)
        · exact hY _ (ny_emit _ _ _ _ _ H)
    · have x2 : ¬ oS (nI g).toNatClampNeg = 2 := by rw [gc, g3]; decide
      have x3 : oS (nI g).toNatClampNeg = 3 := by rw [gc, g3]
      refine ⟨e, fn, eA, eS, eL, eT, eP, eC, qI, qD, fr, oS, oT, I, fun post H => ?_, fun post H => ?_⟩
      · unfold wX_receiveNS_33
        refine nx_findOwn_s (by omega) g hg gy gl (br_f hm ⟨hv8, br_f x2 ?_⟩)
        by_cases hs0 : s = 0
        · exact br_t hs0 (nx_dup_n (by omega) (by rw [g3]; decide) H)
        · exact br_f hs0 H
      · unfold wY_receiveNS_38
        exact ny_findOwn_s (by omega) g hg gy gl (br_f hn ⟨hv8, br_t x3 H⟩)
end
theorem i_vc_receiveNS {k : Nat} {u : SX} {v : SY} (I : i_Rel k u v) (hk : k + 4 ≤ 2052) (v1 : Int32) (v2 : Int32) (v3 : Int32) : wpX_receiveNS (fun r u' => wpY_receiveNS (fun r' v' => r' = r ∧ i_Rel (k + 4) u' v') v v1 v2 v3) u v1 v2 v3 := by
  obtain ⟨cn, e, o, r, rt, rx, ms, fn, pi, dr, eA, eS, eL, eT, eP, eC, qI, qD, oA, oS, oT, oP, rA, rM, fr, sn, rfl, rfl, I⟩ := I
  have hR := nb_rel (k := k + 4) (ms := ms) (fn := fn) (pi := pi) (dr := dr) (qI := qI) (qD := qD) (oP := oP) (rM := rM) (fr := fr) (sn := sn) I
  have hb := I.1
  by_cases hv : nb_ok v2
  · by_cases hz1 : nb_oz v1
    · have a0 : ¬ v1 < 0 := Int32.not_lt.mpr hz1.1
      have a1 : ¬ 65535 < v1 := Int32.not_lt.mpr hz1.2
      by_cases hz3 : nb_oz v3
      · have b0 : ¬ v3 < 0 := Int32.not_lt.mpr hz3.1
        have b1 : ¬ 65535 < v3 := Int32.not_lt.mpr hz3.2
        by_cases hq : v1 = 0 → v3 = 0
        · obtain ⟨e1, fn1, eA1, eS1, eL1, eT1, eP1, eC1, qI1, qD1, fr1, oS1, oT1, I1, hX, hY⟩ := nj_ns (ms := ms) (fn := fn) (pi := pi) (dr := dr) (qI := qI) (qD := qD) (oP := oP) (rM := rM) (fr := fr) (sn := sn) (t := v2) (l := v3) I hz1 hq
          unfold wpX_receiveNS
          refine nx_valid_t hv (br_f (by decide) (nx_voz_t hz1 (br_f (by decide) (nx_voz_t hz3 (br_f (by decide) ?_)))))
          have G : ∀ post : Int32 → SX → Prop, wX_receiveNS_33 post v1 v2 v3 (nI cn) rt rx ms (nI e) (nI o) (nI r) fn pi dr eA eS eL eT eP eC qI qD oA oS oT oP rA rM (nb_fp 0 fr) (nb_fp 1 fr) (nb_fp 2 fr) (nb_fp 3 fr) (nb_fp 4 fr) → ((v1 = 0 → ((v3 = 0 → wX_receiveNS_33 post v1 v2 v3 (nI cn) rt rx ms (nI e) (nI o) (nI r) fn pi dr eA eS eL eT eP eC qI qD oA oS oT oP rA rM (nb_fp 0 fr) (nb_fp 1 fr) (nb_fp 2 fr) (nb_fp 3 fr) (nb_fp 4 fr)) ∧ (¬ v3 = 0 → post 0 (nI cn, rt, rx, ms, nI e, nI o, nI r, fn, pi, dr, eA, eS, eL, eT, eP, eC, qI, qD, oA, oS, oT, oP, rA, rM, nb_fp 0 fr, nb_fp 1 fr, nb_fp 2 fr, nb_fp 3 fr, nb_fp 4 fr)))) ∧ (¬ v1 = 0 → wX_receiveNS_33 post v1 v2 v3 (nI cn) rt rx ms (nI e) (nI o) (nI r) fn pi dr eA eS eL eT eP eC qI qD oA oS oT oP rA rM (nb_fp 0 fr) (nb_fp 1 fr) (nb_fp 2 fr) (nb_fp 3 fr) (nb_fp 4 fr))) := fun post H => br_c (fun h => br_t (hq h) H) (fun _ => H)
          refine G _ (hX _ ?_)
          unfold wpY_receiveNS
          refine ny_valid_t hv (br_f (by decide) (br_f a0 (br_f a1 (br_f b0 (br_f b1 ?_)))))
          exact br_c (fun h => br_t (hq h) (hY _ ⟨rfl, nb_rel I1⟩)) (fun _ => hY _ ⟨rfl, nb_rel I1⟩)
        · have c0 : v1 = 0 := Classical.byContradiction fun h => hq (fun h' => absurd h' h)
          have c1 : ¬ v3 = 0 := fun h => hq (fun _ => h)
          unfold wpX_receiveNS
          refine nx_valid_t hv (br_f (by decide) (nx_voz_t hz1 (br_f (by decide) (nx_voz_t hz3 (br_f (by decide) (br_t c0 (br_f c1 ?_)))))))
          unfold wpY_receiveNS
          exact ny_valid_t hv (br_f (by decide) (br_f a0 (br_f a1 (br_f b0 (br_f b1 (br_t c0 (br_f c1 ⟨rfl, hR⟩)))))))
      · unfold wpX_receiveNS
        refine nx_valid_t hv (br_f (by decide) (nx_voz_t hz1 (br_f (by decide) (nx_voz_f hz3 (br_t rfl ?_)))))
        unfold wpY_receiveNS
        refine ny_valid_t hv (br_f (by decide) (br_f a0 (br_f a1 ?_)))
        by_cases b0 : v3 < 0
        · exact br_t b0 ⟨rfl, hR⟩
        · exact br_f b0 (br_t (Int32.not_le.mp fun h => hz3 ⟨Int32.not_lt.mp b0, h⟩) ⟨rfl, hR⟩)
    · unfold wpX_receiveNS
      refine nx_valid_t hv (br_f (by decide) (nx_voz_f hz1 (br_t rfl ?_)))
      unfold wpY_receiveNS
      refine ny_valid_t hv (br_f (by decide) ?_)
      by_cases a0 : v1 < 0
      · exact br_t a0 ⟨rfl, hR⟩
      · exact br_f a0 (br_t (Int32.not_le.mp fun h => hz1 ⟨Int32.not_lt.mp a0, h⟩) ⟨rfl, hR⟩)
  · unfold wpX_receiveNS
    refine nx_valid_f hv (br_t rfl ?_)
    unfold wpY_receiveNS
    exact ny_valid_f hv (br_t rfl ⟨rfl, hR⟩)
end
section
/-! the clock: own addresses -/
section
variable {cn e o r : Nat} {rt rx ms fn pi dr : Int32} {eA eS eL eT eP eC qI qD oA oS oT oP rA rM fr sn : Nat → Int32}
theorem nx_ageT_a {post : SX → Prop} {k : Nat} (hk : k < 8) (h : ¬ oT k - 1 ≤ 0) (H : post (nI cn, rt, rx, ms, nI e, nI o, nI r, fn, pi, dr, eA, eS, eL, eT, eP, eC, qI, qD, oA, oS, upd oT k (oT k - 1), oP, rA, rM, nb_fp 0 fr, nb_fp 1 fr, nb_fp 2 fr, nb_fp 3 fr, nb_fp 4 fr)) : wpX_ageTentative post (nI cn, rt, rx, ms, nI e, nI o, nI r, fn, pi, dr, eA, eS, eL, eT, eP, eC, qI, qD, oA, oS, oT, oP, rA, rM, nb_fp 0 fr, nb_fp 1 fr, nb_fp 2 fr, nb_fp 3 fr, nb_fp 4 fr) (nI k) := by
  have hv : vp_in (nI k) 8 := nb_ix hk (by omega)
  unfold wpX_ageTentative
  rw [nb_cl (by omega)]
  exact ⟨hv, hv, nm_e ⟨hv, br_f (by rw [pk_us]; exact h) H⟩⟩
theorem nx_ageT_b {post : SX → Prop} {k : Nat} (hk : k < 8) (h : oT k - 1 = 0) (hm : ms ≤ oP k) (H : post (nI cn, rt, rx, ms, nI e, nI o, nI r, fn, pi, dr, eA, eS, eL, eT, eP, eC, qI, qD, oA, upd oS k 2, upd (upd oT k (oT k - 1)) k 0, oP, rA, rM, nb_fp 0 fr, nb_fp 1 fr, nb_fp 2 fr, nb_fp 3 fr, nb_fp 4 fr)) : wpX_ageTentative post (nI cn, rt, rx, ms, nI e, nI o, nI r, fn, pi, dr, eA, eS, eL, eT, eP, eC, qI, qD, oA, oS, oT, oP, rA, rM, nb_fp 0 fr, nb_fp 1 fr, nb_fp 2 fr, nb_fp 3 fr, nb_fp 4 fr) (nI k) := by
  have hv : vp_in (nI k) 8 := nb_ix hk (by omega)
  unfold wpX_ageTentative
  rw [nb_cl (by omega)]
  exact ⟨hv, hv, nm_e ⟨hv, br_t (by rw [pk_us, h]; decide) ⟨hv, br_t hm ⟨hv, nm_e ⟨hv, nm_e H⟩⟩⟩⟩⟩
theorem nx_ageT_c {post : SX → Prop} {k : Nat} (hk : k < 8) (h : oT k - 1 = 0) (hm : ¬ ms ≤ oP k) (H : post (nI cn, rt, rx, ms, nI e, nI o, nI r, fn + 1, pi, dr, eA, eS, eL, eT, eP, eC, qI, qD, oA, oS, upd (upd oT k (oT k - 1)) k rx, upd oP k (oP k + 1), rA, rM, nb_fp 0 (nb_ev fr fn 3 (oA k) 0 0 0), nb_fp 1 (nb_ev fr fn 3 (oA k) 0 0 0), nb_fp 2 (nb_ev fr fn 3 (oA k) 0 0 0), nb_fp 3 (nb_ev fr fn 3 (oA k) 0 0 0), nb_fp 4 (nb_ev fr fn 3 (oA k) 0 0 0))) : wpX_ageTentative post (nI cn, rt, rx, ms, nI e, nI o, nI r, fn, pi, dr, eA, eS, eL, eT, eP, eC, qI, qD, oA, oS, oT, oP, rA, rM, nb_fp 0 fr, nb_fp 1 fr, nb_fp 2 fr, nb_fp 3 fr, nb_fp 4 fr) (nI k) := by
  have hv : vp_in (nI k) 8 := nb_ix hk (by omega)
  unfold wpX_ageTentative
  rw [nb_cl (by omega)]
  exact ⟨hv, hv, nm_e ⟨hv, br_t (by rw [pk_us, h]; decide) ⟨hv, br_f hm ⟨hv, nx_emit _ _ _ _ _ ⟨hv, hv, nm_e ⟨hv, nm_e H⟩⟩⟩⟩⟩⟩
theorem nx_own_0 {post : SX → Prop} {k n : Nat} (hk : k < o) (ho : o ≤ 8) (h1 : ¬ oS k = 1) (H : wX_tick_37 post n (nI (k + 1)) (nI cn) rt rx ms (nI e) (nI o) (nI r) fn pi dr eA eS eL eT eP eC qI qD oA oS oT oP rA rM (nb_fp 0 fr) (nb_fp 1 fr) (nb_fp 2 fr) (nb_fp 3 fr) (nb_fp 4 fr)) : wX_tick_37 post (n + 1) (nI k) (nI cn) rt rx ms (nI e) (nI o) (nI r) fn pi dr eA eS eL eT eP eC qI qD oA oS oT oP rA rM (nb_fp 0 fr) (nb_fp 1 fr) (nb_fp 2 fr) (nb_fp 3 fr) (nb_fp 4 fr) := by
  refine br_f (nI_ge hk (by omega)) ⟨nb_ix (by omega) (by omega), br_f ?_ (nm_r (nI_1 k) H)⟩
  rw [nb_cl (by omega)]
  exact h1
theorem ny_own_0 {post : SY → Prop} {k n : Nat} (hk : k < o) (ho : o ≤ 8) (h1 : ¬ oS k = 1) (H : wY_tick_308 post n (nI (k + 1)) (nI cn) rt rx ms (nI e) (nI o) (nI r) fn pi dr eA eS eL eT eP eC qI qD sn oA oS oT oP rA rM fr) : wY_tick_308 post (n + 1) (nI k) (nI cn) rt rx ms (nI e) (nI o) (nI r) fn pi dr eA eS eL eT eP eC qI qD sn oA oS oT oP rA rM fr := by
  refine br_f (nI_ge hk (by omega)) ⟨nb_ix (by omega) (by omega), br_f ?_ (nm_r (nI_1 k) H)⟩
  rw [nb_cl (by omega)]
  exact h1
theorem nx_own_a {post : SX → Prop} {k n : Nat} (hk : k < o) (ho : o ≤ 8) (h1 : oS k = 1) (h : ¬ oT k - 1 ≤ 0) (H : wX_tick_37 post n (nI (k + 1)) (nI cn) rt rx ms (nI e) (nI o) (nI r) fn pi dr eA eS eL eT eP eC qI qD oA oS (upd oT k (oT k - 1)) oP rA rM (nb_fp 0 fr) (nb_fp 1 fr) (nb_fp 2 fr) (nb_fp 3 fr) (nb_fp 4 fr)) : wX_tick_37 post (n + 1) (nI k) (nI cn) rt rx ms (nI e) (nI o) (nI r) fn pi dr eA eS eL eT eP eC qI qD oA oS oT oP rA rM (nb_fp 0 fr) (nb_fp 1 fr) (nb_fp 2 fr) (nb_fp 3 fr) (nb_fp 4 fr) := by
  refine br_f (nI_ge hk (by omega)) ⟨nb_ix (by omega) (by omega), br_t ?_ (nx_ageT_a (by omega) h (nm_r (nI_1 k) H))⟩
  rw [nb_cl (by omega)]
  exact h1
theorem ny_own_a {post : SY → Prop} {k n : Nat} (hk : k < o) (ho : o ≤ 8) (h1 : oS k = 1) (hz : ¬ oT k - 1 = 0) (H : wY_tick_308 post n (nI (k + 1)) (nI cn) rt rx ms (nI e) (nI o) (nI r) fn pi dr eA eS eL eT eP eC qI qD sn oA oS (upd oT k (oT k - 1)) oP rA rM fr) : wY_tick_308 post (n + 1) (nI k) (nI cn) rt rx ms (nI e) (nI o) (nI r) fn pi dr eA eS eL eT eP eC qI qD sn oA oS oT oP rA rM fr := by
  have hv : vp_in (nI k) 8 := nb_ix (by omega) (by omega)
  refine br_f (nI_ge hk (by omega)) ?_
  rw [nb_cl (by omega)]
  exact ⟨hv, br_t h1 ⟨hv, hv, nm_e ⟨hv, br_f (by rw [pk_us]; exact hz) (nm_r (nI_1 k) H)⟩⟩⟩
theorem nx_own_b {post : SX → Prop} {k n : Nat} (hk : k < o) (ho : o ≤ 8) (h1 : oS k = 1) (h : oT k - 1 = 0) (hm : ms ≤ oP k) (H : wX_tick_37 post n (nI (k + 1)) (nI cn) rt rx ms (nI e) (nI o) (nI r) fn pi dr eA eS eL eT eP eC qI qD oA (upd oS k 2) (upd (upd oT k (oT k - 1)) k 0) oP rA rM (nb_fp 0 fr) (nb_fp 1 fr) (nb_fp 2 fr) (nb_fp 3 fr) (nb_fp 4 fr)) : wX_tick_37 post (n + 1) (nI k) (nI cn) rt rx ms (nI e) (nI o) (nI r) fn pi dr eA eS eL eT eP eC qI qD oA oS oT oP rA rM (nb_fp 0 fr) (nb_fp 1 fr) (nb_fp 2 fr) (nb_fp 3 fr) (nb_fp 4 fr) := by
  refine br_f (nI_ge hk (by omega)) ⟨nb_ix (by omega) (by omega), br_t ?_ (nx_ageT_b (by omega) h hm (nm_r (nI_1 k) H))⟩
  rw [nb_cl (by omega)]
  exact h1
theorem ny_own_b {post : SY → Prop} {k n : Nat} (hk : k < o) (ho : o ≤ 8) (h1 : oS k = 1) (h : oT k - 1 = 0) (hm : ms ≤ oP k) (H : wY_tick_308 post n (nI (k + 1)) (nI cn) rt rx ms (nI e) (nI o) (nI r) fn pi dr eA eS eL eT eP eC qI qD sn oA (upd oS k 2) (upd (upd oT k (oT k - 1)) k 0) oP rA rM fr) : wY_tick_308 post (n + 1) (nI k) (nI cn) rt rx ms (nI e) (nI o) (nI r) fn pi dr eA eS eL eT eP eC qI qD sn oA oS oT oP rA rM fr := by
  have hv : vp_in (nI k) 8 := nb_ix (by omega) (by omega)
  refine br_f (nI_ge hk (by omega)) ?_
  rw [nb_cl (by omega)]
  exact ⟨hv, br_t h1 ⟨hv, hv, nm_e ⟨hv, br_t (by rw [pk_us]; exact h) ⟨hv, br_t hm ⟨hv, nm_e ⟨hv, nm_e (nm_r (nI_1 k) H)⟩⟩⟩⟩⟩⟩
theorem nx_own_c {post : SX → Prop} {k n : Nat} (hk : k < o) (ho : o ≤ 8) (h1 : oS k = 1) (h : oT k - 1 = 0) (hm : ¬ ms ≤ oP k) (H : wX_tick_37 post n (nI (k + 1)) (nI cn) rt rx ms (nI e) (nI o) (nI r) (fn + 1) pi dr eA eS eL eT eP eC qI qD oA oS (upd (upd oT k (oT k - 1)) k rx) (upd oP k (oP k + 1)) rA rM (nb_fp 0 (nb_ev fr fn 3 (oA k) 0 0 0)) (nb_fp 1 (nb_ev fr fn 3 (oA k) 0 0 0)) (nb_fp 2 (nb_ev fr fn 3 (oA k) 0 0 0)) (nb_fp 3 (nb_ev fr fn 3 (oA k) 0 0 0)) (nb_fp 4 (nb_ev fr fn 3 (oA k) 0 0 0))) : wX_tick_37 post (n + 1) (nI k) (nI cn) rt rx ms (nI e) (nI o) (nI r) fn pi dr eA eS eL eT eP eC qI qD oA oS oT oP rA rM (nb_fp 0 fr) (nb_fp 1 fr) (nb_fp 2 fr) (nb_fp 3 fr) (nb_fp 4 fr) := by
  refine br_f (nI_ge hk (by omega)) ⟨nb_ix (by omega) (by omega), br_t ?_ (nx_ageT_c (by omega) h hm (nm_r (nI_1 k) H))⟩
  rw [nb_cl (by omega)]
  exact h1
theorem ny_own_c {post : SY → Prop} {k n : Nat} (hk : k < o) (ho : o ≤ 8) (h1 : oS k = 1) (h : oT k - 1 = 0) (hm : ¬ ms ≤ oP k) (H : wY_tick_308 post n (nI (k + 1)) (nI cn) rt rx ms (nI e) (nI o) (nI r) (fn + 1) pi dr eA eS eL eT eP eC qI qD sn oA oS (upd (upd oT k (oT k - 1)) k rx) (upd oP k (oP k + 1)) rA rM (nb_ev fr fn 3 (oA k) 0 0 0)) : wY_tick_308 post (n + 1) (nI k) (nI cn) rt rx ms (nI e) (nI o) (nI r) fn pi dr eA eS eL eT eP eC qI qD sn oA oS oT oP rA rM fr := by
  have hv : vp_in (nI k) 8 := nb_ix (by omega) (by omega)
  refine br_f (nI_ge hk (by omega)) ?_
  rw [nb_cl (by omega)]
  exact ⟨hv, br_t h1 ⟨hv, hv, nm_e ⟨hv, br_t (by rw [pk_us]; exact h) ⟨hv, br_f hm ⟨hv, ny_emit _ _ _ _ _ ⟨hv, hv, nm_e ⟨hv, nm_e (nm_r (nI_1 k) H)⟩⟩⟩⟩⟩⟩⟩
theorem nj_own (ho : o ≤ 8) (hx : 0 < rx) : ∀ d k : Nat, k + d = o → ∀ (fn : Int32) (fr oS oT oP : Nat → Int32), nb_own o oA oS oT → ∃ (fn1 : Int32) (fr1 oS1 oT1 oP1 : Nat → Int32), nb_own o oA oS1 oT1 ∧
    (∀ post : SX → Prop, post (nI cn, rt, rx, ms, nI e, nI o, nI r, fn1, pi, dr, eA, eS, eL, eT, eP, eC, qI, qD, oA, oS1, oT1, oP1, rA, rM, nb_fp 0 fr1, nb_fp 1 fr1, nb_fp 2 fr1, nb_fp 3 fr1, nb_fp 4 fr1) → wX_tick_37 post (d + 1) (nI k) (nI cn) rt rx ms (nI e) (nI o) (nI r) fn pi dr eA eS eL eT eP eC qI qD oA oS oT oP rA rM (nb_fp 0 fr) (nb_fp 1 fr) (nb_fp 2 fr) (nb_fp 3 fr) (nb_fp 4 fr)) ∧
    (∀ post : SY → Prop, post (nI cn, rt, rx, ms, nI e, nI o, nI r, fn1, pi, dr, eA, eS, eL, eT, eP, eC, qI, qD, sn, oA, oS1, oT1, oP1, rA, rM, fr1) → wY_tick_308 post (d + 1) (nI k) (nI cn) rt rx ms (nI e) (nI o) (nI r) fn pi dr eA eS eL eT eP eC qI qD sn oA oS oT oP rA rM fr) := by
  intro d
  induction d with
  | zero =>
    intro k hk fn fr oS oT oP hO
    exact ⟨fn, fr, oS, oT, oP, hO, fun post H => br_t (nI_le (by omega) (by omega)) H, fun post H => br_t (nI_le (by omega) (by omega)) H⟩
  | succ d ih =>
    intro k hk fn fr oS oT oP hO
    have hko : k < o := by omega
    by_cases h1 : oS k = 1
    · have hT : 0 < oT k := by
        rcases (hO k hko).2 with h | h | h
        · exact h.2
        · exact absurd (h.symm.trans h1) (by decide)
        · exact absurd (h.symm.trans h1) (by decide)
      rcases nb_dec hT with ⟨p0, z0, l0⟩ | hz
      · obtain ⟨fn1, fr1, oS1, oT1, oP1, hO1, hX, hY⟩ := ih (k + 1) (by omega) fn fr oS (upd oT k (oT k - 1)) oP (nb_own_up k hO (Or.inl ⟨h1, by rw [pk_us]; exact p0⟩) (fun j hj => ⟨rfl, pk_un hj⟩))
        exact ⟨fn1, fr1, oS1, oT1, oP1, hO1, fun post H => nx_own_a hko ho h1 l0 (hX post H), fun post H => ny_own_a hko ho h1 z0 (hY post H)⟩
      · by_cases hm : ms ≤ oP k
        · obtain ⟨fn1, fr1, oS1, oT1, oP1, hO1, hX, hY⟩ := ih (k + 1) (by omega) fn fr (upd oS k 2) (upd (upd oT k (oT k - 1)) k 0) oP (nb_own_up k hO (Or.inr (Or.inl pk_us)) (fun j hj => ⟨pk_un hj, (pk_un hj).trans (pk_un hj)⟩))
          exact ⟨fn1, fr1, oS1, oT1, oP1, hO1, fun post H => nx_own_b hko ho h1 hz hm (hX post H), fun post H => ny_own_b hko ho h1 hz hm (hY post H)⟩
        · obtain ⟨fn1, fr1, oS1, oT1, oP1, hO1, hX, hY⟩ := ih (k + 1) (by omega) (fn + 1) (nb_ev fr fn 3 (oA k) 0 0 0) oS (upd (upd oT k (oT k - 1)) k rx) (upd oP k (oP k + 1)) (nb_own_up k hO (Or.inl ⟨h1, by rw [pk_us]; exact hx⟩) (fun j hj => ⟨rfl, (pk_un hj).trans (pk_un hj)⟩))
          exact ⟨fn1, fr1, oS1, oT1, oP1, hO1, fun post H => nx_own_c hko ho h1 hz hm (hX post H), fun post H => ny_own_c hko ho h1 hz hm (hY post H)⟩
    · obtain ⟨fn1, fr1, oS1, oT1, oP1, hO1, hX, hY⟩ := ih (k + 1) (by omega) fn fr oS oT oP hO
      exact ⟨fn1, fr1, oS1, oT1, oP1, hO1, fun post H => nx_own_0 hko ho h1 (hX post H), fun post H => ny_own_0 hko ho h1 (hY post H)⟩
end
end
section
/-! the clock: one entry -/
section
variable {cn e o r : Nat} {rt rx ms fn pi dr : Int32} {eA eS eL eT eP eC qI qD oA oS oT oP rA rM fr sn : Nat → Int32}
theorem nx_solicit_1 {post : SX → Prop} {p : Nat} (hp : p < 16) (h1 : eS p = 1) (H : post (nI cn, rt, rx, ms, nI e, nI o, nI r, fn + 1, pi, dr, eA, eS, eL, upd eT p rx, upd eP p (eP p + 1), eC, qI, qD, oA, oS, oT, oP, rA, rM, nb_fp 0 (nb_ev fr fn 1 (eA p) 0 0 0), nb_fp 1 (nb_ev fr fn 1 (eA p) 0 0 0), nb_fp 2 (nb_ev fr fn 1 (eA p) 0 0 0), nb_fp 3 (nb_ev fr fn 1 (eA p) 0 0 0), nb_fp 4 (nb_ev fr fn 1 (eA p) 0 0 0))) : wpX_solicit post (nI cn, rt, rx, ms, nI e, nI o, nI r, fn, pi, dr, eA, eS, eL, eT, eP, eC, qI, qD, oA, oS, oT, oP, rA, rM, nb_fp 0 fr, nb_fp 1 fr, nb_fp 2 fr, nb_fp 3 fr, nb_fp 4 fr) (nI p) := by
  have hv : vp_in (nI p) 16 := nb_ix hp (by omega)
  unfold wpX_solicit
  rw [nb_cl (by omega)]
  refine ⟨hv, br_t h1 ⟨hv, nx_emit _ _ _ _ _ ?_⟩⟩
  dsimp only
  unfold wX_solicit_51
  rw [nb_cl (by omega)]
  exact ⟨hv, hv, nm_e ⟨hv, nm_e H⟩⟩
theorem nx_solicit_n {post : SX → Prop} {p : Nat} (hp : p < 16) (h1 : ¬ eS p = 1) (H : post (nI cn, rt, rx, ms, nI e, nI o, nI r, fn + 1, pi, dr, eA, eS, eL, upd eT p rx, upd eP p (eP p + 1), eC, qI, qD, oA, oS, oT, oP, rA, rM, nb_fp 0 (nb_ev fr fn 2 (eA p) (eL p) 0 (eA p)), nb_fp 1 (nb_ev fr fn 2 (eA p) (eL p) 0 (eA p)), nb_fp 2 (nb_ev fr fn 2 (eA p) (eL p) 0 (eA p)), nb_fp 3 (nb_ev fr fn 2 (eA p) (eL p) 0 (eA p)), nb_fp 4 (nb_ev fr fn 2 (eA p) (eL p) 0 (eA p)))) : wpX_solicit post (nI cn, rt, rx, ms, nI e, nI o, nI r, fn, pi, dr, eA, eS, eL, eT, eP, eC, qI, qD, oA, oS, oT, oP, rA, rM, nb_fp 0 fr, nb_fp 1 fr, nb_fp 2 fr, nb_fp 3 fr, nb_fp 4 fr) (nI p) := by
  have hv : vp_in (nI p) 16 := nb_ix hp (by omega)
  unfold wpX_solicit
  rw [nb_cl (by omega)]
  refine ⟨hv, br_f h1 ⟨hv, hv, hv, nx_emit _ _ _ _ _ ?_⟩⟩
  dsimp only
  unfold wX_solicit_51
  rw [nb_cl (by omega)]
  exact ⟨hv, hv, nm_e ⟨hv, nm_e H⟩⟩
theorem nx_age_3 {post : Int32 → SX → Prop} {p : Nat} (hp : p < 16) (h3 : eS p = 3) (H : post 1 (nI cn, rt, rx, ms, nI e, nI o, nI r, fn, pi, dr, eA, eS, eL, eT, eP, eC, qI, qD, oA, oS, oT, oP, rA, rM, nb_fp 0 fr, nb_fp 1 fr, nb_fp 2 fr, nb_fp 3 fr, nb_fp 4 fr)) : wpX_ageEntry post (nI cn, rt, rx, ms, nI e, nI o, nI r, fn, pi, dr, eA, eS, eL, eT, eP, eC, qI, qD, oA, oS, oT, oP, rA, rM, nb_fp 0 fr, nb_fp 1 fr, nb_fp 2 fr, nb_fp 3 fr, nb_fp 4 fr) (nI p) := by
  have hv : vp_in (nI p) 16 := nb_ix hp (by omega)
  unfold wpX_ageEntry
  rw [nb_cl (by omega)]
  exact ⟨hv, br_t h3 H⟩
theorem nx_age_t {post : Int32 → SX → Prop} {p : Nat} (hp : p < 16) (h3 : ¬ eS p = 3) (ht : ¬ eT p - 1 ≤ 0) (H : post 1 (nI cn, rt, rx, ms, nI e, nI o, nI r, fn, pi, dr, eA, eS, eL, upd eT p (eT p - 1), eP, eC, qI, qD, oA, oS, oT, oP, rA, rM, nb_fp 0 fr, nb_fp 1 fr, nb_fp 2 fr, nb_fp 3 fr, nb_fp 4 fr)) : wpX_ageEntry post (nI cn, rt, rx, ms, nI e, nI o, nI r, fn, pi, dr, eA, eS, eL, eT, eP, eC, qI, qD, oA, oS, oT, oP, rA, rM, nb_fp 0 fr, nb_fp 1 fr, nb_fp 2 fr, nb_fp 3 fr, nb_fp 4 fr) (nI p) := by
  have hv : vp_in (nI p) 16 := nb_ix hp (by omega)
  unfold wpX_ageEntry
  rw [nb_cl (by omega)]
  exact ⟨hv, br_f h3 ⟨hv, hv, nm_e ⟨hv, br_f (by rw [pk_us]; exact ht) H⟩⟩⟩
theorem nx_age_2 {post : Int32 → SX → Prop} {p : Nat} (hp : p < 16) (h2 : eS p = 2) (ht : eT p - 1 = 0) (H : post 1 (nI cn, rt, rx, ms, nI e, nI o, nI r, fn, pi, dr, eA, upd eS p 3, eL, upd (upd eT p (eT p - 1)) p 0, upd eP p 0, eC, qI, qD, oA, oS, oT, oP, rA, rM, nb_fp 0 fr, nb_fp 1 fr, nb_fp 2 fr, nb_fp 3 fr, nb_fp 4 fr)) : wpX_ageEntry post (nI cn, rt, rx, ms, nI e, nI o, nI r, fn, pi, dr, eA, eS, eL, eT, eP, eC, qI, qD, oA, oS, oT, oP, rA, rM, nb_fp 0 fr, nb_fp 1 fr, nb_fp 2 fr, nb_fp 3 fr, nb_fp 4 fr) (nI p) := by
  have hv : vp_in (nI p) 16 := nb_ix hp (by omega)
  unfold wpX_ageEntry
  rw [nb_cl (by omega)]
  exact ⟨hv, br_f (by rw [h2]; decide) ⟨hv, hv, nm_e ⟨hv, br_t (by rw [pk_us, ht]; decide) ⟨hv, br_t h2 (nx_enterStale hp H)⟩⟩⟩⟩
theorem nx_age_4 {post : Int32 → SX → Prop} {p : Nat} (hp : p < 16) (h4 : eS p = 4) (ht : eT p - 1 = 0) (H : post 1 (nI cn, rt, rx, ms, nI e, nI o, nI r, fn + 1, pi, dr, eA, upd eS p 5, eL, upd (upd eT p (eT p - 1)) p rx, upd eP p 1, eC, qI, qD, oA, oS, oT, oP, rA, rM, nb_fp 0 (nb_ev fr fn 2 (eA p) (eL p) 0 (eA p)), nb_fp 1 (nb_ev fr fn 2 (eA p) (eL p) 0 (eA p)), nb_fp 2 (nb_ev fr fn 2 (eA p) (eL p) 0 (eA p)), nb_fp 3 (nb_ev fr fn 2 (eA p) (eL p) 0 (eA p)), nb_fp 4 (nb_ev fr fn 2 (eA p) (eL p) 0 (eA p)))) : wpX_ageEntry post (nI cn, rt, rx, ms, nI e, nI o, nI r, fn, pi, dr, eA, eS, eL, eT, eP, eC, qI, qD, oA, oS, oT, oP, rA, rM, nb_fp 0 fr, nb_fp 1 fr, nb_fp 2 fr, nb_fp 3 fr, nb_fp 4 fr) (nI p) := by
  have hv : vp_in (nI p) 16 := nb_ix hp (by omega)
  unfold wpX_ageEntry
  rw [nb_cl (by omega)]
  refine ⟨hv, br_f (by rw [h4]; decide) ⟨hv, hv, nm_e ⟨hv, br_t (by rw [pk_us, ht]; decide) ⟨hv, br_f (by rw [h4]; decide) ⟨hv, br_t h4 ⟨hv, nm_e ⟨hv, nm_e (nx_solicit_n hp (by rw [pk_us]; decide) ?_)⟩⟩⟩⟩⟩⟩⟩
  rw [pk_us, nb_uu eP]
  exact H
theorem nx_age_s1 {post : Int32 → SX → Prop} {p : Nat} (hp : p < 16) (h1 : eS p = 1) (ht : eT p - 1 = 0) (hm : eP p < ms) (H : post 1 (nI cn, rt, rx, ms, nI e, nI o, nI r, fn + 1, pi, dr, eA, eS, eL, upd (upd eT p (eT p - 1)) p rx, upd eP p (eP p + 1), eC, qI, qD, oA, oS, oT, oP, rA, rM, nb_fp 0 (nb_ev fr fn 1 (eA p) 0 0 0), nb_fp 1 (nb_ev fr fn 1 (eA p) 0 0 0), nb_fp 2 (nb_ev fr fn 1 (eA p) 0 0 0), nb_fp 3 (nb_ev fr fn 1 (eA p) 0 0 0), nb_fp 4 (nb_ev fr fn 1 (eA p) 0 0 0))) : wpX_ageEntry post (nI cn, rt, rx, ms, nI e, nI o, nI r, fn, pi, dr, eA, eS, eL, eT, eP, eC, qI, qD, oA, oS, oT, oP, rA, rM, nb_fp 0 fr, nb_fp 1 fr, nb_fp 2 fr, nb_fp 3 fr, nb_fp 4 fr) (nI p) := by
  have hv : vp_in (nI p) 16 := nb_ix hp (by omega)
  unfold wpX_ageEntry
  rw [nb_cl (by omega)]
  exact ⟨hv, br_f (by rw [h1]; decide) ⟨hv, hv, nm_e ⟨hv, br_t (by rw [pk_us, ht]; decide) ⟨hv, br_f (by rw [h1]; decide) ⟨hv, br_f (by rw [h1]; decide) ⟨hv, br_t hm (nx_solicit_1 hp h1 H)⟩⟩⟩⟩⟩⟩
theorem nx_age_s5 {post : Int32 → SX → Prop} {p : Nat} (hp : p < 16) (h5 : eS p = 5) (ht : eT p - 1 = 0) (hm : eP p < ms) (H : post 1 (nI cn, rt, rx, ms, nI e, nI o, nI r, fn + 1, pi, dr, eA, eS, eL, upd (upd eT p (eT p - 1)) p rx, upd eP p (eP p + 1), eC, qI, qD, oA, oS, oT, oP, rA, rM, nb_fp 0 (nb_ev fr fn 2 (eA p) (eL p) 0 (eA p)), nb_fp 1 (nb_ev fr fn 2 (eA p) (eL p) 0 (eA p)), nb_fp 2 (nb_ev fr fn 2 (eA p) (eL p) 0 (eA p)), nb_fp 3 (nb_ev fr fn 2 (eA p) (eL p) 0 (eA p)), nb_fp 4 (nb_ev fr fn 2 (eA p) (eL p) 0 (eA p)))) : wpX_ageEntry post (nI cn, rt, rx, ms, nI e, nI o, nI r, fn, pi, dr, eA, eS, eL, eT, eP, eC, qI, qD, oA, oS, oT, oP, rA, rM, nb_fp 0 fr, nb_fp 1 fr, nb_fp 2 fr, nb_fp 3 fr, nb_fp 4 fr) (nI p) := by
  have hv : vp_in (nI p) 16 := nb_ix hp (by omega)
  unfold wpX_ageEntry
  rw [nb_cl (by omega)]
  exact ⟨hv, br_f (by rw [h5]; decide) ⟨hv, hv, nm_e ⟨hv, br_t (by rw [pk_us, ht]; decide) ⟨hv, br_f (by rw [h5]; decide) ⟨hv, br_f (by rw [h5]; decide) ⟨hv, br_t hm (nx_solicit_n hp (by rw [h5]; decide) H)⟩⟩⟩⟩⟩⟩
theorem nx_age_fn {post : Int32 → SX → Prop} {p m : Nat} (hm16 : m < 16) (hp : p ≤ m) (hr : r ≤ 4) (h15 : eS p = 1 ∨ eS p = 5) (ht : eT p - 1 = 0) (hm : ¬ eP p < ms) (hn : ∀ j, j < r → ¬ rA j = eA p) (H : post 0 (nI cn, rt, rx, ms, nI m, nI o, nI r, fn, pi, dr + eC p, nb_sh p m eA, nb_sh p m eS, nb_sh p m eL, nb_sh p m (upd eT p (eT p - 1)), nb_sh p m eP, nb_sh p m eC, nb_sq p m qI, nb_sq p m qD, oA, oS, oT, oP, rA, rM, nb_fp 0 fr, nb_fp 1 fr, nb_fp 2 fr, nb_fp 3 fr, nb_fp 4 fr)) : wpX_ageEntry post (nI cn, rt, rx, ms, nI (m + 1), nI o, nI r, fn, pi, dr, eA, eS, eL, eT, eP, eC, qI, qD, oA, oS, oT, oP, rA, rM, nb_fp 0 fr, nb_fp 1 fr, nb_fp 2 fr, nb_fp 3 fr, nb_fp 4 fr) (nI p) := by
  have h3 : ¬ eS p = 3 := by rcases h15 with h | h <;> rw [h] <;> decide
  have h2 : ¬ eS p = 2 := by rcases h15 with h | h <;> rw [h] <;> decide
  have h4 : ¬ eS p = 4 := by rcases h15 with h | h <;> rw [h] <;> decide
  have hv : vp_in (nI p) 16 := nb_ix (by omega) (by omega)
  unfold wpX_ageEntry
  rw [nb_cl (by omega)]
  exact ⟨hv, br_f h3 ⟨hv, hv, nm_e ⟨hv, br_t (by rw [pk_us, ht]; decide) ⟨hv, br_f h2 ⟨hv, br_f h4 ⟨hv, br_f hm (nx_fail_n hm16 hp hr hn H)⟩⟩⟩⟩⟩⟩
theorem nx_age_fs {post : Int32 → SX → Prop} {p m : Nat} (hm16 : m < 16) (hp : p ≤ m) (hr : r ≤ 4) (h15 : eS p = 1 ∨ eS p = 5) (ht : eT p - 1 = 0) (hm : ¬ eP p < ms) (g : Nat) (hg : g < r) (hy : rA g = eA p) (hn : ∀ j, j < g → ¬ rA j = eA p) (H : post 0 (nI cn, rt, rx, ms, nI m, nI o, nI r, fn, pi, dr + eC p, nb_sh p m eA, nb_sh p m eS, nb_sh p m eL, nb_sh p m (upd eT p (eT p - 1)), nb_sh p m eP, nb_sh p m eC, nb_sq p m qI, nb_sq p m qD, oA, oS, oT, oP, rA, upd rM g 1, nb_fp 0 fr, nb_fp 1 fr, nb_fp 2 fr, nb_fp 3 fr, nb_fp 4 fr)) : wpX_ageEntry post (nI cn, rt, rx, ms, nI (m + 1), nI o, nI r, fn, pi, dr, eA, eS, eL, eT, eP, eC, qI, qD, oA, oS, oT, oP, rA, rM, nb_fp 0 fr, nb_fp 1 fr, nb_fp 2 fr, nb_fp 3 fr, nb_fp 4 fr) (nI p) := by
  have h3 : ¬ eS p = 3 := by rcases h15 with h | h <;> rw [h] <;> decide
  have h2 : ¬ eS p = 2 := by rcases h15 with h | h <;> rw [h] <;> decide
  have h4 : ¬ eS p = 4 := by rcases h15 with h | h <;> rw [h] <;> decide
  have hv : vp_in (nI p) 16 := nb_ix (by omega) (by omega)
  unfold wpX_ageEntry
  rw [nb_cl (by omega)]
  exact ⟨hv, br_f h3 ⟨hv, hv, nm_e ⟨hv, br_t (by rw [pk_us, ht]; decide) ⟨hv, br_f h2 ⟨hv, br_f h4 ⟨hv, br_f hm (nx_fail_s hm16 hp hr g hg hy hn H)⟩⟩⟩⟩⟩⟩
theorem ny_t_3 {post : SY → Prop} {p s n nn : Nat} (hs : s < nn) (hn16 : nn ≤ 16) (hpe : p < e) (he : e ≤ 16) (hy : eA p = sn s) (hl : ∀ j, j < p → ¬ eA j = sn s) (h3 : eS p = 3) (H : wY_tick_32 post (nI nn) n (nI (s + 1)) (nI cn) rt rx ms (nI e) (nI o) (nI r) fn pi dr eA eS eL eT eP eC qI qD sn oA oS oT oP rA rM fr) : wY_tick_32 post (nI nn) (n + 1) (nI s) (nI cn) rt rx ms (nI e) (nI o) (nI r) fn pi dr eA eS eL eT eP eC qI qD sn oA oS oT oP rA rM fr := by
  have hv : vp_in (nI p) 16 := nb_ix (by omega) (by omega)
  refine br_f (nI_ge hs (by omega)) ⟨nb_ix (by omega) (by omega), ?_⟩
  rw [nb_cl (i := s) (by omega)]
  refine ny_find_s he p hpe hy hl (br_t (nb_n0 (by omega)) ⟨hv, ?_⟩)
  rw [nb_cl (i := p) (by omega)]
  refine nm_e ?_
  exact br_t h3 (nm_r (nI_1 s) H)
theorem ny_t_t {post : SY → Prop} {p s n nn : Nat} (hs : s < nn) (hn16 : nn ≤ 16) (hpe : p < e) (he : e ≤ 16) (hy : eA p = sn s) (hl : ∀ j, j < p → ¬ eA j = sn s) (h3 : ¬ eS p = 3) (ht : ¬ eT p - 1 = 0) (H : wY_tick_32 post (nI nn) n (nI (s + 1)) (nI cn) rt rx ms (nI e) (nI o) (nI r) fn pi dr eA eS eL (upd eT p (eT p - 1)) eP eC qI qD sn oA oS oT oP rA rM fr) : wY_tick_32 post (nI nn) (n + 1) (nI s) (nI cn) rt rx ms (nI e) (nI o) (nI r) fn pi dr eA eS eL eT eP eC qI qD sn oA oS oT oP rA rM fr := by
  have hv : vp_in (nI p) 16 := nb_ix (by omega) (by omega)
  refine br_f (nI_ge hs (by omega)) ⟨nb_ix (by omega) (by omega), ?_⟩
  rw [nb_cl (i := s) (by omega)]
  refine ny_find_s he p hpe hy hl (br_t (nb_n0 (by omega)) ⟨hv, ?_⟩)
  rw [nb_cl (i := p) (by omega)]
  refine nm_e ?_
  exact br_f h3 ⟨hv, hv, nm_e ⟨hv, br_f (by rw [pk_us]; exact ht) (nm_r (nI_1 s) H)⟩⟩
theorem ny_t_2 {post : SY → Prop} {p s n nn : Nat} (hs : s < nn) (hn16 : nn ≤ 16) (hpe : p < e) (he : e ≤ 16) (hy : eA p = sn s) (hl : ∀ j, j < p → ¬ eA j = sn s) (h2 : eS p = 2) (ht : eT p - 1 = 0) (H : wY_tick_32 post (nI nn) n (nI (s + 1)) (nI cn) rt rx ms (nI e) (nI o) (nI r) fn pi dr eA (upd eS p 3) eL (upd (upd eT p (eT p - 1)) p 0) (upd eP p 0) eC qI qD sn oA oS oT oP rA rM fr) : wY_tick_32 post (nI nn) (n + 1) (nI s) (nI cn) rt rx ms (nI e) (nI o) (nI r) fn pi dr eA eS eL eT eP eC qI qD sn oA oS oT oP rA rM fr := by
  have hv : vp_in (nI p) 16 := nb_ix (by omega) (by omega)
  refine br_f (nI_ge hs (by omega)) ⟨nb_ix (by omega) (by omega), ?_⟩
  rw [nb_cl (i := s) (by omega)]
  refine ny_find_s he p hpe hy hl (br_t (nb_n0 (by omega)) ⟨hv, ?_⟩)
  rw [nb_cl (i := p) (by omega)]
  refine nm_e ?_
  exact br_f (by rw [h2]; decide) ⟨hv, hv, nm_e ⟨hv, br_t (by rw [pk_us]; exact ht) (br_f (by rw [h2]; decide) (br_t h2 (ny_enterStale (by omega) (nm_r (nI_1 s) H))))⟩⟩
theorem ny_t_4 {post : SY → Prop} {p s n nn : Nat} (hs : s < nn) (hn16 : nn ≤ 16) (hpe : p < e) (he : e ≤ 16) (hy : eA p = sn s) (hl : ∀ j, j < p → ¬ eA j = sn s) (h4 : eS p = 4) (ht : eT p - 1 = 0) (H : wY_tick_32 post (nI nn) n (nI (s + 1)) (nI cn) rt rx ms (nI e) (nI o) (nI r) (fn + 1) pi dr eA (upd eS p 5) eL (upd (upd eT p (eT p - 1)) p rx) (upd eP p 1) eC qI qD sn oA oS oT oP rA rM (nb_ev fr fn 2 (eA p) (eL p) 0 (eA p))) : wY_tick_32 post (nI nn) (n + 1) (nI s) (nI cn) rt rx ms (nI e) (nI o) (nI r) fn pi dr eA eS eL eT eP eC qI qD sn oA oS oT oP rA rM fr := by
  have hv : vp_in (nI p) 16 := nb_ix (by omega) (by omega)
  refine br_f (nI_ge hs (by omega)) ⟨nb_ix (by omega) (by omega), ?_⟩
  rw [nb_cl (i := s) (by omega)]
  refine ny_find_s he p hpe hy hl (br_t (nb_n0 (by omega)) ⟨hv, ?_⟩)
  rw [nb_cl (i := p) (by omega)]
  refine nm_e ?_
  exact br_f (by rw [h4]; decide) ⟨hv, hv, nm_e ⟨hv, br_t (by rw [pk_us]; exact ht) (br_f (by rw [h4]; decide) (br_f (by rw [h4]; decide) (br_t h4 ⟨hv, nm_e ⟨hv, nm_e ⟨hv, nm_e ⟨hv, hv, hv, ny_emit _ _ _ _ _ (nm_r (nI_1 s) H)⟩⟩⟩⟩)))⟩⟩
theorem ny_t_s1 {post : SY → Prop} {p s n nn : Nat} (hs : s < nn) (hn16 : nn ≤ 16) (hpe : p < e) (he : e ≤ 16) (hy : eA p = sn s) (hl : ∀ j, j < p → ¬ eA j = sn s) (h1 : eS p = 1) (ht : eT p - 1 = 0) (hm : ¬ ms ≤ eP p) (H : wY_tick_32 post (nI nn) n (nI (s + 1)) (nI cn) rt rx ms (nI e) (nI o) (nI r) (fn + 1) pi dr eA eS eL (upd (upd eT p (eT p - 1)) p rx) (upd eP p (eP p + 1)) eC qI qD sn oA oS oT oP rA rM (nb_ev fr fn 1 (eA p) 0 0 0)) : wY_tick_32 post (nI nn) (n + 1) (nI s) (nI cn) rt rx ms (nI e) (nI o) (nI r) fn pi dr eA eS eL eT eP eC qI qD sn oA oS oT oP rA rM fr := by
  have hv : vp_in (nI p) 16 := nb_ix (by omega) (by omega)
  refine br_f (nI_ge hs (by omega)) ⟨nb_ix (by omega) (by omega), ?_⟩
  rw [nb_cl (i := s) (by omega)]
  refine ny_find_s he p hpe hy hl (br_t (nb_n0 (by omega)) ⟨hv, ?_⟩)
  rw [nb_cl (i := p) (by omega)]
  refine nm_e ?_
  exact br_f (by rw [h1]; decide) ⟨hv, hv, nm_e ⟨hv, br_t (by rw [pk_us]; exact ht) (br_t h1 ⟨hv, br_f hm ⟨hv, ny_emit _ _ _ _ _ ⟨hv, hv, nm_e ⟨hv, nm_e (nm_r (nI_1 s) H)⟩⟩⟩⟩)⟩⟩
theorem ny_t_s5 {post : SY → Prop} {p s n nn : Nat} (hs : s < nn) (hn16 : nn ≤ 16) (hpe : p < e) (he : e ≤ 16) (hy : eA p = sn s) (hl : ∀ j, j < p → ¬ eA j = sn s) (h5 : eS p = 5) (ht : eT p - 1 = 0) (hm : ¬ ms ≤ eP p) (H : wY_tick_32 post (nI nn) n (nI (s + 1)) (nI cn) rt rx ms (nI e) (nI o) (nI r) (fn + 1) pi dr eA eS eL (upd (upd eT p (eT p - 1)) p rx) (upd eP p (eP p + 1)) eC qI qD sn oA oS oT oP rA rM (nb_ev fr fn 2 (eA p) (eL p) 0 (eA p))) : wY_tick_32 post (nI nn) (n + 1) (nI s) (nI cn) rt rx ms (nI e) (nI o) (nI r) fn pi dr eA eS eL eT eP eC qI qD sn oA oS oT oP rA rM fr := by
  have hv : vp_in (nI p) 16 := nb_ix (by omega) (by omega)
  refine br_f (nI_ge hs (by omega)) ⟨nb_ix (by omega) (by omega), ?_⟩
  rw [nb_cl (i := s) (by omega)]
  refine ny_find_s he p hpe hy hl (br_t (nb_n0 (by omega)) ⟨hv, ?_⟩)
  rw [nb_cl (i := p) (by omega)]
  refine nm_e ?_
  exact br_f (by rw [h5]; decide) ⟨hv, hv, nm_e ⟨hv, br_t (by rw [pk_us]; exact ht) (br_f (by rw [h5]; decide) (br_f (by rw [h5]; decide) (br_f (by rw [h5]; decide) (br_t h5 ⟨hv, br_f hm ⟨hv, hv, hv, ny_emit _ _ _ _ _ ⟨hv, hv, nm_e ⟨hv, nm_e (nm_r (nI_1 s) H)⟩⟩⟩⟩))))⟩⟩
theorem ny_t_fn1 {post : SY → Prop} {p s n nn : Nat} (hs : s < nn) (hn16 : nn ≤ 16) {m : Nat} (hp : p ≤ m) (hm16 : m < 16) (hr : r ≤ 4) (hy : eA p = sn s) (hl : ∀ j, j < p → ¬ eA j = sn s) (h1 : eS p = 1) (ht : eT p - 1 = 0) (hm : ms ≤ eP p) (hN : ∀ j, j < r → ¬ rA j = eA p) (H : wY_tick_32 post (nI nn) n (nI (s + 1)) (nI cn) rt rx ms (nI m) (nI o) (nI r) fn pi (dr + eC p) (nb_sh p m eA) (nb_sh p m eS) (nb_sh p m eL) (nb_sh p m (upd eT p (eT p - 1))) (nb_sh p m eP) (nb_sh p m eC) (nb_sq p m qI) (nb_sq p m qD) sn oA oS oT oP rA rM fr) : wY_tick_32 post (nI nn) (n + 1) (nI s) (nI cn) rt rx ms (nI (m + 1)) (nI o) (nI r) fn pi dr eA eS eL eT eP eC qI qD sn oA oS oT oP rA rM fr := by
  have hv : vp_in (nI p) 16 := nb_ix (by omega) (by omega)
  refine br_f (nI_ge hs (by omega)) ⟨nb_ix (by omega) (by omega), ?_⟩
  rw [nb_cl (i := s) (by omega)]
  refine ny_find_s (e := m + 1) (by omega) p (by omega) hy hl (br_t (nb_n0 (by omega)) ⟨hv, ?_⟩)
  rw [nb_cl (i := p) (by omega)]
  refine nm_e ?_
  exact br_f (by rw [h1]; decide) ⟨hv, hv, nm_e ⟨hv, br_t (by rw [pk_us]; exact ht) (br_t h1 ⟨hv, br_t hm (ny_fail_n hm16 hp hr hN (nm_r (nI_1 s) H))⟩)⟩⟩
theorem ny_t_fs1 {post : SY → Prop} {p s n nn : Nat} (hs : s < nn) (hn16 : nn ≤ 16) {m : Nat} (hp : p ≤ m) (hm16 : m < 16) (hr : r ≤ 4) (hy : eA p = sn s) (hl : ∀ j, j < p → ¬ eA j = sn s) (h1 : eS p = 1) (ht : eT p - 1 = 0) (hm : ms ≤ eP p) (g : Nat) (hg : g < r) (gy : rA g = eA p) (hN : ∀ j, j < g → ¬ rA j = eA p) (H : wY_tick_32 post (nI nn) n (nI (s + 1)) (nI cn) rt rx ms (nI m) (nI o) (nI r) fn pi (dr + eC p) (nb_sh p m eA) (nb_sh p m eS) (nb_sh p m eL) (nb_sh p m (upd eT p (eT p - 1))) (nb_sh p m eP) (nb_sh p m eC) (nb_sq p m qI) (nb_sq p m qD) sn oA oS oT oP rA (upd rM g 1) fr) : wY_tick_32 post (nI nn) (n + 1) (nI s) (nI cn) rt rx ms (nI (m + 1)) (nI o) (nI r) fn pi dr eA eS eL eT eP eC qI qD sn oA oS oT oP rA rM fr := by
  have hv : vp_in (nI p) 16 := nb_ix (by omega) (by omega)
  refine br_f (nI_ge hs (by omega)) ⟨nb_ix (by omega) (by omega), ?_⟩
  rw [nb_cl (i := s) (by omega)]
  refine ny_find_s (e := m + 1) (by omega) p (by omega) hy hl (br_t (nb_n0 (by omega)) ⟨hv, ?_⟩)
  rw [nb_cl (i := p) (by omega)]
  refine nm_e ?_
  exact br_f (by rw [h1]; decide) ⟨hv, hv, nm_e ⟨hv, br_t (by rw [pk_us]; exact ht) (br_t h1 ⟨hv, br_t hm (ny_fail_s hm16 hp hr g hg gy hN (nm_r (nI_1 s) H))⟩)⟩⟩
theorem ny_t_fn5 {post : SY → Prop} {p s n nn : Nat} (hs : s < nn) (hn16 : nn ≤ 16) {m : Nat} (hp : p ≤ m) (hm16 : m < 16) (hr : r ≤ 4) (hy : eA p = sn s) (hl : ∀ j, j < p → ¬ eA j = sn s) (h5 : eS p = 5) (ht : eT p - 1 = 0) (hm : ms ≤ eP p) (hN : ∀ j, j < r → ¬ rA j = eA p) (H : wY_tick_32 post (nI nn) n (nI (s + 1)) (nI cn) rt rx ms (nI m) (nI o) (nI r) fn pi (dr + eC p) (nb_sh p m eA) (nb_sh p m eS) (nb_sh p m eL) (nb_sh p m (upd eT p (eT p - 1))) (nb_sh p m eP) (nb_sh p m eC) (nb_sq p m qI) (nb_sq p m qD) sn oA oS oT oP rA rM fr) : wY_tick_32 post (nI nn) (n + 1) (nI s) (nI cn) rt rx ms (nI (m + 1)) (nI o) (nI r) fn pi dr eA eS eL eT eP eC qI qD sn oA oS oT oP rA rM fr := by
  have hv : vp_in (nI p) 16 := nb_ix (by omega) (by omega)
  refine br_f (nI_ge hs (by omega)) ⟨nb_ix (by omega) (by omega), ?_⟩
  rw [nb_cl (i := s) (by omega)]
  refine ny_find_s (e := m + 1) (by omega) p (by omega) hy hl (br_t (nb_n0 (by omega)) ⟨hv, ?_⟩)
  rw [nb_cl (i := p) (by omega)]
  refine nm_e ?_
  exact br_f (by rw [h5]; decide) ⟨hv, hv, nm_e ⟨hv, br_t (by rw [pk_us]; exact ht) (br_f (by rw [h5]; decide) (br_f (by rw [h5]; decide) (br_f (by rw [h5]; decide) (br_t h5 ⟨hv, br_t hm (ny_fail_n hm16 hp hr hN (nm_r (nI_1 s) H))⟩))))⟩⟩
theorem ny_t_fs5 {post : SY → Prop} {p s n nn : Nat} (hs : s < nn) (hn16 : nn ≤ 16) {m : Nat} (hp : p ≤ m) (hm16 : m < 16) (hr : r ≤ 4) (hy : eA p = sn s) (hl : ∀ j, j < p → ¬ eA j = sn s) (h5 : eS p = 5) (ht : eT p - 1 = 0) (hm : ms ≤ eP p) (g : Nat) (hg : g < r) (gy : rA g = eA p) (hN : ∀ j, j < g → ¬ rA j = eA p) (H : wY_tick_32 post (nI nn) n (nI (s + 1)) (nI cn) rt rx ms (nI m) (nI o) (nI r) fn pi (dr + eC p) (nb_sh p m eA) (nb_sh p m eS) (nb_sh p m eL) (nb_sh p m (upd eT p (eT p - 1))) (nb_sh p m eP) (nb_sh p m eC) (nb_sq p m qI) (nb_sq p m qD) sn oA oS oT oP rA (upd rM g 1) fr) : wY_tick_32 post (nI nn) (n + 1) (nI s) (nI cn) rt rx ms (nI (m + 1)) (nI o) (nI r) fn pi dr eA eS eL eT eP eC qI qD sn oA oS oT oP rA rM fr := by
  have hv : vp_in (nI p) 16 := nb_ix (by omega) (by omega)
  refine br_f (nI_ge hs (by omega)) ⟨nb_ix (by omega) (by omega), ?_⟩
  rw [nb_cl (i := s) (by omega)]
  refine ny_find_s (e := m + 1) (by omega) p (by omega) hy hl (br_t (nb_n0 (by omega)) ⟨hv, ?_⟩)
  rw [nb_cl (i := p) (by omega)]
  refine nm_e ?_
  exact br_f (by rw [h5]; decide) ⟨hv, hv, nm_e ⟨hv, br_t (by rw [pk_us]; exact ht) (br_f (by rw [h5]; decide) (br_f (by rw [h5]; decide) (br_f (by rw [h5]; decide) (br_t h5 ⟨hv, br_t hm (ny_fail_s hm16 hp hr g hg gy hN (nm_r (nI_1 s) H))⟩))))⟩⟩
end
end
section
/-! the clock: all entries -/
theorem nb_ei_T {S L T P C : Int32} (h : nb_ei S L T P C) (h3 : ¬ S = 3) : 0 < T := by
  rcases h with h | h | h | h | h
  · exact h.2.2.1
  · exact h.2.1
  · exact absurd h.1 h3
  · exact h.2.1
  · exact h.2.1
theorem nb_ei_t {S L T P C T' : Int32} (h : nb_ei S L T P C) (h3 : ¬ S = 3) (hT : 0 < T') : nb_ei S L T' P C := by
  rcases h with h | h | h | h | h
  · exact Or.inl ⟨h.1, h.2.1, hT, h.2.2.2⟩
  · exact Or.inr (Or.inl ⟨h.1, hT, h.2.2⟩)
  · exact absurd h.1 h3
  · exact Or.inr (Or.inr (Or.inr (Or.inl ⟨h.1, hT, h.2.2⟩)))
  · exact Or.inr (Or.inr (Or.inr (Or.inr ⟨h.1, hT, h.2.2⟩)))
theorem nb_ent_fail {m p : Nat} {eA eS eL eT eP eC : Nat → Int32} {x : Int32} (E : nb_ent (m + 1) eA eS eL eT eP eC) (hp : p ≤ m) : nb_ent m (nb_sh p m eA) (nb_sh p m eS) (nb_sh p m eL) (nb_sh p m (upd eT p x)) (nb_sh p m eP) (nb_sh p m eC) := by
  have h := nb_ent_del E hp
  refine ⟨h.1, fun j hj => ?_, h.2.2⟩
  have e1 : nb_sh p m (upd eT p x) j = nb_sh p m eT j := by
    by_cases hk : p ≤ j
    · rw [nb_sh_in _ hk hj, nb_sh_in _ hk hj]
      exact pk_un (by omega)
    · rw [nb_sh_lt _ (by omega), nb_sh_lt _ (by omega)]
      exact pk_un (by omega)
  rw [e1]
  exact h.2.1 j hj
section
variable {cn e o r : Nat} {rt rx ms fn pi dr : Int32} {eA eS eL eT eP eC qI qD oA oS oT oP rA rM fr sn : Nat → Int32}
theorem nj_tick {nn : Nat} (hnn : nn ≤ 16) (hr : r ≤ 4) (hx : 0 < rx) : ∀ d s p : Nat, s + d = nn → ∀ (e : Nat) (fn dr : Int32) (eA eS eL eT eP eC qI qD rM fr : Nat → Int32), e = p + d → e ≤ 16 → (∀ j, j < d → eA (p + j) = sn (s + j)) → nb_ent e eA eS eL eT eP eC →
    ∃ (e1 : Nat) (fn1 dr1 : Int32) (eA1 eS1 eL1 eT1 eP1 eC1 qI1 qD1 rM1 fr1 : Nat → Int32), e1 ≤ e ∧ nb_ent e1 eA1 eS1 eL1 eT1 eP1 eC1 ∧
    (∀ post : SX → Prop, (∃ n, wX_tick_37 post n 0 (nI cn) rt rx ms (nI e1) (nI o) (nI r) fn1 pi dr1 eA1 eS1 eL1 eT1 eP1 eC1 qI1 qD1 oA oS oT oP rA rM1 (nb_fp 0 fr1) (nb_fp 1 fr1) (nb_fp 2 fr1) (nb_fp 3 fr1) (nb_fp 4 fr1)) → wX_tick_9 post (nI nn) (d + 1) (nI p) (nI s) (nI cn) rt rx ms (nI e) (nI o) (nI r) fn pi dr eA eS eL eT eP eC qI qD oA oS oT oP rA rM (nb_fp 0 fr) (nb_fp 1 fr) (nb_fp 2 fr) (nb_fp 3 fr) (nb_fp 4 fr)) ∧
    (∀ post : SY → Prop, (∃ n, wY_tick_308 post n 0 (nI cn) rt rx ms (nI e1) (nI o) (nI r) fn1 pi dr1 eA1 eS1 eL1 eT1 eP1 eC1 qI1 qD1 sn oA oS oT oP rA rM1 fr1) → wY_tick_32 post (nI nn) (d + 1) (nI s) (nI cn) rt rx ms (nI e) (nI o) (nI r) fn pi dr eA eS eL eT eP eC qI qD sn oA oS oT oP rA rM fr) := by
  intro d
  induction d with
  | zero =>
    intro s p hs e fn dr eA eS eL eT eP eC qI qD rM fr hep he hal E
    exact ⟨e, fn, dr, eA, eS, eL, eT, eP, eC, qI, qD, rM, fr, by omega, E, fun post H => br_t (nI_le (by omega) (by omega)) H, fun post H => br_t (nI_le (by omega) (by omega)) H⟩
  | succ d ih =>
    intro s p hs e fn dr eA eS eL eT eP eC qI qD rM fr hep he hal E
    obtain rfl : e = p + d + 1 := by omega
    have hpe : p < p + d + 1 := by omega
    have hsn : s < nn := by omega
    have hy : eA p = sn s := hal 0 (by omega)
    have hl : ∀ j, j < p → ¬ eA j = sn s := by
      intro j hj h
      have := E.2.2 j p (by omega) (by omega) (h.trans hy.symm)
      omega
    have hal' : ∀ j, j < d → eA (p + 1 + j) = sn (s + 1 + j) := by
      intro j hj
      have h := hal (j + 1) (by omega)
      rw [show p + (j + 1) = p + 1 + j from by omega, show s + (j + 1) = s + 1 + j from by omega] at h
      exact h
    have halF : ∀ j, j < d → nb_sh p (p + d) eA (p + j) = sn (s + 1 + j) := by
      intro j hj
      rw [nb_sh_in eA (by omega) (by omega), ← hal' j hj]
      exact congrArg eA (by omega)
    have hei := E.2.1 p hpe
    by_cases h3 : eS p = 3
    · obtain ⟨e1, fn1, dr1, eA1, eS1, eL1, eT1, eP1, eC1, qI1, qD1, rM1, fr1, le1, E1, hX, hY⟩ := ih (s + 1) (p + 1) (by omega) (p + d + 1) fn dr eA eS eL eT eP eC qI qD rM fr (by omega) (by omega) hal' E
      exact ⟨e1, fn1, dr1, eA1, eS1, eL1, eT1, eP1, eC1, qI1, qD1, rM1, fr1, by omega, E1, fun post H => br_f (nI_ge hsn (by omega)) (nx_age_3 (by omega) h3 (br_f (by decide) (nm_r (nI_1 p) (nm_r (nI_1 s) (hX post H))))), fun post H => ny_t_3 hsn hnn hpe he hy hl h3 (hY post H)⟩
    · rcases nb_dec (nb_ei_T hei h3) with ⟨p0, z0, l0⟩ | hz
      · obtain ⟨e1, fn1, dr1, eA1, eS1, eL1, eT1, eP1, eC1, qI1, qD1, rM1, fr1, le1, E1, hX, hY⟩ := ih (s + 1) (p + 1) (by omega) (p + d + 1) fn dr eA eS eL (upd eT p (eT p - 1)) eP eC qI qD rM fr (by omega) (by omega) hal' (nb_ent_up p E (by rw [pk_us]; exact nb_ei_t hei h3 p0) (fun j hj => ⟨rfl, rfl, pk_un hj, rfl, rfl⟩))
        exact ⟨e1, fn1, dr1, eA1, eS1, eL1, eT1, eP1, eC1, qI1, qD1, rM1, fr1, by omega, E1, fun post H => br_f (nI_ge hsn (by omega)) (nx_age_t (by omega) h3 l0 (br_f (by decide) (nm_r (nI_1 p) (nm_r (nI_1 s) (hX post H))))), fun post H => ny_t_t hsn hnn hpe he hy hl h3 z0 (hY post H)⟩
      · rcases hei with h1 | h2 | h | h4 | h5
        · by_cases hm : eP p < ms
          · obtain ⟨e1, fn1, dr1, eA1, eS1, eL1, eT1, eP1, eC1, qI1, qD1, rM1, fr1, le1, E1, hX, hY⟩ := ih (s + 1) (p + 1) (by omega) (p + d + 1) (fn + 1) dr eA eS eL (upd (upd eT p (eT p - 1)) p rx) (upd eP p (eP p + 1)) eC qI qD rM (nb_ev fr fn 1 (eA p) 0 0 0) (by omega) (by omega) hal' (nb_ent_up p E (by rw [pk_us]; exact Or.inl ⟨h1.1, h1.2.1, hx, h1.2.2.2⟩) (fun j hj => ⟨rfl, rfl, (pk_un hj).trans (pk_un hj), pk_un hj, rfl⟩))
            exact ⟨e1, fn1, dr1, eA1, eS1, eL1, eT1, eP1, eC1, qI1, qD1, rM1, fr1, by omega, E1, fun post H => br_f (nI_ge hsn (by omega)) (nx_age_s1 (by omega) h1.1 hz hm (br_f (by decide) (nm_r (nI_1 p) (nm_r (nI_1 s) (hX post H))))), fun post H => ny_t_s1 hsn hnn hpe he hy hl h1.1 hz (Int32.not_le.mpr hm) (hY post H)⟩
          · have hk1 := h1.1
            rcases nb_find (fun j => rA j = eA p) r with hN | ⟨g, hg, gy, gl⟩
            · obtain ⟨e1, fn1, dr1, eA1, eS1, eL1, eT1, eP1, eC1, qI1, qD1, rM1, fr1, le1, E1, hX, hY⟩ := ih (s + 1) p (by omega) (p + d) fn (dr + eC p) (nb_sh p (p + d) eA) (nb_sh p (p + d) eS) (nb_sh p (p + d) eL) (nb_sh p (p + d) (upd eT p (eT p - 1))) (nb_sh p (p + d) eP) (nb_sh p (p + d) eC) (nb_sq p (p + d) qI) (nb_sq p (p + d) qD) rM fr rfl (by omega) halF (nb_ent_fail E (by omega))
              exact ⟨e1, fn1, dr1, eA1, eS1, eL1, eT1, eP1, eC1, qI1, qD1, rM1, fr1, by omega, E1, fun post H => br_f (nI_ge hsn (by omega)) (nx_age_fn (m := p + d) (by omega) (by omega) hr (Or.inl hk1) hz hm hN (br_t rfl (nm_r (nI_1 s) (hX post H)))), fun post H => ny_t_fn1 (m := p + d) hsn hnn (by omega) (by omega) hr hy hl hk1 hz (Int32.not_lt.mp hm) hN (hY post H)⟩
            · obtain ⟨e1, fn1, dr1, eA1, eS1, eL1, eT1, eP1, eC1, qI1, qD1, rM1, fr1, le1, E1, hX, hY⟩ := ih (s + 1) p (by omega) (p + d) fn (dr + eC p) (nb_sh p (p + d) eA) (nb_sh p (p + d) eS) (nb_sh p (p + d) eL) (nb_sh p (p + d) (upd eT p (eT p - 1))) (nb_sh p (p + d) eP) (nb_sh p (p + d) eC) (nb_sq p (p + d) qI) (nb_sq p (p + d) qD) (upd rM g 1) fr rfl (by omega) halF (nb_ent_fail E (by omega))
              exact ⟨e1, fn1, dr1, eA1, eS1, eL1, eT1, eP1, eC1, qI1, qD1, rM1, fr1, by omega, E1, fun post H => br_f (nI_ge hsn (by omega)) (nx_age_fs (m := p + d) (by omega) (by omega) hr (Or.inl hk1) hz hm g hg gy gl (br_t rfl (nm_r (nI_1 s) (hX post H)))), fun post H => ny_t_fs1 (m := p + d) hsn hnn (by omega) (by omega) hr hy hl hk1 hz (Int32.not_lt.mp hm) g hg gy gl (hY post H)⟩
        · obtain ⟨e1, fn1, dr1, eA1, eS1, eL1, eT1, eP1, eC1, qI1, qD1, rM1, fr1, le1, E1, hX, hY⟩ := ih (s + 1) (p + 1) (by omega) (p + d + 1) fn dr eA (upd eS p 3) eL (upd (upd eT p (eT p - 1)) p 0) (upd eP p 0) eC qI qD rM fr (by omega) (by omega) hal' (nb_ent_up p E (by rw [pk_us, pk_us, pk_us]; exact Or.inr (Or.inr (Or.inl ⟨rfl, rfl, rfl, h2.2.2.2⟩))) (fun j hj => ⟨pk_un hj, rfl, (pk_un hj).trans (pk_un hj), pk_un hj, rfl⟩))
          exact ⟨e1, fn1, dr1, eA1, eS1, eL1, eT1, eP1, eC1, qI1, qD1, rM1, fr1, by omega, E1, fun post H => br_f (nI_ge hsn (by omega)) (nx_age_2 (by omega) h2.1 hz (br_f (by decide) (nm_r (nI_1 p) (nm_r (nI_1 s) (hX post H))))), fun post H => ny_t_2 hsn hnn hpe he hy hl h2.1 hz (hY post H)⟩
        · exact absurd h.1 h3
        · obtain ⟨e1, fn1, dr1, eA1, eS1, eL1, eT1, eP1, eC1, qI1, qD1, rM1, fr1, le1, E1, hX, hY⟩ := ih (s + 1) (p + 1) (by omega) (p + d + 1) (fn + 1) dr eA (upd eS p 5) eL (upd (upd eT p (eT p - 1)) p rx) (upd eP p 1) eC qI qD rM (nb_ev fr fn 2 (eA p) (eL p) 0 (eA p)) (by omega) (by omega) hal' (nb_ent_up p E (by rw [pk_us, pk_us, pk_us]; exact Or.inr (Or.inr (Or.inr (Or.inr ⟨rfl, hx, h4.2.2.2⟩)))) (fun j hj => ⟨pk_un hj, rfl, (pk_un hj).trans (pk_un hj), pk_un hj, rfl⟩))
          exact ⟨e1, fn1, dr1, eA1, eS1, eL1, eT1, eP1, eC1, qI1, qD1, rM1, fr1, by omega, E1, fun post H => br_f (nI_ge hsn (by omega)) (nx_age_4 (by omega) h4.1 hz (br_f (by decide) (nm_r (nI_1 p) (nm_r (nI_1 s) (hX post H))))), fun post H => ny_t_4 hsn hnn hpe he hy hl h4.1 hz (hY post H)⟩
        · by_cases hm : eP p < ms
          · obtain ⟨e1, fn1, dr1, eA1, eS1, eL1, eT1, eP1, eC1, qI1, qD1, rM1, fr1, le1, E1, hX, hY⟩ := ih (s + 1) (p + 1) (by omega) (p + d + 1) (fn + 1) dr eA eS eL (upd (upd eT p (eT p - 1)) p rx) (upd eP p (eP p + 1)) eC qI qD rM (nb_ev fr fn 2 (eA p) (eL p) 0 (eA p)) (by omega) (by omega) hal' (nb_ent_up p E (by rw [pk_us]; exact Or.inr (Or.inr (Or.inr (Or.inr ⟨h5.1, hx, h5.2.2⟩)))) (fun j hj => ⟨rfl, rfl, (pk_un hj).trans (pk_un hj), pk_un hj, rfl⟩))
            exact ⟨e1, fn1, dr1, eA1, eS1, eL1, eT1, eP1, eC1, qI1, qD1, rM1, fr1, by omega, E1, fun post H => br_f (nI_ge hsn (by omega)) (nx_age_s5 (by omega) h5.1 hz hm (br_f (by decide) (nm_r (nI_1 p) (nm_r (nI_1 s) (hX post H))))), fun post H => ny_t_s5 hsn hnn hpe he hy hl h5.1 hz (Int32.not_le.mpr hm) (hY post H)⟩
          · have hk5 := h5.1
            rcases nb_find (fun j => rA j = eA p) r with hN | ⟨g, hg, gy, gl⟩
            · obtain ⟨e1, fn1, dr1, eA1, eS1, eL1, eT1, eP1, eC1, qI1, qD1, rM1, fr1, le1, E1, hX, hY⟩ := ih (s + 1) p (by omega) (p + d) fn (dr + eC p) (nb_sh p (p + d) eA) (nb_sh p (p + d) eS) (nb_sh p (p + d) eL) (nb_sh p (p + d) (upd eT p (eT p - 1))) (nb_sh p (p + d) eP) (nb_sh p (p + d) eC) (nb_sq p (p + d) qI) (nb_sq p (p + d) qD) rM fr rfl (by omega) halF (nb_ent_fail E (by omega))
              exact ⟨e1, fn1, dr1, eA1, eS1, eL1, eT1, eP1, eC1, qI1, qD1, rM1, fr1, by omega, E1, fun post H => br_f (nI_ge hsn (by omega)) (nx_age_fn (m := p + d) (by omega) (by omega) hr (Or.inr hk5) hz hm hN (br_t rfl (nm_r (nI_1 s) (hX post H)))), fun post H => ny_t_fn5 (m := p + d) hsn hnn (by omega) (by omega) hr hy hl hk5 hz (Int32.not_lt.mp hm) hN (hY post H)⟩
            · obtain ⟨e1, fn1, dr1, eA1, eS1, eL1, eT1, eP1, eC1, qI1, qD1, rM1, fr1, le1, E1, hX, hY⟩ := ih (s + 1) p (by omega) (p + d) fn (dr + eC p) (nb_sh p (p + d) eA) (nb_sh p (p + d) eS) (nb_sh p (p + d) eL) (nb_sh p (p + d) (upd eT p (eT p - 1))) (nb_sh p (p + d) eP) (nb_sh p (p + d) eC) (nb_sq p (p + d) qI) (nb_sq p (p + d) qD) (upd rM g 1) fr rfl (by omega) halF (nb_ent_fail E (by omega))
              exact ⟨e1, fn1, dr1, eA1, eS1, eL1, eT1, eP1, eC1, qI1, qD1, rM1, fr1, by omega, E1, fun post H => br_f (nI_ge hsn (by omega)) (nx_age_fs (m := p + d) (by omega) (by omega) hr (Or.inr hk5) hz hm g hg gy gl (br_t rfl (nm_r (nI_1 s) (hX post H)))), fun post H => ny_t_fs5 (m := p + d) hsn hnn (by omega) (by omega) hr hy hl hk5 hz (Int32.not_lt.mp hm) g hg gy gl (hY post H)⟩
end
end
section
/-! the clock: the whole call -/
def nb_cp (t : Nat) (a b : Nat → Int32) : Nat → Int32 := fun j => if j < t then a j else b j
theorem nb_cp0 (a b : Nat → Int32) : nb_cp 0 a b = b := by
  funext j
  exact if_neg (by omega)
theorem nb_cps (t : Nat) (a b : Nat → Int32) : upd (nb_cp t a b) t (a t) = nb_cp (t + 1) a b := by
  funext j
  simp only [upd, nb_cp]
  by_cases hj : j = t
  · subst hj
    rw [if_pos rfl, if_pos (by omega)]
  · rw [if_neg hj]
    by_cases hk : j < t
    · rw [if_pos hk, if_pos (by omega)]
    · rw [if_neg hk, if_neg (by omega)]
section
variable {cn e o r : Nat} {rt rx ms fn pi dr : Int32} {eA eS eL eT eP eC qI qD oA oS oT oP rA rM fr sn : Nat → Int32}
theorem ny_seen {post : SY → Prop} (he : e ≤ 16) (H : ∃ n, wY_tick_32 post (nI e) n 0 (nI cn) rt rx ms (nI e) (nI o) (nI r) fn pi dr eA eS eL eT eP eC qI qD (nb_cp e eA sn) oA oS oT oP rA rM fr) : wpY_tick post (nI cn, rt, rx, ms, nI e, nI o, nI r, fn, pi, dr, eA, eS, eL, eT, eP, eC, qI, qD, sn, oA, oS, oT, oP, rA, rM, fr) := by
  have key : ∀ d t : Nat, t + d = e → wY_tick_7 post (nI e) (nI cn) rt rx ms (nI e) (nI o) (nI r) fn pi dr (d + 1) (nI t) eA eS eL eT eP eC qI qD (nb_cp t eA sn) oA oS oT oP rA rM fr := by
    intro d
    induction d with
    | zero =>
      intro t ht
      obtain rfl : t = e := by omega
      exact br_t (nI_le (by omega) (by omega)) H
    | succ d ih =>
      intro t ht
      refine br_f (nI_ge (by omega) (by omega)) ?_
      rw [nb_cl (by omega)]
      exact ⟨nb_ix (by omega) (by omega), nb_ix (by omega) (by omega), nm_r (nb_cps t eA sn) (nm_r (nI_1 t) (ih (t + 1) (by omega)))⟩
  have := key e 0 (by omega)
  rw [nb_cp0] at this
  unfold wpY_tick
  exact ⟨_, this⟩
end
theorem i_vc_tick {k : Nat} {u : SX} {v : SY} (I : i_Rel k u v) (hk : k + 4 ≤ 2052) : wpX_tick (fun u' => wpY_tick (fun v' => i_Rel (k + 4) u' v') v) u := by
  obtain ⟨cn, e, o, r, rt, rx, ms, fn, pi, dr, eA, eS, eL, eT, eP, eC, qI, qD, oA, oS, oT, oP, rA, rM, fr, sn, rfl, rfl, I⟩ := I
  have hb := I.1
  obtain ⟨e1, fn1, dr1, eA1, eS1, eL1, eT1, eP1, eC1, qI1, qD1, rM1, fr1, le1, E1, hX, hY⟩ := nj_tick (cn := cn) (o := o) (rt := rt) (rx := rx) (ms := ms) (pi := pi) (oA := oA) (oS := oS) (oT := oT) (oP := oP) (rA := rA) (sn := nb_cp e eA sn) (nn := e) (r := r) (by omega) hb.2.2.2.2 I.2.1.2 e 0 0 (by omega) e fn dr eA eS eL eT eP eC qI qD rM fr (by omega) (by omega) (fun j hj => by rw [Nat.zero_add]; exact (if_pos hj).symm) I.2.2.1
  obtain ⟨fn2, fr2, oS2, oT2, oP2, hO2, oX, oY⟩ := nj_own (cn := cn) (e := e1) (o := o) (r := r) (rt := rt) (rx := rx) (ms := ms) (pi := pi) (dr := dr1) (eA := eA1) (eS := eS1) (eL := eL1) (eT := eT1) (eP := eP1) (eC := eC1) (qI := qI1) (qD := qD1) (oA := oA) (rA := rA) (rM := rM1) (sn := nb_cp e eA sn) hb.2.2.2.1 I.2.1.2 o 0 (by omega) fn1 fr1 oS oT oP I.2.2.2.1
  unfold wpX_tick
  refine ⟨_, hX _ ⟨_, oX _ ?_⟩⟩
  refine ny_seen (by omega) ⟨_, hY _ ⟨_, oY _ ?_⟩⟩
  exact nb_rel ⟨⟨hb.1, hb.2.1, by omega, hb.2.2.2⟩, I.2.1, E1, hO2, I.2.2.2.2⟩
end
