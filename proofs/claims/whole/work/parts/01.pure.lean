theorem pk_us {f : Nat → Int32} {k : Nat} {x : Int32} : upd f k x k = x := if_pos rfl
theorem pk_un {f : Nat → Int32} {k j : Nat} {x : Int32} (h : j ≠ k) : upd f k x j = f j := if_neg h
theorem pk_sub {a b : Nat} (h : b ≤ a) : nI a - nI b = nI (a - b) := by
  obtain ⟨c, rfl⟩ : ∃ c, a = c + b := ⟨a - b, by omega⟩
  rw [← nI_add, Int32.add_sub_cancel, Nat.add_sub_cancel]
theorem pk_m1 (n : Nat) : nI (n + 1) + (-1) = nI n := by
  rw [← nI_1, Int32.add_assoc, show (1 : Int32) + (-1) = 0 from rfl, Int32.add_zero]
theorem pk_mul (a b : Nat) : nI a * nI b = nI (a * b) := (Int32.ofNat_mul a b).symm
theorem pk_ix (x : Int32) {n : Nat} (hn : n < 2 ^ 31) : x < 0 ∨ nI n ≤ x ∨ ∃ j : Nat, j < n ∧ x = nI j := by
  by_cases h : x < 0
  · exact Or.inl h
  · obtain ⟨j, hj, rfl⟩ := nI_of h
    by_cases h2 : j < n
    · exact Or.inr (Or.inr ⟨j, h2, rfl⟩)
    · exact Or.inr (Or.inl (nI_le (by omega) hj))
theorem pk_le {x y : Int32} {A B : Prop} (a b : Nat) (f : a ≤ b → A) (g : b < a → B) (hx : x = nI a := by rfl) (hy : y = nI b := by rfl) (ha : a < 2 ^ 31 := by omega) (hb : b < 2 ^ 31 := by omega) : (x ≤ y → A) ∧ (¬ x ≤ y → B) := by
  subst hx hy
  rw [nI_leI ha hb]
  exact ⟨f, fun z => g (by omega)⟩
theorem pk_lt {x y : Int32} {A B : Prop} (a b : Nat) (f : a < b → A) (g : b ≤ a → B) (hx : x = nI a := by rfl) (hy : y = nI b := by rfl) (ha : a < 2 ^ 31 := by omega) (hb : b < 2 ^ 31 := by omega) : (x < y → A) ∧ (¬ x < y → B) := by
  subst hx hy
  rw [nI_ltI ha hb]
  exact ⟨f, fun z => g (by omega)⟩
theorem pk_eq {x y : Int32} {A B : Prop} (a b : Nat) (f : a = b → A) (g : a ≠ b → B) (hx : x = nI a := by rfl) (hy : y = nI b := by rfl) (ha : a < 2 ^ 31 := by omega) (hb : b < 2 ^ 31 := by omega) : (x = y → A) ∧ (¬ x = y → B) := by
  subst hx hy
  rw [nI_eq ha hb]
  exact ⟨f, g⟩
theorem pk_in {x : Int32} (n N : Nat) (h : n < N) (hx : x = nI n := by rfl) (hN : N < 2 ^ 31 := by omega) : vp_in x N := by
  subst hx
  exact vp_in_nI h hN
theorem pk_cl {x : Int32} (n : Nat) (hx : x = nI n := by rfl) (h : n < 2 ^ 31 := by omega) : x.toNatClampNeg = n := by
  subst hx
  exact nI_clamp h
theorem pk_tn {n : Nat} (h : n < 2 ^ 32) : (nI n).toBitVec.toNat = n := Nat.mod_eq_of_lt h
theorem pk_and (x : Int32) {m : Int32} (k : Nat) (hm : m.toBitVec.toNat = 2 ^ k - 1) : x &&& m = nI (x.toBitVec.toNat % 2 ^ k) := by
  apply Int32.toBitVec_inj.mp
  apply BitVec.eq_of_toNat_eq
  rw [Int32.toBitVec_and, BitVec.toNat_and, hm, Nat.and_two_pow_sub_one_eq_mod]
  show _ = (BitVec.ofNat 32 _).toNat
  rw [BitVec.toNat_ofNat]
  exact (Nat.mod_eq_of_lt (Nat.lt_of_le_of_lt (Nat.mod_le _ _) x.toBitVec.isLt)).symm
theorem pk_andN {n : Nat} (h : n < 2 ^ 32) {m : Int32} (k : Nat) (hm : m.toBitVec.toNat = 2 ^ k - 1) : nI n &&& m = nI (n % 2 ^ k) := by
  rw [pk_and _ k hm, pk_tn h]
theorem pk_andE (x : Int32) {m : Int32} (k : Nat) (hm : m.toBitVec.toNat = 2 ^ k - 1) : ∃ j : Nat, j < 2 ^ k ∧ x &&& m = nI j := ⟨_, Nat.mod_lt _ (Nat.two_pow_pos k), pk_and x k hm⟩
theorem pk_andIn (x : Int32) {m : Int32} (k : Nat) (hm : m.toBitVec.toNat = 2 ^ k - 1) (hk : k ≤ 30) : vp_in (x &&& m) (2 ^ k) := by
  obtain ⟨j, hj, e⟩ := pk_andE x k hm
  rw [e]
  exact vp_in_nI hj (Nat.lt_of_le_of_lt (Nat.pow_le_pow_right (by decide) hk) (by decide))
/-! deletion moves arrays down -/
def nb_sh (i t : Nat) (a : Nat → Int32) : Nat → Int32 := fun j => if i ≤ j ∧ j < t then a (j + 1) else a j
def nb_sq (i t : Nat) (a : Nat → Int32) : Nat → Int32 := fun j => if 3 * i ≤ j ∧ j < 3 * t then a (j + 3) else a j
def nb_mk (t k : Nat) (a : Nat → Int32) : Nat → Int32 := fun j => if 3 * t ≤ j ∧ j < 3 * t + k then a (j + 3) else a j
theorem nb_sh0 (i : Nat) (a : Nat → Int32) : nb_sh i i a = a := by
  funext j
  exact if_neg (by omega)
theorem nb_sq0 (i : Nat) (a : Nat → Int32) : nb_sq i i a = a := by
  funext j
  exact if_neg (by omega)
theorem nb_mk0 (t : Nat) (a : Nat → Int32) : nb_mk t 0 a = a := by
  funext j
  exact if_neg (by omega)
theorem nb_shs {i t : Nat} (h : i ≤ t) (a : Nat → Int32) : upd (nb_sh i t a) t (nb_sh i t a (t + 1)) = nb_sh i (t + 1) a := by
  funext j
  simp only [upd, nb_sh]
  by_cases hj : j = t
  · subst hj
    rw [if_pos rfl, if_neg (by omega), if_pos (by omega)]
  · rw [if_neg hj]
    by_cases hk : i ≤ j ∧ j < t
    · rw [if_pos hk, if_pos (by omega)]
    · rw [if_neg hk, if_neg (by omega)]
theorem nb_mks {t k : Nat} (hk : k < 3) (a : Nat → Int32) : upd (nb_mk t k a) (3 * t + k) (nb_mk t k a (3 * t + k + 3)) = nb_mk t (k + 1) a := by
  funext j
  simp only [upd, nb_mk]
  by_cases hj : j = 3 * t + k
  · subst hj
    rw [if_pos rfl, if_neg (by omega), if_pos (by omega)]
  · rw [if_neg hj]
    by_cases hk : 3 * t ≤ j ∧ j < 3 * t + k
    · rw [if_pos hk, if_pos (by omega)]
    · rw [if_neg hk, if_neg (by omega)]
theorem nb_sqs {i t : Nat} (h : i ≤ t) (a : Nat → Int32) : nb_mk t 3 (nb_sq i t a) = nb_sq i (t + 1) a := by
  funext j
  simp only [nb_mk, nb_sq]
  by_cases hj : 3 * t ≤ j ∧ j < 3 * t + 3
  · rw [if_pos hj, if_neg (by omega), if_pos (by omega)]
  · rw [if_neg hj]
    by_cases hk : 3 * i ≤ j ∧ j < 3 * t
    · rw [if_pos hk, if_pos (by omega)]
    · rw [if_neg hk, if_neg (by omega)]
theorem nb_uu (a : Nat → Int32) (i : Nat) (x y : Int32) : upd (upd a i x) i y = upd a i y := by
  funext j
  simp only [upd]
  by_cases h : j = i
  · rw [if_pos h, if_pos h]
  · rw [if_neg h, if_neg h, if_neg h]
theorem nb_ue (a : Nat → Int32) (i : Nat) : upd a i (a i) = a := by
  funext j
  simp only [upd]
  by_cases h : j = i
  · rw [if_pos h, h]
  · rw [if_neg h]
theorem nb_uv {a : Nat → Int32} {i : Nat} {x : Int32} (h : a i = x) : upd a i x = a := by
  rw [← h]
  exact nb_ue a i
/-! frames: the component's five arrays as pictures of the reference's one -/
def nb_fp (f : Nat) (fr : Nat → Int32) : Nat → Int32 := fun s => fr (5 * s + f)
def nb_em (fr : Nat → Int32) (s : Nat) (k t l p h : Int32) : Nat → Int32 := upd (upd (upd (upd (upd fr (5 * s) k) (5 * s + 1) t) (5 * s + 2) l) (5 * s + 3) p) (5 * s + 4) h
theorem nb_fp0 (fr : Nat → Int32) (s : Nat) (k t l p h : Int32) : nb_fp 0 (nb_em fr s k t l p h) = upd (nb_fp 0 fr) s k := by
  funext j
  simp only [nb_fp, nb_em, upd]
  by_cases hj : j = s
  · subst hj
    rw [if_neg (by omega), if_neg (by omega), if_neg (by omega), if_neg (by omega), if_pos (by omega), if_pos rfl]
  · rw [if_neg (by omega), if_neg (by omega), if_neg (by omega), if_neg (by omega), if_neg (by omega), if_neg hj]
theorem nb_fp1 (fr : Nat → Int32) (s : Nat) (k t l p h : Int32) : nb_fp 1 (nb_em fr s k t l p h) = upd (nb_fp 1 fr) s t := by
  funext j
  simp only [nb_fp, nb_em, upd]
  by_cases hj : j = s
  · subst hj
    rw [if_neg (by omega), if_neg (by omega), if_neg (by omega), if_pos (by omega), if_pos rfl]
  · rw [if_neg (by omega), if_neg (by omega), if_neg (by omega), if_neg (by omega), if_neg (by omega), if_neg hj]
theorem nb_fp2 (fr : Nat → Int32) (s : Nat) (k t l p h : Int32) : nb_fp 2 (nb_em fr s k t l p h) = upd (nb_fp 2 fr) s l := by
  funext j
  simp only [nb_fp, nb_em, upd]
  by_cases hj : j = s
  · subst hj
    rw [if_neg (by omega), if_neg (by omega), if_pos (by omega), if_pos rfl]
  · rw [if_neg (by omega), if_neg (by omega), if_neg (by omega), if_neg (by omega), if_neg (by omega), if_neg hj]
theorem nb_fp3 (fr : Nat → Int32) (s : Nat) (k t l p h : Int32) : nb_fp 3 (nb_em fr s k t l p h) = upd (nb_fp 3 fr) s p := by
  funext j
  simp only [nb_fp, nb_em, upd]
  by_cases hj : j = s
  · subst hj
    rw [if_neg (by omega), if_pos (by omega), if_pos rfl]
  · rw [if_neg (by omega), if_neg (by omega), if_neg (by omega), if_neg (by omega), if_neg (by omega), if_neg hj]
theorem nb_fp4 (fr : Nat → Int32) (s : Nat) (k t l p h : Int32) : nb_fp 4 (nb_em fr s k t l p h) = upd (nb_fp 4 fr) s h := by
  funext j
  simp only [nb_fp, nb_em, upd]
  by_cases hj : j = s
  · subst hj
    rw [if_pos (by omega), if_pos rfl]
  · rw [if_neg (by omega), if_neg (by omega), if_neg (by omega), if_neg (by omega), if_neg (by omega), if_neg hj]
/-! the least index that holds -/
theorem nb_find (p : Nat → Prop) (n : Nat) : (∀ j, j < n → ¬ p j) ∨ ∃ i, i < n ∧ p i ∧ ∀ j, j < i → ¬ p j := by
  induction n with
  | zero => exact Or.inl (fun j h => absurd h (by omega))
  | succ n ih =>
    rcases ih with h | ⟨i, hi, hp, hl⟩
    · by_cases hn : p n
      · exact Or.inr ⟨n, by omega, hn, h⟩
      · refine Or.inl fun j hj => ?_
        by_cases e : j = n
        · rw [e]; exact hn
        · exact h j (by omega)
    · exact Or.inr ⟨i, by omega, hp, hl⟩
/-! numbers -/
theorem nb_dec {T : Int32} (h : 0 < T) : (0 < T - 1 ∧ ¬ T - 1 = 0 ∧ ¬ T - 1 ≤ 0) ∨ T - 1 = 0 := by
  obtain ⟨j, hj, rfl⟩ := nI_of (x := T) (Int32.not_lt.mpr (Int32.le_of_lt h))
  rw [← nI_0, nI_ltI (by omega) hj] at h
  obtain ⟨m, rfl⟩ : ∃ m, j = m + 1 := ⟨j - 1, by omega⟩
  rw [nI_pred]
  by_cases hm : m = 0
  · subst hm
    exact Or.inr nI_0
  · refine Or.inl ⟨?_, nI_ne0 (by omega) (by omega), nI_nle (by omega) (by omega)⟩
    rw [← nI_0]
    exact nI_lt (by omega) (by omega)
theorem nb_and63 (x : Int32) : ∃ s : Nat, s < 64 ∧ x &&& 63 = nI s := pk_andE x (m := 63) 6 (by decide)
theorem nb_ix {i n : Nat} (h : i < n) (hn : n ≤ 400) : vp_in (nI i) n := vp_in_nI h (by omega)
theorem nb_cl {i : Nat} (h : i < 400) : (nI i).toNatClampNeg = i := nI_clamp (by omega)
theorem nb_m1 {i : Nat} (h : i < 400) : ¬ nI i = -1 := by
  intro e
  have h1 := congrArg Int32.toInt e
  rw [nI_toInt (by omega), show (-1 : Int32).toInt = -1 from by decide] at h1
  omega
theorem nb_nn {i : Nat} (h : i < 400) : ¬ nI i < 0 := nI_pos (by omega)
theorem nb_n0 {i : Nat} (h : i < 400) : 0 ≤ nI i := nI_pos' (by omega)
/-! the entries -/
def nb_ok (x : Int32) : Prop := 1 ≤ x ∧ x ≤ 65535
def nb_ei (S L T P C : Int32) : Prop :=
  (S = 1 ∧ L = 0 ∧ 0 < T ∧ ∃ q : Nat, q ≤ 3 ∧ C = nI q) ∨ (S = 2 ∧ 0 < T ∧ P = 0 ∧ C = 0) ∨ (S = 3 ∧ T = 0 ∧ P = 0 ∧ C = 0) ∨ (S = 4 ∧ 0 < T ∧ P = 0 ∧ C = 0) ∨ (S = 5 ∧ 0 < T ∧ C = 0)
def nb_ent (e : Nat) (eA eS eL eT eP eC : Nat → Int32) : Prop :=
  (∀ i, i < e → nb_ok (eA i)) ∧ (∀ i, i < e → nb_ei (eS i) (eL i) (eT i) (eP i) (eC i)) ∧ (∀ i j, i < e → j < e → eA i = eA j → i = j)
theorem nb_ent_up {e : Nat} {eA eS eL eT eP eC : Nat → Int32} (i : Nat) {eS' eL' eT' eP' eC' : Nat → Int32} (h : nb_ent e eA eS eL eT eP eC) (hi : nb_ei (eS' i) (eL' i) (eT' i) (eP' i) (eC' i))
    (hs : ∀ j, j ≠ i → eS' j = eS j ∧ eL' j = eL j ∧ eT' j = eT j ∧ eP' j = eP j ∧ eC' j = eC j) : nb_ent e eA eS' eL' eT' eP' eC' := by
  refine ⟨h.1, fun j hj => ?_, h.2.2⟩
  by_cases e : j = i
  · rw [e]; exact hi
  · obtain ⟨h1, h2, h3, h4, h5⟩ := hs j e
    rw [h1, h2, h3, h4, h5]
    exact h.2.1 j hj
theorem nb_ent_del {e i : Nat} {eA eS eL eT eP eC : Nat → Int32} (h : nb_ent (e + 1) eA eS eL eT eP eC) (hi : i ≤ e) :
    nb_ent e (nb_sh i e eA) (nb_sh i e eS) (nb_sh i e eL) (nb_sh i e eT) (nb_sh i e eP) (nb_sh i e eC) := by
  have k : ∀ j, j < e → ∃ m, m < e + 1 ∧ (∀ a : Nat → Int32, nb_sh i e a j = a m) ∧ m = (if i ≤ j then j + 1 else j) := by
    intro j hj
    by_cases hk : i ≤ j
    · exact ⟨j + 1, by omega, fun a => if_pos ⟨hk, hj⟩, (if_pos hk).symm⟩
    · exact ⟨j, by omega, fun a => if_neg (by omega), (if_neg hk).symm⟩
  refine ⟨fun j hj => ?_, fun j hj => ?_, fun j l hj hl he => ?_⟩
  · obtain ⟨m, hm, ha, _⟩ := k j hj
    rw [ha]
    exact h.1 m hm
  · obtain ⟨m, hm, ha, _⟩ := k j hj
    rw [ha, ha, ha, ha, ha]
    exact h.2.1 m hm
  · obtain ⟨m, hm, ha, em⟩ := k j hj
    obtain ⟨m', hm', ha', em'⟩ := k l hl
    rw [ha, ha'] at he
    have := h.2.2 m m' hm hm' he
    by_cases h1 : i ≤ j
    · by_cases h2 : i ≤ l
      · rw [if_pos h1] at em; rw [if_pos h2] at em'; omega
      · rw [if_pos h1] at em; rw [if_neg h2] at em'; omega
    · by_cases h2 : i ≤ l
      · rw [if_neg h1] at em; rw [if_pos h2] at em'; omega
      · rw [if_neg h1] at em; rw [if_neg h2] at em'; omega
theorem nb_ent_app {e : Nat} {eA eS eL eT eP eC : Nat → Int32} {a S L T P C : Int32} (h : nb_ent e eA eS eL eT eP eC) (hn : ∀ j, j < e → ¬ eA j = a) (ha : nb_ok a) (hi : nb_ei S L T P C) :
    nb_ent (e + 1) (upd eA e a) (upd eS e S) (upd eL e L) (upd eT e T) (upd eP e P) (upd eC e C) := by
  refine ⟨fun j hj => ?_, fun j hj => ?_, fun j l hj hl he => ?_⟩
  · by_cases q : j = e
    · rw [q, pk_us]; exact ha
    · rw [pk_un q]; exact h.1 j (by omega)
  · by_cases q : j = e
    · rw [q, pk_us, pk_us, pk_us, pk_us, pk_us]; exact hi
    · rw [pk_un q, pk_un q, pk_un q, pk_un q, pk_un q]; exact h.2.1 j (by omega)
  · by_cases q : j = e
    · by_cases q' : l = e
      · omega
      · rw [q, pk_us, pk_un q'] at he
        exact absurd he.symm (hn l (by omega))
    · by_cases q' : l = e
      · rw [q', pk_us, pk_un q] at he
        exact absurd he (hn j (by omega))
      · rw [pk_un q, pk_un q'] at he
        exact h.2.2 j l (by omega) (by omega) he
theorem nb_sh_lt {i t j : Nat} (a : Nat → Int32) (h : j < i) : nb_sh i t a j = a j := if_neg (by omega)
theorem nb_sh_in {i t j : Nat} (a : Nat → Int32) (h : i ≤ j) (h2 : j < t) : nb_sh i t a j = a (j + 1) := if_pos ⟨h, h2⟩
theorem nb_sh_no {e i : Nat} {a : Nat → Int32} {x : Int32} (h : ∀ j, j < e + 1 → ¬ a j = x) (_ : i ≤ e) : ∀ j, j < e → ¬ nb_sh i e a j = x := by
  intro j hj
  by_cases hk : i ≤ j
  · rw [nb_sh_in a hk hj]; exact h _ (by omega)
  · rw [nb_sh_lt a (by omega)]; exact h _ (by omega)
/-! own addresses and routers -/
def nb_own (o : Nat) (oA oS oT : Nat → Int32) : Prop := ∀ i, i < o → nb_ok (oA i) ∧ ((oS i = 1 ∧ 0 < oT i) ∨ oS i = 2 ∨ oS i = 3)
def nb_rou (r : Nat) (rA : Nat → Int32) : Prop := ∀ i, i < r → nb_ok (rA i)
