section
/-! rows pasted from kit/rows/PURE-ROWS -/
section
theorem pk_us {f : Nat → Int32} {k : Nat} {x : Int32} : upd f k x k = x := if_pos rfl
theorem pk_un {f : Nat → Int32} {k j : Nat} {x : Int32} (h : j ≠ k) : upd f k x j = f j := if_neg h
theorem pk_sub {a b : Nat} (h : b ≤ a) : nI a - nI b = nI (a - b) := by
  obtain ⟨c, rfl⟩ : ∃ c, a = c + b := ⟨a - b, by omega⟩
  rw [← nI_add, Int32.add_sub_cancel, Nat.add_sub_cancel]
theorem pk_m1 (n : Nat) : nI (n + 1) + (-1) = nI n := by
  rw [← nI_1, Int32.add_assoc, show (1 : Int32) + (-1) = 0 from rfl, Int32.add_zero]
theorem pk_mul (a b : Nat) : nI a * nI b = nI (a * b) := (Int32.ofNat_mul a b).symm
theorem pk_div {a d : Nat} (ha : a < 2 ^ 31) (h0 : 0 < d) (hd : d < 2 ^ 31) : nI a / nI d = nI (a / d) := by
  apply Int32.toInt_inj.mp
  rw [lg_idiv_nonneg (by rw [nI_toInt ha]; omega) (by rw [nI_toInt hd]; omega), nI_toInt ha, nI_toInt hd, nI_toInt (Nat.lt_of_le_of_lt (Nat.div_le_self a d) ha)]
  first | rfl | exact (Int.natCast_ediv _ _).symm
theorem pk_rem {a d : Nat} (ha : a < 2 ^ 31) (h0 : 0 < d) (hd : d < 2 ^ 31) : nI a - nI a / nI d * nI d = nI (a % d) := by
  rw [pk_div ha h0 hd, pk_mul, pk_sub (Nat.div_mul_le_self a d)]
  exact congrArg nI (by have := Nat.div_add_mod' a d; omega)
theorem pk_ix (x : Int32) {n : Nat} (hn : n < 2 ^ 31) : x < 0 ∨ nI n ≤ x ∨ ∃ j : Nat, j < n ∧ x = nI j := by
  by_cases h : x < 0
  · exact Or.inl h
  · obtain ⟨j, hj, rfl⟩ := nI_of h
    by_cases h2 : j < n
    · exact Or.inr (Or.inr ⟨j, h2, rfl⟩)
    · exact Or.inr (Or.inl (nI_le (by omega) hj))
theorem pk_le {x y : Int32} {A B : Prop} (a b : Nat) (f : a ≤ b → A) (g : b < a → B) (hx : x = nI a := by rfl) (hy : y = nI b := by rfl) (ha : a < 2 ^ 31 := by omega) (hb : b < 2 ^ 31 := by omega) : (x ≤ y → A) ∧ (¬ x ≤ y → B) := by
  subst hx hy
  rw [nI_leI ha hb]
  exact ⟨f, fun z => g (by omega)⟩
theorem pk_lt {x y : Int32} {A B : Prop} (a b : Nat) (f : a < b → A) (g : b ≤ a → B) (hx : x = nI a := by rfl) (hy : y = nI b := by rfl) (ha : a < 2 ^ 31 := by omega) (hb : b < 2 ^ 31 := by omega) : (x < y → A) ∧ (¬ x < y → B) := by
  subst hx hy
  rw [nI_ltI ha hb]
  exact ⟨f, fun z => g (by omega)⟩
theorem pk_eq {x y : Int32} {A B : Prop} (a b : Nat) (f : a = b → A) (g : a ≠ b → B) (hx : x = nI a := by rfl) (hy : y = nI b := by rfl) (ha : a < 2 ^ 31 := by omega) (hb : b < 2 ^ 31 := by omega) : (x = y → A) ∧ (¬ x = y → B) := by
  subst hx hy
  rw [nI_eq ha hb]
  exact ⟨f, g⟩
theorem pk_in {x : Int32} (n N : Nat) (h : n < N) (hx : x = nI n := by rfl) (hN : N < 2 ^ 31 := by omega) : vp_in x N := by
  subst hx
  exact vp_in_nI h hN
theorem pk_cl {x : Int32} (n : Nat) (hx : x = nI n := by rfl) (h : n < 2 ^ 31 := by omega) : x.toNatClampNeg = n := by
  subst hx
  exact nI_clamp h
theorem pk_tn {n : Nat} (h : n < 2 ^ 32) : (nI n).toBitVec.toNat = n := Nat.mod_eq_of_lt h
theorem pk_and (x : Int32) {m : Int32} (k : Nat) (hm : m.toBitVec.toNat = 2 ^ k - 1) : x &&& m = nI (x.toBitVec.toNat % 2 ^ k) := by
  apply Int32.toBitVec_inj.mp
  apply BitVec.eq_of_toNat_eq
  rw [Int32.toBitVec_and, BitVec.toNat_and, hm, Nat.and_two_pow_sub_one_eq_mod]
  show _ = (BitVec.ofNat 32 _).toNat
  rw [BitVec.toNat_ofNat]
  exact (Nat.mod_eq_of_lt (Nat.lt_of_le_of_lt (Nat.mod_le _ _) x.toBitVec.isLt)).symm
theorem pk_andN {n : Nat} (h : n < 2 ^ 32) {m : Int32} (k : Nat) (hm : m.toBitVec.toNat = 2 ^ k - 1) : nI n &&& m = nI (n % 2 ^ k) := by
  rw [pk_and _ k hm, pk_tn h]
theorem pk_andE (x : Int32) {m : Int32} (k : Nat) (hm : m.toBitVec.toNat = 2 ^ k - 1) : ∃ j : Nat, j < 2 ^ k ∧ x &&& m = nI j := ⟨_, Nat.mod_lt _ (Nat.two_pow_pos k), pk_and x k hm⟩
theorem pk_andIn (x : Int32) {m : Int32} (k : Nat) (hm : m.toBitVec.toNat = 2 ^ k - 1) (hk : k ≤ 30) : vp_in (x &&& m) (2 ^ k) := by
  obtain ⟨j, hj, e⟩ := pk_andE x k hm
  rw [e]
  exact vp_in_nI hj (Nat.lt_of_le_of_lt (Nat.pow_le_pow_right (by decide) hk) (by decide))
end
end
section
/-! the mathematics of the tables, apart from any printed predicate.
A table T t p (t: the reference's number of a token, p: a place) holds 0 for no outcome, 1 for fails, n + 2 for n letters. -/
section
/-- how many i below n have q i known -/
def pg_cn (q : Nat → Nat) : Nat → Nat
  | 0 => 0
  | n + 1 => pg_cn q n + (if q n = 0 then 0 else 1)
theorem pg_cn_s0 {q : Nat → Nat} {n : Nat} (h : q n = 0) : pg_cn q (n + 1) = pg_cn q n := by
  have e : pg_cn q (n + 1) = pg_cn q n + (if q n = 0 then 0 else 1) := rfl
  rw [e]; simp [h]
theorem pg_cn_s1 {q : Nat → Nat} {n : Nat} (h : q n ≠ 0) : pg_cn q (n + 1) = pg_cn q n + 1 := by
  have e : pg_cn q (n + 1) = pg_cn q n + (if q n = 0 then 0 else 1) := rfl
  rw [e]; simp [h]
theorem pg_cn_le (q : Nat → Nat) (n : Nat) : pg_cn q n ≤ n := by
  induction n with
  | zero => exact Nat.le_refl 0
  | succ n ih =>
    by_cases z : q n = 0
    · rw [pg_cn_s0 z]; omega
    · rw [pg_cn_s1 z]; omega
theorem pg_cn_mono {q q' : Nat → Nat} (n : Nat) (h : ∀ t, t < n → q t ≠ 0 → q' t ≠ 0) : pg_cn q n ≤ pg_cn q' n := by
  induction n with
  | zero => exact Nat.le_refl 0
  | succ n ih =>
    have h1 := ih (fun t ht => h t (by omega))
    by_cases z : q n = 0
    · rw [pg_cn_s0 z]
      by_cases z' : q' n = 0
      · rw [pg_cn_s0 z']; exact h1
      · rw [pg_cn_s1 z']; omega
    · rw [pg_cn_s1 z, pg_cn_s1 (h n (by omega) z)]; omega
theorem pg_cn_strict {q q' : Nat → Nat} (n : Nat) (h : ∀ t, t < n → q t ≠ 0 → q' t ≠ 0) (s : Nat) (hs : s < n) (h0 : q s = 0) (h1 : q' s ≠ 0) : pg_cn q n < pg_cn q' n := by
  induction n with
  | zero => omega
  | succ n ih =>
    by_cases e : s = n
    · subst e
      rw [pg_cn_s0 h0, pg_cn_s1 h1]
      have := pg_cn_mono s (fun t ht => h t (by omega))
      omega
    · have h2 := ih (fun t ht => h t (by omega)) (by omega)
      by_cases z : q n = 0
      · rw [pg_cn_s0 z]
        by_cases z' : q' n = 0
        · rw [pg_cn_s0 z']; exact h2
        · rw [pg_cn_s1 z']; omega
      · rw [pg_cn_s1 z, pg_cn_s1 (h n (by omega) z)]; omega
theorem pg_cn_congr {q q' : Nat → Nat} (n : Nat) (h : ∀ t, t < n → (q t = 0 ↔ q' t = 0)) : pg_cn q n = pg_cn q' n := by
  apply Nat.le_antisymm
  · exact pg_cn_mono n (fun t ht z z' => z ((h t ht).mpr z'))
  · exact pg_cn_mono n (fun t ht z z' => z ((h t ht).mp z'))
theorem pg_cn_up {q : Nat → Nat} {a : Nat} (b : Nat) (h : a ≤ b) : pg_cn q a ≤ pg_cn q b := by
  induction b with
  | zero => have : a = 0 := by omega
            subst this; exact Nat.le_refl _
  | succ b ih =>
    by_cases e : a = b + 1
    · subst e; exact Nat.le_refl _
    · have := ih (by omega)
      by_cases z : q b = 0
      · rw [pg_cn_s0 z]; exact this
      · rw [pg_cn_s1 z]; omega
/-- the known ones are numbered without a gap -/
theorem pg_cn_lt {q : Nat → Nat} {a b : Nat} (h : a < b) (ha : q a ≠ 0) : pg_cn q a < pg_cn q b := by
  have := pg_cn_up (q := q) b (show a + 1 ≤ b from h)
  rw [pg_cn_s1 ha] at this
  omega
theorem pg_cn_inj {q : Nat → Nat} {a b : Nat} (ha : q a ≠ 0) (hb : q b ≠ 0) (h : pg_cn q a = pg_cn q b) : a = b := by
  rcases Nat.lt_trichotomy a b with x | x | x
  · have := pg_cn_lt x ha; omega
  · exact x
  · have := pg_cn_lt x hb; omega
theorem pg_cn_ex {q : Nat → Nat} (n e : Nat) (h : e < pg_cn q n) : ∃ t, t < n ∧ q t ≠ 0 ∧ pg_cn q t = e := by
  induction n with
  | zero => exact absurd h (Nat.not_lt_zero e)
  | succ n ih =>
    by_cases z : q n = 0
    · rw [pg_cn_s0 z] at h
      obtain ⟨t, h1, h2, h3⟩ := ih h
      exact ⟨t, by omega, h2, h3⟩
    · rw [pg_cn_s1 z] at h
      by_cases e1 : e < pg_cn q n
      · obtain ⟨t, h1, h2, h3⟩ := ih e1
        exact ⟨t, by omega, h2, h3⟩
      · exact ⟨n, by omega, z, by omega⟩
end
section
def pg_le (T C : Nat → Nat → Nat) : Prop := ∀ t p, T t p = 0 ∨ T t p = C t p
def pg_j (a b : Nat) : Nat := if b < 2 then b else a + b - 2
/-- x, then y behind it -/
def pg_th (T : Nat → Nat → Nat) (x y p : Nat) : Nat := if T x p < 2 then T x p else pg_j (T x p) (T y (p + (T x p - 2)))
def pg_el (T : Nat → Nat → Nat) (x y p : Nat) : Nat := if T x p = 1 then T y p else T x p
def pg_F (co fi la ca : Nat → Nat) (li : Nat → Nat → Nat) (len : Nat) (T : Nat → Nat → Nat) (t p : Nat) : Nat :=
  if co t = 0 then li t p
  else if co t = 1 then (if p < len then 3 else 1)
  else if co t = 2 then 2
  else if co t = 3 then (if ca t = 0 then 1 else T (ca t - 1) p)
  else if co t = 4 then pg_th T (fi t) (la t) p
  else if co t = 5 then pg_el T (fi t) (la t) p
  else if T (la t) p = 0 then 0
  else if co t = 6 then (if T (la t) p ≤ 2 then 2 else pg_th T (la t) t p)
  else if co t = 7 then (if T (la t) p < 2 then 2 else T (la t) p)
  else if co t = 8 then (if T (la t) p < 2 then 1 else 2)
  else if co t = 9 then (if T (la t) p < 2 then 2 else 1)
  else 0
theorem pg_th_mono {T C : Nat → Nat → Nat} (h : pg_le T C) (x y p : Nat) : pg_th T x y p = 0 ∨ pg_th T x y p = pg_th C x y p := by
  unfold pg_th
  rcases h x p with ha | ha
  · rw [ha]; exact Or.inl rfl
  · rw [← ha]
    by_cases z : T x p < 2
    · rw [if_pos z, if_pos z]; exact Or.inr rfl
    · rw [if_neg z, if_neg z]
      rcases h y (p + (T x p - 2)) with hb | hb
      · rw [hb]; exact Or.inl rfl
      · rw [← hb]; exact Or.inr rfl
theorem pg_el_mono {T C : Nat → Nat → Nat} (h : pg_le T C) (x y p : Nat) : pg_el T x y p = 0 ∨ pg_el T x y p = pg_el C x y p := by
  unfold pg_el
  rcases h x p with ha | ha
  · rw [ha]; exact Or.inl rfl
  · rw [← ha]
    by_cases z : T x p = 1
    · rw [if_pos z, if_pos z]; exact h y p
    · rw [if_neg z, if_neg z]; exact Or.inr rfl
variable {co fi la ca : Nat → Nat} {li : Nat → Nat → Nat} {len : Nat}
theorem pg_F_mono {T C : Nat → Nat → Nat} (h : pg_le T C) (t p : Nat) : pg_F co fi la ca li len T t p = 0 ∨ pg_F co fi la ca li len T t p = pg_F co fi la ca li len C t p := by
  unfold pg_F
  by_cases c0 : co t = 0
  · rw [if_pos c0, if_pos c0]; exact Or.inr rfl
  rw [if_neg c0, if_neg c0]
  by_cases c1 : co t = 1
  · rw [if_pos c1, if_pos c1]; exact Or.inr rfl
  rw [if_neg c1, if_neg c1]
  by_cases c2 : co t = 2
  · rw [if_pos c2, if_pos c2]; exact Or.inr rfl
  rw [if_neg c2, if_neg c2]
  by_cases c3 : co t = 3
  · rw [if_pos c3, if_pos c3]
    by_cases z : ca t = 0
    · rw [if_pos z, if_pos z]; exact Or.inr rfl
    · rw [if_neg z, if_neg z]; exact h _ _
  rw [if_neg c3, if_neg c3]
  by_cases c4 : co t = 4
  · rw [if_pos c4, if_pos c4]; exact pg_th_mono h _ _ _
  rw [if_neg c4, if_neg c4]
  by_cases c5 : co t = 5
  · rw [if_pos c5, if_pos c5]; exact pg_el_mono h _ _ _
  rw [if_neg c5, if_neg c5]
  rcases h (la t) p with ha | ha
  · rw [if_pos ha]; exact Or.inl rfl
  rw [← ha]
  by_cases z : T (la t) p = 0
  · rw [if_pos z]; exact Or.inl rfl
  rw [if_neg z, if_neg z]
  by_cases c6 : co t = 6
  · rw [if_pos c6, if_pos c6]
    by_cases y : T (la t) p ≤ 2
    · rw [if_pos y, if_pos y]; exact Or.inr rfl
    · rw [if_neg y, if_neg y]; exact pg_th_mono h _ _ _
  rw [if_neg c6, if_neg c6]
  exact Or.inr rfl
/-- an outcome at a place follows from outcomes there and behind it -/
theorem pg_F_loc {T C : Nat → Nat → Nat} {p : Nat} (h : ∀ t q, p ≤ q → T t q = C t q) (t : Nat) : pg_F co fi la ca li len T t p = pg_F co fi la ca li len C t p := by
  have h0 : ∀ x, T x p = C x p := fun x => h x p (Nat.le_refl p)
  have h1 : ∀ x k, T x (p + k) = C x (p + k) := fun x k => h x (p + k) (Nat.le_add_right p k)
  unfold pg_F pg_th pg_el
  simp only [h0, h1]
/-- bounds: outcomes stay within the text -/
def pg_B (tk len : Nat) (T : Nat → Nat → Nat) : Prop := ∀ t p, T t p = 0 ∨ (t < tk ∧ p ≤ len ∧ T t p + p ≤ len + 2)
theorem pg_B_le {tk : Nat} {T : Nat → Nat → Nat} (h : pg_B tk len T) (t p : Nat) : T t p ≤ len + 2 := by
  rcases h t p with a | a <;> omega
theorem pg_B_p {tk : Nat} {T : Nat → Nat → Nat} (h : pg_B tk len T) {t p : Nat} (hp : p ≤ len) : T t p + p ≤ len + 2 := by
  rcases h t p with a | a <;> omega
theorem pg_th_B {tk : Nat} {T : Nat → Nat → Nat} (h : pg_B tk len T) (x y : Nat) {p : Nat} (hp : p ≤ len) : pg_th T x y p + p ≤ len + 2 := by
  have ha := pg_B_p h (t := x) hp
  unfold pg_th
  by_cases z : T x p < 2
  · rw [if_pos z]; exact ha
  · rw [if_neg z]
    have hb := pg_B_p h (t := y) (p := p + (T x p - 2)) (by omega)
    unfold pg_j
    by_cases y2 : T y (p + (T x p - 2)) < 2
    · rw [if_pos y2]; omega
    · rw [if_neg y2]; omega
theorem pg_F_B {tk : Nat} {T : Nat → Nat → Nat} (hl : ∀ t p, li t p = 1 ∨ (li t p = 3 ∧ p < len)) (h : pg_B tk len T) (t : Nat) {p : Nat} (hp : p ≤ len) : pg_F co fi la ca li len T t p + p ≤ len + 2 := by
  have h1 := pg_B_p h (t := la t) hp
  have h2 := pg_B_p h (t := fi t) hp
  have h3 := pg_B_p h (t := ca t - 1) hp
  have h4 := pg_th_B h (fi t) (la t) hp
  have h5 := pg_th_B h (la t) t hp
  have h6 := hl t p
  unfold pg_F
  by_cases c0 : co t = 0
  · rw [if_pos c0]; omega
  rw [if_neg c0]
  by_cases c1 : co t = 1
  · rw [if_pos c1]
    by_cases z : p < len
    · rw [if_pos z]; omega
    · rw [if_neg z]; omega
  rw [if_neg c1]
  by_cases c2 : co t = 2
  · rw [if_pos c2]; omega
  rw [if_neg c2]
  by_cases c3 : co t = 3
  · rw [if_pos c3]
    by_cases z : ca t = 0
    · rw [if_pos z]; omega
    · rw [if_neg z]; exact h3
  rw [if_neg c3]
  by_cases c4 : co t = 4
  · rw [if_pos c4]; exact h4
  rw [if_neg c4]
  by_cases c5 : co t = 5
  · rw [if_pos c5]; unfold pg_el
    by_cases z : T (fi t) p = 1
    · rw [if_pos z]; exact h1
    · rw [if_neg z]; exact h2
  rw [if_neg c5]
  by_cases z : T (la t) p = 0
  · rw [if_pos z]; omega
  rw [if_neg z]
  by_cases c6 : co t = 6
  · rw [if_pos c6]
    by_cases y : T (la t) p ≤ 2
    · rw [if_pos y]; omega
    · rw [if_neg y]; exact h5
  rw [if_neg c6]
  by_cases c7 : co t = 7
  · rw [if_pos c7]
    by_cases y : T (la t) p < 2
    · rw [if_pos y]; omega
    · rw [if_neg y]; exact h1
  rw [if_neg c7]
  by_cases c8 : co t = 8
  · rw [if_pos c8]
    by_cases y : T (la t) p < 2
    · rw [if_pos y]; omega
    · rw [if_neg y]; omega
  rw [if_neg c8]
  by_cases c9 : co t = 9
  · rw [if_pos c9]
    by_cases y : T (la t) p < 2
    · rw [if_pos y]; omega
    · rw [if_neg y]; omega
  rw [if_neg c9]; omega
theorem pg_F_10 {T : Nat → Nat → Nat} {t : Nat} (h : co t = 10) (p : Nat) : pg_F co fi la ca li len T t p = 0 := by
  unfold pg_F
  simp [h]
end
end
section
/-! both tables are the least fixed point of pg_F -/
section
variable {co fi la ca : Nat → Nat} {li : Nat → Nat → Nat} {len tk : Nat}
def pg_Fix (co fi la ca : Nat → Nat) (li : Nat → Nat → Nat) (len tk : Nat) (T : Nat → Nat → Nat) : Prop := ∀ t p, t < tk → p ≤ len → T t p = pg_F co fi la ca li len T t p
def pg_Inv (co fi la ca : Nat → Nat) (li : Nat → Nat → Nat) (len tk : Nat) (T : Nat → Nat → Nat) : Prop :=
  pg_B tk len T ∧ (∀ t p, T t p = 0 ∨ T t p = pg_F co fi la ca li len T t p) ∧ (∀ C, pg_Fix co fi la ca li len tk C → pg_le T C)
def pg_set (T : Nat → Nat → Nat) (t p v : Nat) : Nat → Nat → Nat := fun t' p' => if t' = t ∧ p' = p then v else T t' p'
theorem pg_set_s {T : Nat → Nat → Nat} {t p v : Nat} : pg_set T t p v t p = v := if_pos ⟨rfl, rfl⟩
theorem pg_set_n {T : Nat → Nat → Nat} {t p v t' p' : Nat} (h : ¬ (t' = t ∧ p' = p)) : pg_set T t p v t' p' = T t' p' := if_neg h
theorem pg_set_le {T : Nat → Nat → Nat} {t p v : Nat} (h : T t p = 0) : pg_le T (pg_set T t p v) := by
  intro t' p'
  by_cases e : t' = t ∧ p' = p
  · obtain ⟨e1, e2⟩ := e
    rw [e1, e2]; exact Or.inl h
  · rw [pg_set_n e]; exact Or.inr rfl
theorem pg_Inv0 : pg_Inv co fi la ca li len tk (fun _ _ => 0) := ⟨fun _ _ => Or.inl rfl, fun _ _ => Or.inl rfl, fun _ _ _ _ => Or.inl rfl⟩
theorem pg_step {T : Nat → Nat → Nat} (hl : ∀ t p, li t p = 1 ∨ (li t p = 3 ∧ p < len)) (I : pg_Inv co fi la ca li len tk T) {t p : Nat} (ht : t < tk) (hp : p ≤ len) (hz : T t p = 0) : pg_Inv co fi la ca li len tk (pg_set T t p (pg_F co fi la ca li len T t p)) := by
  obtain ⟨hB, hS, hC⟩ := I
  have hle := pg_set_le (v := pg_F co fi la ca li len T t p) hz
  refine ⟨fun t' p' => ?_, fun t' p' => ?_, fun C hF t' p' => ?_⟩
  · by_cases e : t' = t ∧ p' = p
    · obtain ⟨rfl, rfl⟩ := e
      rw [pg_set_s]
      exact Or.inr ⟨ht, hp, pg_F_B hl hB _ hp⟩
    · rw [pg_set_n e]; exact hB t' p'
  · have hm := pg_F_mono (co := co) (fi := fi) (la := la) (ca := ca) (li := li) (len := len) hle t' p'
    by_cases e : t' = t ∧ p' = p
    · obtain ⟨rfl, rfl⟩ := e
      rw [pg_set_s]; exact hm
    · rw [pg_set_n e]
      rcases hS t' p' with a | a
      · exact Or.inl a
      · rw [← a] at hm; exact hm
  · by_cases e : t' = t ∧ p' = p
    · obtain ⟨rfl, rfl⟩ := e
      rw [pg_set_s, hF _ _ ht hp]
      exact pg_F_mono (hC C hF) _ _
    · rw [pg_set_n e]; exact hC C hF t' p'
theorem pg_uniq {T T' : Nat → Nat → Nat} (I : pg_Inv co fi la ca li len tk T) (F : pg_Fix co fi la ca li len tk T) (I' : pg_Inv co fi la ca li len tk T') (F' : pg_Fix co fi la ca li len tk T') (t p : Nat) : T t p = T' t p := by
  rcases I.2.2 T' F' t p with a | a
  · rcases I'.2.2 T F t p with b | b
    · rw [a, b]
    · exact b.symm
  · exact a
/-- a table of which nothing more follows is a fixed point -/
theorem pg_fix_of {T : Nat → Nat → Nat} (I : pg_Inv co fi la ca li len tk T) (h : ∀ t p, t < tk → p ≤ len → T t p = 0 → pg_F co fi la ca li len T t p = 0) : pg_Fix co fi la ca li len tk T := by
  intro t p ht hp
  rcases I.2.1 t p with a | a
  · rw [a, h t p ht hp a]
  · exact a
/-- a token that defines never has an outcome -/
theorem pg_def0 {T : Nat → Nat → Nat} (I : pg_Inv co fi la ca li len tk T) {t : Nat} (h : co t = 10) (p : Nat) : T t p = 0 := by
  rcases I.2.1 t p with a | a
  · exact a
  · rw [a, pg_F_10 h]
end
section
/-- the picture of an outcome in the tables of both sides -/
def pg_ov : Nat → Int32
  | 0 => -2
  | 1 => -1
  | n + 2 => nI n
theorem pg_ov_num {n : Nat} (h : 2 ≤ n) : pg_ov n = nI (n - 2) := by
  obtain ⟨m, rfl⟩ : ∃ m, n = m + 2 := ⟨n - 2, by omega⟩
  show nI m = nI (m + 2 - 2)
  rw [Nat.add_sub_cancel]
theorem pg_ov_st : ∀ n, n < 24 → (pg_ov n = -2 ↔ n = 0) := by decide +kernel
theorem pg_ov_fa : ∀ n, n < 24 → (pg_ov n = -1 ↔ n = 1) := by decide +kernel
theorem pg_ov_neg : ∀ n, n < 24 → (pg_ov n < 0 ↔ n < 2) := by decide +kernel
theorem pg_ov_ge : ∀ n, n < 24 → (0 ≤ pg_ov n ↔ 2 ≤ n) := by decide +kernel
theorem pg_ov_le0 : ∀ n, n < 24 → (pg_ov n ≤ 0 ↔ n ≤ 2) := by decide +kernel
theorem pg_ov_0 : ∀ n, n < 24 → (pg_ov n = 0 ↔ n = 2) := by decide +kernel
/-- the picture of a rule's expression -/
def pg_rv : Nat → Int32
  | 0 => -1
  | n + 1 => nI n
end
end
section
/-! the numbering, the relation without the tuples, and how a token keeps it -/
section
def pg_upN (f : Nat → Nat) (k v : Nat) : Nat → Nat := fun j => if j = k then v else f j
theorem pg_upN_s {f : Nat → Nat} {k v : Nat} : pg_upN f k v k = v := if_pos rfl
theorem pg_upN_n {f : Nat → Nat} {k v j : Nat} (h : j ≠ k) : pg_upN f k v j = f j := if_neg h
/-- a store into a picture is the picture of the store -/
theorem pg_upI (f : Nat → Nat) (k v : Nat) : upd (fun t => nI (f t)) k (nI v) = fun t => nI (pg_upN f k v t) := by
  funext j
  show (if j = k then nI v else nI (f j)) = nI (if j = k then v else f j)
  by_cases e : j = k
  · rw [if_pos e, if_pos e]
  · rw [if_neg e, if_neg e]
def pg_nd (co : Nat → Nat) : Nat → Nat := fun t => if co t = 10 then 0 else 1
/-- the component's number of the reference's token -/
def pg_g (co : Nat → Nat) (t : Nat) : Nat := pg_cn (pg_nd co) t
theorem pg_nd_1 {co : Nat → Nat} {t : Nat} (h : co t ≠ 10) : pg_nd co t ≠ 0 := by
  show (if co t = 10 then 0 else 1) ≠ 0
  rw [if_neg h]; omega
theorem pg_nd_0 {co : Nat → Nat} {t : Nat} (h : co t = 10) : pg_nd co t = 0 := by
  show (if co t = 10 then 0 else 1) = 0
  rw [if_pos h]
theorem pg_nd_c {co : Nat → Nat} {t : Nat} (h : pg_nd co t ≠ 0) : co t ≠ 10 := fun e => h (pg_nd_0 e)
theorem pg_g_le (co : Nat → Nat) (t : Nat) : pg_g co t ≤ t := pg_cn_le _ t
theorem pg_g_lt {co : Nat → Nat} {a b : Nat} (h : a < b) (ha : co a ≠ 10) : pg_g co a < pg_g co b := pg_cn_lt h (pg_nd_1 ha)
theorem pg_g_inj {co : Nat → Nat} {a b : Nat} (ha : co a ≠ 10) (hb : co b ≠ 10) (h : pg_g co a = pg_g co b) : a = b := pg_cn_inj (pg_nd_1 ha) (pg_nd_1 hb) h
theorem pg_g_ex {co : Nat → Nat} {n e : Nat} (h : e < pg_g co n) : ∃ t, t < n ∧ co t ≠ 10 ∧ pg_g co t = e := by
  obtain ⟨t, h1, h2, h3⟩ := pg_cn_ex n e h
  exact ⟨t, h1, pg_nd_c h2, h3⟩
theorem pg_g_upN {co : Nat → Nat} {k v t : Nat} (h : t ≤ k) : pg_g (pg_upN co k v) t = pg_g co t := by
  refine pg_cn_congr t (fun s hs => ?_)
  show (if pg_upN co k v s = 10 then 0 else 1) = 0 ↔ (if co s = 10 then 0 else 1) = 0
  rw [pg_upN_n (show s ≠ k by omega)]
theorem pg_g_new {co : Nat → Nat} {k v : Nat} (h : v ≠ 10) : pg_g (pg_upN co k v) (k + 1) = pg_g co k + 1 := by
  have e : pg_g (pg_upN co k v) (k + 1) = pg_g (pg_upN co k v) k + 1 := pg_cn_s1 (pg_nd_1 (by rw [pg_upN_s]; exact h))
  rw [e, pg_g_upN (Nat.le_refl k)]
theorem pg_g_new0 {co : Nat → Nat} {k : Nat} : pg_g (pg_upN co k 10) (k + 1) = pg_g co k := by
  have e : pg_g (pg_upN co k 10) (k + 1) = pg_g (pg_upN co k 10) k := pg_cn_s0 (pg_nd_0 pg_upN_s)
  rw [e, pg_g_upN (Nat.le_refl k)]
end
section
/-- one expression -/
def pg_E (tk : Nat) (co ar fi la : Nat → Nat) (xc xa xf xs : Nat → Int32) (t : Nat) : Prop :=
  xc (pg_g co t) = nI (co t) ∧ xa (pg_g co t) = nI (ar t) ∧
  (co t = 4 ∨ co t = 5 → fi t < tk ∧ co (fi t) ≠ 10 ∧ la t < tk ∧ co (la t) ≠ 10 ∧ xf (pg_g co t) = nI (pg_g co (fi t)) ∧ xs (pg_g co t) = nI (pg_g co (la t))) ∧
  (6 ≤ co t → la t < tk ∧ co (la t) ≠ 10 ∧ xf (pg_g co t) = nI (pg_g co (la t)))
/-- a place of the stack, or a rule's expression -/
def pg_P (tk : Nat) (co : Nat → Nat) (n : Nat) (x : Int32) : Prop := n < tk ∧ co n ≠ 10 ∧ x = nI (pg_g co n)
def pg_R (tk h : Nat) (co ar fi la st ru : Nat → Nat) (xc xa xf xs xst xr : Nat → Int32) : Prop :=
  tk ≤ 40 ∧ h ≤ tk ∧ (∀ t, la t < 40) ∧ (∀ t, ar t < 4) ∧ (∀ t, t < tk → co t ≤ 10) ∧
  (∀ t, t < tk → co t ≠ 10 → pg_E tk co ar fi la xc xa xf xs t) ∧
  (∀ i, i < h → pg_P tk co (st i) (xst i)) ∧
  (∀ r, r < 4 → (ru r = 0 ∧ xr r = -1) ∨ ∃ n, ru r = n + 1 ∧ pg_P tk co n (xr r))
theorem pg_P_up {tk : Nat} {co : Nat → Nat} {n v : Nat} {x : Int32} (h : pg_P tk co n x) : pg_P (tk + 1) (pg_upN co tk v) n x := by
  obtain ⟨h1, h2, h3⟩ := h
  refine ⟨by omega, ?_, ?_⟩
  · rw [pg_upN_n (by omega)]; exact h2
  · rw [pg_g_upN (by omega)]; exact h3
/-- a token that makes an expression; k parts are taken off -/
theorem pg_R_tok {tk h k c a F1 L1 : Nat} {co ar fi la fi' la' st ru : Nat → Nat} {xc xa xf xs xst xr : Nat → Int32} {XF XS : Int32}
    (R : pg_R tk h co ar fi la st ru xc xa xf xs xst xr) (htk : tk < 40) (hk : k ≤ h) (hc : c ≤ 9) (ha : a < 4)
    (hf : ∀ t, t ≠ tk → fi' t = fi t) (hl : ∀ t, t ≠ tk → la' t = la t) (hl40 : la' tk < 40) (hF : fi' tk = F1) (hL : la' tk = L1)
    (h2 : c = 4 ∨ c = 5 → pg_P tk co F1 XF ∧ pg_P tk co L1 XS) (h1 : 6 ≤ c → pg_P tk co L1 XF) :
    pg_R (tk + 1) (h - k + 1) (pg_upN co tk c) (pg_upN ar tk a) fi' la' (pg_upN st (h - k) tk) ru
      (upd xc (pg_g co tk) (nI c)) (upd xa (pg_g co tk) (nI a)) (upd xf (pg_g co tk) XF) (upd xs (pg_g co tk) XS) (upd xst (h - k) (nI (pg_g co tk))) xr := by
  obtain ⟨r1, r2, r3, r4, r5, r6, r7, r8⟩ := R
  have hc10 : c ≠ 10 := by omega
  refine ⟨by omega, by omega, fun t => ?_, fun t => ?_, fun t ht => ?_, fun t ht hn => ?_, fun i hi => ?_, fun r hr => ?_⟩
  · by_cases e : t = tk
    · subst e; exact hl40
    · rw [hl t e]; exact r3 t
  · by_cases e : t = tk
    · subst e; rw [pg_upN_s]; exact ha
    · rw [pg_upN_n e]; exact r4 t
  · by_cases e : t = tk
    · subst e; rw [pg_upN_s]; omega
    · rw [pg_upN_n e]; exact r5 t (by omega)
  · by_cases e : t = tk
    · subst e
      unfold pg_E
      rw [pg_g_upN (Nat.le_refl t), pg_upN_s, pg_upN_s, hF, hL]
      refine ⟨if_pos rfl, if_pos rfl, fun z => ?_, fun z => ?_⟩
      · obtain ⟨⟨a1, a2, a3⟩, ⟨b1, b2, b3⟩⟩ := h2 z
        refine ⟨by omega, ?_, by omega, ?_, ?_, ?_⟩
        · rw [pg_upN_n (by omega)]; exact a2
        · rw [pg_upN_n (by omega)]; exact b2
        · rw [pg_g_upN (by omega)]; exact (if_pos rfl).trans a3
        · rw [pg_g_upN (by omega)]; exact (if_pos rfl).trans b3
      · obtain ⟨b1, b2, b3⟩ := h1 z
        refine ⟨by omega, ?_, ?_⟩
        · rw [pg_upN_n (by omega)]; exact b2
        · rw [pg_g_upN (by omega)]; exact (if_pos rfl).trans b3
    · have ht' : t < tk := by omega
      rw [pg_upN_n e] at hn
      obtain ⟨e1, e2, e3, e4⟩ := r6 t ht' hn
      have hg : pg_g co t ≠ pg_g co tk := by have := pg_g_lt ht' hn; omega
      unfold pg_E
      rw [pg_g_upN (by omega : t ≤ tk), pg_upN_n e, pg_upN_n e, hf t e, hl t e]
      refine ⟨(if_neg hg).trans e1, (if_neg hg).trans e2, fun z => ?_, fun z => ?_⟩
      · obtain ⟨a1, a2, a3, a4, a5, a6⟩ := e3 z
        refine ⟨by omega, ?_, by omega, ?_, ?_, ?_⟩
        · rw [pg_upN_n (by omega)]; exact a2
        · rw [pg_upN_n (by omega)]; exact a4
        · rw [pg_g_upN (by omega)]; exact (if_neg hg).trans a5
        · rw [pg_g_upN (by omega)]; exact (if_neg hg).trans a6
      · obtain ⟨a1, a2, a3⟩ := e4 z
        refine ⟨by omega, ?_, ?_⟩
        · rw [pg_upN_n (by omega)]; exact a2
        · rw [pg_g_upN (by omega)]; exact (if_neg hg).trans a3
  · by_cases e : i = h - k
    · subst e
      rw [pg_upN_s]
      refine ⟨by omega, ?_, ?_⟩
      · rw [pg_upN_s]; exact hc10
      · rw [pg_g_upN (Nat.le_refl tk)]; exact if_pos rfl
    · rw [pg_upN_n e]
      have hx : upd xst (h - k) (nI (pg_g co tk)) i = xst i := if_neg e
      rw [hx]
      exact pg_P_up (r7 i (by omega))
  · rcases r8 r hr with a | ⟨n, n1, n2⟩
    · exact Or.inl a
    · exact Or.inr ⟨n, n1, pg_P_up n2⟩
/-- DEFINE takes one off -/
theorem pg_R_def {tk h q a L1 : Nat} {co ar fi la la' st ru : Nat → Nat} {xc xa xf xs xst xr : Nat → Int32}
    (R : pg_R tk h co ar fi la st ru xc xa xf xs xst xr) (htk : tk < 40) (hh : h = q + 1) (ha : a < 4)
    (hl : ∀ t, t ≠ tk → la' t = la t) (hL : la' tk = L1) (hq : L1 = st q) :
    pg_R (tk + 1) q (pg_upN co tk 10) (pg_upN ar tk a) fi la' st (pg_upN ru a (L1 + 1)) xc xa xf xs xst (upd xr a (xst q)) := by
  obtain ⟨r1, r2, r3, r4, r5, r6, r7, r8⟩ := R
  have hp := r7 q (by omega)
  rw [← hq] at hp
  refine ⟨by omega, by omega, fun t => ?_, fun t => ?_, fun t ht => ?_, fun t ht hn => ?_, fun i hi => ?_, fun r hr => ?_⟩
  · by_cases e : t = tk
    · subst e; rw [hL]; have := hp.1; omega
    · rw [hl t e]; exact r3 t
  · by_cases e : t = tk
    · subst e; rw [pg_upN_s]; exact ha
    · rw [pg_upN_n e]; exact r4 t
  · by_cases e : t = tk
    · subst e; rw [pg_upN_s]; omega
    · rw [pg_upN_n e]; exact r5 t (by omega)
  · by_cases e : t = tk
    · subst e; exact absurd pg_upN_s hn
    · have ht' : t < tk := by omega
      rw [pg_upN_n e] at hn
      obtain ⟨e1, e2, e3, e4⟩ := r6 t ht' hn
      unfold pg_E
      rw [pg_g_upN (by omega : t ≤ tk), pg_upN_n e, pg_upN_n e, hl t e]
      refine ⟨e1, e2, fun z => ?_, fun z => ?_⟩
      · obtain ⟨a1, a2, a3, a4, a5, a6⟩ := e3 z
        refine ⟨by omega, ?_, by omega, ?_, ?_, ?_⟩
        · rw [pg_upN_n (by omega)]; exact a2
        · rw [pg_upN_n (by omega)]; exact a4
        · rw [pg_g_upN (by omega)]; exact a5
        · rw [pg_g_upN (by omega)]; exact a6
      · obtain ⟨a1, a2, a3⟩ := e4 z
        refine ⟨by omega, ?_, ?_⟩
        · rw [pg_upN_n (by omega)]; exact a2
        · rw [pg_g_upN (by omega)]; exact a3
  · exact pg_P_up (r7 i (by omega))
  · by_cases e : r = a
    · subst e
      rw [pg_upN_s]
      have hx : upd xr r (xst q) r = xst q := if_pos rfl
      rw [hx]
      exact Or.inr ⟨L1, rfl, pg_P_up hp⟩
    · rw [pg_upN_n e]
      have hx : upd xr a (xst q) r = xr r := if_neg e
      rw [hx]
      rcases r8 r hr with b | ⟨n, n1, n2⟩
      · exact Or.inl b
      · exact Or.inr ⟨n, n1, pg_P_up n2⟩
end
end
section
/-! sweeps over the table, both sides' -/
section
variable {co fi la ca : Nat → Nat} {li : Nat → Nat → Nat} {len tk : Nat}
/-- in the midst of a sweep that began with T0; the cells of D are done; x says whether something was learned -/
def pg_SW (co fi la ca : Nat → Nat) (li : Nat → Nat → Nat) (len tk : Nat) (T0 T : Nat → Nat → Nat) (D : Nat → Nat → Prop) (x : Int32) : Prop :=
  pg_Inv co fi la ca li len tk T ∧ pg_le T0 T ∧
  ((x = 0 ∧ T = T0 ∧ ∀ t p, t < tk → p ≤ len → D t p → T t p = 0 → pg_F co fi la ca li len T t p = 0) ∨ (x = 1 ∧ ∃ t p, T0 t p = 0 ∧ T t p ≠ 0))
theorem pg_sw0 {T : Nat → Nat → Nat} (I : pg_Inv co fi la ca li len tk T) {D : Nat → Nat → Prop} (hD : ∀ t p, ¬ D t p) : pg_SW co fi la ca li len tk T T D 0 :=
  ⟨I, fun _ _ => Or.inr rfl, Or.inl ⟨rfl, rfl, fun t p _ _ d => absurd d (hD t p)⟩⟩
theorem pg_sw_skip {T0 T : Nat → Nat → Nat} {D D' : Nat → Nat → Prop} {x : Int32} (S : pg_SW co fi la ca li len tk T0 T D x)
    (h : ∀ t p, t < tk → p ≤ len → D' t p → D t p ∨ T t p ≠ 0 ∨ pg_F co fi la ca li len T t p = 0) : pg_SW co fi la ca li len tk T0 T D' x := by
  obtain ⟨I, l, c⟩ := S
  refine ⟨I, l, ?_⟩
  rcases c with ⟨c1, c2, c3⟩ | c
  · refine Or.inl ⟨c1, c2, fun t p ht hp d z => ?_⟩
    rcases h t p ht hp d with a | a | a
    · exact c3 t p ht hp a z
    · exact absurd z a
    · exact a
  · exact Or.inr c
theorem pg_le_trans {A B C : Nat → Nat → Nat} (h : pg_le A B) (k : pg_le B C) : pg_le A C := by
  intro t p
  rcases h t p with a | a
  · exact Or.inl a
  · rcases k t p with b | b
    · exact Or.inl (a.trans b)
    · exact Or.inr (a.trans b)
theorem pg_sw_put {T0 T : Nat → Nat → Nat} {D D' : Nat → Nat → Prop} {x : Int32} (hl : ∀ t p, li t p = 1 ∨ (li t p = 3 ∧ p < len)) (S : pg_SW co fi la ca li len tk T0 T D x)
    {t p : Nat} (ht : t < tk) (hp : p ≤ len) (hz : T t p = 0) (hn : pg_F co fi la ca li len T t p ≠ 0) :
    pg_SW co fi la ca li len tk T0 (pg_set T t p (pg_F co fi la ca li len T t p)) D' 1 := by
  obtain ⟨I, l, c⟩ := S
  refine ⟨pg_step hl I ht hp hz, pg_le_trans l (pg_set_le hz), Or.inr ⟨rfl, t, p, ?_, ?_⟩⟩
  · rcases l t p with a | a
    · exact a
    · rw [a]; exact hz
  · rw [pg_set_s]; exact hn
theorem pg_sw_fix {T0 T : Nat → Nat → Nat} {D : Nat → Nat → Prop} (S : pg_SW co fi la ca li len tk T0 T D 0) (hD : ∀ t p, t < tk → p ≤ len → D t p) : pg_Fix co fi la ca li len tk T := by
  obtain ⟨I, l, c⟩ := S
  rcases c with ⟨c1, c2, c3⟩ | ⟨c1, _⟩
  · exact pg_fix_of I (fun t p ht hp z => c3 t p ht hp (hD t p ht hp) z)
  · exact absurd c1 (by decide)
/-- known cells of the whole table -/
def pg_kn (T : Nat → Nat → Nat) : Nat := pg_cn (fun i => T (i / 21) (i % 21)) 840
theorem pg_kn_le (T : Nat → Nat → Nat) : pg_kn T ≤ 840 := pg_cn_le _ _
theorem pg_ne_up {T C : Nat → Nat → Nat} (h : pg_le T C) {t p : Nat} (z : T t p ≠ 0) : C t p ≠ 0 := by
  rcases h t p with a | a
  · exact absurd a z
  · rw [← a]; exact z
theorem pg_sw_kn {T0 T : Nat → Nat → Nat} {D : Nat → Nat → Prop} (htk : tk ≤ 40) (hlen : len ≤ 20) (S : pg_SW co fi la ca li len tk T0 T D 1) : pg_kn T0 < pg_kn T := by
  obtain ⟨I, l, c⟩ := S
  rcases c with ⟨c1, _⟩ | ⟨_, t, p, z0, z1⟩
  · exact absurd c1 (by decide)
  · have hb := I.1 t p
    have ht : t < tk ∧ p ≤ len := by
      rcases hb with a | a
      · exact absurd a z1
      · exact ⟨a.1, a.2.1⟩
    have e1 : (21 * t + p) / 21 = t := by omega
    have e2 : (21 * t + p) % 21 = p := by omega
    show pg_cn (fun i => T0 (i / 21) (i % 21)) 840 < pg_cn (fun i => T (i / 21) (i % 21)) 840
    refine pg_cn_strict 840 (fun i _ z => pg_ne_up l z) (21 * t + p) (by omega) ?_ ?_
    · show T0 ((21 * t + p) / 21) ((21 * t + p) % 21) = 0
      rw [e1, e2]; exact z0
    · show T ((21 * t + p) / 21) ((21 * t + p) % 21) ≠ 0
      rw [e1, e2]; exact z1
/-- fixed at a place -/
def pg_FA (co fi la ca : Nat → Nat) (li : Nat → Nat → Nat) (len tk : Nat) (T : Nat → Nat → Nat) (p : Nat) : Prop := ∀ t, t < tk → T t p = pg_F co fi la ca li len T t p
theorem pg_FA_keep {T T' : Nat → Nat → Nat} {p : Nat} (h : pg_FA co fi la ca li len tk T p) (e : ∀ t q, p ≤ q → T t q = T' t q) : pg_FA co fi la ca li len tk T' p := by
  intro t ht
  rw [← e t p (Nat.le_refl p), ← pg_F_loc e t]
  exact h t ht
theorem pg_FA_fix {T : Nat → Nat → Nat} (h : ∀ p, p ≤ len → pg_FA co fi la ca li len tk T p) : pg_Fix co fi la ca li len tk T := fun t p ht hp => h p hp t ht
theorem pg_sw_FA {T0 T : Nat → Nat → Nat} {D : Nat → Nat → Prop} {p : Nat} (S : pg_SW co fi la ca li len tk T0 T D 0) (hp : p ≤ len) (hD : ∀ t, t < tk → T t p = 0 → D t p ∨ co t = 10) : pg_FA co fi la ca li len tk T p := by
  obtain ⟨I, l, c⟩ := S
  intro t ht
  rcases I.2.1 t p with a | a
  · rcases c with ⟨c1, c2, c3⟩ | ⟨c1, _⟩
    · rcases hD t ht a with d | d
      · rw [a, c3 t p ht hp d a]
      · rw [a, pg_F_10 d]
    · exact absurd c1 (by decide)
  · exact a
/-- known cells of a place -/
def pg_kp (tk : Nat) (T : Nat → Nat → Nat) (p : Nat) : Nat := pg_cn (fun t => T t p) tk
theorem pg_sw_kp {T0 T : Nat → Nat → Nat} {D : Nat → Nat → Prop} {p : Nat} (S : pg_SW co fi la ca li len tk T0 T D 1) (e : ∀ t q, q ≠ p → T t q = T0 t q) : pg_kp tk T0 p < pg_kp tk T p := by
  obtain ⟨I, l, c⟩ := S
  rcases c with ⟨c1, _⟩ | ⟨_, t, q, z0, z1⟩
  · exact absurd c1 (by decide)
  · have hq : q = p := by
      by_cases h : q = p
      · exact h
      · exact absurd ((e t q h).trans z0) z1
    rw [hq] at z0 z1
    have ht : t < tk := by
      rcases I.1 t p with a | a
      · exact absurd a z1
      · exact a.1
    show pg_cn (fun t => T0 t p) tk < pg_cn (fun t => T t p) tk
    exact pg_cn_strict tk (fun i _ z => pg_ne_up l z) t ht z0 z1
/-- as many known as there are expressions: all are -/
theorem pg_kp_all {T : Nat → Nat → Nat} {p : Nat} (I : pg_Inv co fi la ca li len tk T) (h : pg_g co tk ≤ pg_kp tk T p) : pg_FA co fi la ca li len tk T p := by
  intro t ht
  rcases I.2.1 t p with a | a
  · by_cases d : co t = 10
    · rw [a, pg_F_10 d]
    · have h1 : ∀ s, s < tk → T s p ≠ 0 → pg_nd co s ≠ 0 := fun s _ z => pg_nd_1 (fun d => z (pg_def0 I d p))
      have h2 : pg_kp tk T p < pg_g co tk := pg_cn_strict tk h1 t ht a (pg_nd_1 d)
      omega
  · exact a
end
end
section
/-! how the two sides' arrays hold a table; each side's sweeps apart from their print -/
section
/-- a letter's outcome; the expression of the rule that a token calls -/
def pg_li (tx : Nat → Int32) (ar : Nat → Nat) (len : Nat) (t p : Nat) : Nat := if p < len ∧ tx p = nI (ar t) then 3 else 1
theorem pg_li_ok (tx : Nat → Int32) (ar : Nat → Nat) (len : Nat) : ∀ t p, pg_li tx ar len t p = 1 ∨ (pg_li tx ar len t p = 3 ∧ p < len) := by
  intro t p
  unfold pg_li
  by_cases h : p < len ∧ tx p = nI (ar t)
  · rw [if_pos h]; exact Or.inr ⟨rfl, h.1⟩
  · rw [if_neg h]; exact Or.inl rfl
def pg_ca (ar ru : Nat → Nat) (t : Nat) : Nat := ru (ar t)
/-- what a rule has at a place -/
def pg_an (ru : Nat → Nat) (T : Nat → Nat → Nat) (r p : Nat) : Nat := if ru r = 0 then 1 else T (ru r - 1) p
def pg_RX (tk : Nat) (co : Nat → Nat) (T : Nat → Nat → Nat) (o : Nat → Int32) : Prop := ∀ t p, t < tk → co t ≠ 10 → p ≤ 20 → o (pg_g co t * 21 + p) = pg_ov (T t p)
def pg_RY (T : Nat → Nat → Nat) (o : Nat → Int32) : Prop := ∀ t p, t < 40 → p ≤ 20 → o (21 * t + p) = pg_ov (T t p)
theorem pg_RX_put {tk : Nat} {co : Nat → Nat} {T : Nat → Nat → Nat} {o : Nat → Int32} {t p : Nat} (h : pg_RX tk co T o) (hc : co t ≠ 10) (hp : p ≤ 20) (v : Nat) : pg_RX tk co (pg_set T t p v) (upd o (pg_g co t * 21 + p) (pg_ov v)) := by
  intro t' p' ht' hc' hp'
  by_cases e : t' = t ∧ p' = p
  · obtain ⟨e1, e2⟩ := e
    rw [e1, e2, pg_set_s]; exact if_pos rfl
  · rw [pg_set_n e]
    have hne : pg_g co t' * 21 + p' ≠ pg_g co t * 21 + p := by
      intro z
      have h1 : pg_g co t' = pg_g co t := by omega
      have h2 : p' = p := by omega
      exact e ⟨pg_g_inj hc' hc h1, h2⟩
    exact (if_neg hne).trans (h t' p' ht' hc' hp')
theorem pg_RY_put {T : Nat → Nat → Nat} {o : Nat → Int32} {t p : Nat} (h : pg_RY T o) (hp : p ≤ 20) (v : Nat) : pg_RY (pg_set T t p v) (upd o (21 * t + p) (pg_ov v)) := by
  intro t' p' ht' hp'
  by_cases e : t' = t ∧ p' = p
  · obtain ⟨e1, e2⟩ := e
    rw [e1, e2, pg_set_s]; exact if_pos rfl
  · rw [pg_set_n e]
    have hne : 21 * t' + p' ≠ 21 * t + p := by
      intro z
      exact e ⟨by omega, by omega⟩
    exact (if_neg hne).trans (h t' p' ht' hp')
theorem pg_set_id {T : Nat → Nat → Nat} {t p v : Nat} (h : T t p = v) : pg_set T t p v = T := by
  funext t' p'
  by_cases e : t' = t ∧ p' = p
  · obtain ⟨e1, e2⟩ := e
    rw [e1, e2, pg_set_s, h]
  · rw [pg_set_n e]
end
section
variable {co fi la ca : Nat → Nat} {li : Nat → Nat → Nat} {len : Nat} {T : Nat → Nat → Nat} {t : Nat}
theorem pg_F_0 (h : co t = 0) (p : Nat) : pg_F co fi la ca li len T t p = li t p := by unfold pg_F; simp [h]
theorem pg_F_1 (h : co t = 1) (p : Nat) : pg_F co fi la ca li len T t p = (if p < len then 3 else 1) := by unfold pg_F; simp [h]
theorem pg_F_2 (h : co t = 2) (p : Nat) : pg_F co fi la ca li len T t p = 2 := by unfold pg_F; simp [h]
theorem pg_F_3 (h : co t = 3) (p : Nat) : pg_F co fi la ca li len T t p = (if ca t = 0 then 1 else T (ca t - 1) p) := by unfold pg_F; simp [h]
theorem pg_F_4 (h : co t = 4) (p : Nat) : pg_F co fi la ca li len T t p = pg_th T (fi t) (la t) p := by unfold pg_F; simp [h]
theorem pg_F_5 (h : co t = 5) (p : Nat) : pg_F co fi la ca li len T t p = pg_el T (fi t) (la t) p := by unfold pg_F; simp [h]
theorem pg_F_s (h : 6 ≤ co t) {p : Nat} (z : T (la t) p = 0) : pg_F co fi la ca li len T t p = 0 := by
  unfold pg_F
  rw [if_neg (by omega), if_neg (by omega), if_neg (by omega), if_neg (by omega), if_neg (by omega), if_neg (by omega), if_pos z]
theorem pg_F_6a (h : co t = 6) {p : Nat} (z : T (la t) p ≠ 0) (y : T (la t) p ≤ 2) : pg_F co fi la ca li len T t p = 2 := by unfold pg_F; simp [h, z, y]
theorem pg_F_6b (h : co t = 6) {p : Nat} (y : ¬ T (la t) p ≤ 2) : pg_F co fi la ca li len T t p = pg_th T (la t) t p := by
  have z : T (la t) p ≠ 0 := by omega
  unfold pg_F; simp [h, z, y]
theorem pg_F_7 (h : co t = 7) {p : Nat} (z : T (la t) p ≠ 0) : pg_F co fi la ca li len T t p = (if T (la t) p < 2 then 2 else T (la t) p) := by unfold pg_F; simp [h, z]
theorem pg_F_8 (h : co t = 8) {p : Nat} (z : T (la t) p ≠ 0) : pg_F co fi la ca li len T t p = (if T (la t) p < 2 then 1 else 2) := by unfold pg_F; simp [h, z]
theorem pg_F_9 (h : co t = 9) {p : Nat} (z : T (la t) p ≠ 0) : pg_F co fi la ca li len T t p = (if T (la t) p < 2 then 2 else 1) := by unfold pg_F; simp [h, z]
theorem pg_ov_add {a b : Nat} (ha : 2 ≤ a) (hb : 2 ≤ b) : pg_ov a + pg_ov b = pg_ov (a + b - 2) := by
  rw [pg_ov_num ha, pg_ov_num hb, pg_ov_num (show 2 ≤ a + b - 2 by omega), nI_add]
  congr 1; omega
end
section
variable {co fi la ca : Nat → Nat} {li : Nat → Nat → Nat} {len tk : Nat}
theorem pg_SWx {T0 T : Nat → Nat → Nat} {D : Nat → Nat → Prop} {x : Int32} (S : pg_SW co fi la ca li len tk T0 T D x) : x = 0 ∨ x = 1 := by
  rcases S.2.2 with a | a
  · exact Or.inl a.1
  · exact Or.inr a.1
/-- the reference's sweep: W fuel, cell, changed, outcomes -/
theorem pg_Yin {J : Int32 → (Nat → Int32) → Prop} {W : Nat → Nat → Int32 → (Nat → Int32) → Prop} {T0 : Nat → Nat → Nat} (hlen : len ≤ 20)
    (hl : ∀ t p, li t p = 1 ∨ (li t p = 3 ∧ p < len))
    (hx : ∀ n x o, J x o → W (n + 1) (21 * tk) x o)
    (hs : ∀ n t p x o T, t < tk → p ≤ 20 → pg_Inv co fi la ca li len tk T → pg_RY T o →
      ((T t p ≠ 0 ∨ len < p ∨ pg_F co fi la ca li len T t p = 0) → W n (21 * t + p + 1) x o) →
      (T t p = 0 → p ≤ len → pg_F co fi la ca li len T t p ≠ 0 → W n (21 * t + p + 1) 1 (upd o (21 * t + p) (pg_ov (pg_F co fi la ca li len T t p)))) → W (n + 1) (21 * t + p) x o)
    (hJ : ∀ x T o, pg_SW co fi la ca li len tk T0 T (fun t p => 21 * t + p < 21 * tk) x → pg_RY T o → J x o) :
    ∀ n i x T o, i ≤ 21 * tk → 21 * tk < n + i → pg_SW co fi la ca li len tk T0 T (fun t p => 21 * t + p < i) x → pg_RY T o → W n i x o := by
  intro n
  induction n with
  | zero => intro i x T o h1 h2; omega
  | succ n ih =>
    intro i x T o h1 h2 S R
    by_cases e : i = 21 * tk
    · subst e
      exact hx n x o (hJ x T o S R)
    · obtain ⟨t, p, hp, ei⟩ : ∃ t p, p ≤ 20 ∧ i = 21 * t + p := ⟨i / 21, i % 21, by omega, by omega⟩
      subst ei
      have ht : t < tk := by omega
      refine hs n t p x o T ht hp S.1 R (fun c => ih _ _ T _ (by omega) (by omega) (pg_sw_skip S ?_) R) (fun z hpl hn => ih _ _ _ _ (by omega) (by omega) (pg_sw_put hl S ht hpl z hn) (pg_RY_put R hp _))
      intro t' p' ht' hp' d
      have d' : 21 * t' + p' < 21 * t + p + 1 := d
      by_cases q : 21 * t' + p' < 21 * t + p
      · exact Or.inl q
      · have e1 : t' = t := by omega
        have e2 : p' = p := by omega
        rw [e1, e2]
        rcases c with a | a | a
        · exact Or.inr (Or.inl a)
        · exact absurd hp' (by omega)
        · exact Or.inr (Or.inr a)
/-- the reference's sweeps until nothing changes: W fuel, changed, outcomes -/
theorem pg_Ywh {K : (Nat → Int32) → Prop} {W : Nat → Int32 → (Nat → Int32) → Prop} (htk : tk ≤ 40) (hlen : len ≤ 20)
    (h0 : ∀ n o, K o → W (n + 1) 0 o)
    (h1 : ∀ n o T, pg_Inv co fi la ca li len tk T → pg_RY T o → (∀ x T' o', pg_SW co fi la ca li len tk T T' (fun t p => 21 * t + p < 21 * tk) x → pg_RY T' o' → W n x o') → W (n + 1) 1 o)
    (hK : ∀ T o, pg_Inv co fi la ca li len tk T → pg_Fix co fi la ca li len tk T → pg_RY T o → K o) :
    ∀ n x T o, (x = 0 ∧ pg_Fix co fi la ca li len tk T ∧ 1 ≤ n) ∨ (x = 1 ∧ 842 ≤ n + pg_kn T) → pg_Inv co fi la ca li len tk T → pg_RY T o → W n x o := by
  intro n
  induction n with
  | zero =>
    intro x T o h
    rcases h with h | h
    · exact absurd h.2.2 (by omega)
    · have := pg_kn_le T
      exact absurd h.2 (by omega)
  | succ n ih =>
    intro x T o h I R
    rcases h with ⟨rfl, hF, _⟩ | ⟨rfl, hn⟩
    · exact h0 n o (hK T o I hF R)
    · refine h1 n o T I R (fun x T' o' S R' => ?_)
      rcases pg_SWx S with rfl | rfl
      · exact ih 0 T' o' (Or.inl ⟨rfl, pg_sw_fix S (fun t p ht hp => show 21 * t + p < 21 * tk by omega), by have := pg_kn_le T; omega⟩) S.1 R'
      · have hk := pg_sw_kn htk hlen S
        exact ih 1 T' o' (Or.inr ⟨rfl, by omega⟩) S.1 R'
/-- the component's sweep of a place: W fuel, expression, learned, outcomes -/
theorem pg_Xin {J : Int32 → (Nat → Int32) → Prop} {W : Nat → Nat → Int32 → (Nat → Int32) → Prop} {T0 : Nat → Nat → Nat} {p : Nat} (hp : p ≤ len) (hlen : len ≤ 20)
    (hl : ∀ t p, li t p = 1 ∨ (li t p = 3 ∧ p < len))
    (hx : ∀ n x o, (x = 0 ∨ x = 1) → J x o → W (n + 1) (pg_g co tk) x o)
    (hs : ∀ n t x o T, t < tk → co t ≠ 10 → pg_g co t < pg_g co tk → pg_Inv co fi la ca li len tk T → pg_RX tk co T o → (x = 0 ∨ x = 1) →
      (T t p ≠ 0 → W n (pg_g co t + 1) x o) →
      (T t p = 0 → pg_F co fi la ca li len T t p = 0 → W n (pg_g co t + 1) x (upd o (pg_g co t * 21 + p) (pg_ov (pg_F co fi la ca li len T t p)))) →
      (T t p = 0 → pg_F co fi la ca li len T t p ≠ 0 → W n (pg_g co t + 1) 1 (upd o (pg_g co t * 21 + p) (pg_ov (pg_F co fi la ca li len T t p)))) → W (n + 1) (pg_g co t) x o)
    (hJ : ∀ x T o, pg_SW co fi la ca li len tk T0 T (fun t q => q = p ∧ pg_g co t < pg_g co tk) x → pg_RX tk co T o → (∀ t q, q ≠ p → T t q = T0 t q) → J x o) :
    ∀ n e x T o, e ≤ pg_g co tk → pg_g co tk < n + e → pg_SW co fi la ca li len tk T0 T (fun t q => q = p ∧ pg_g co t < e) x → pg_RX tk co T o → (∀ t q, q ≠ p → T t q = T0 t q) → W n e x o := by
  intro n
  induction n with
  | zero => intro e x T o h1 h2; omega
  | succ n ih =>
    intro e x T o h1 h2 S R hq
    by_cases e1 : e = pg_g co tk
    · subst e1
      exact hx n x o (pg_SWx S) (hJ x T o S R hq)
    · obtain ⟨t, ht, hc, et⟩ := pg_g_ex (show e < pg_g co tk by omega)
      subst et
      have hskip : (T t p ≠ 0 ∨ pg_F co fi la ca li len T t p = 0) → pg_SW co fi la ca li len tk T0 T (fun s q => q = p ∧ pg_g co s < pg_g co t + 1) x := by
        intro c
        refine pg_sw_skip S ?_
        intro t' p' ht' hp' d
        obtain ⟨d1, d2⟩ := d
        by_cases q : pg_g co t' < pg_g co t
        · exact Or.inl ⟨d1, q⟩
        · by_cases c' : co t' = 10
          · exact Or.inr (Or.inr (pg_F_10 c' p'))
          · have e2 : t' = t := pg_g_inj c' hc (by omega)
            rw [d1, e2]
            rcases c with a | a
            · exact Or.inr (Or.inl a)
            · exact Or.inr (Or.inr a)
      refine hs n t x o T ht hc (by omega) S.1 R (pg_SWx S) (fun c => ih _ _ T _ (by omega) (by omega) (hskip (Or.inl c)) R hq) (fun z y => ?_) (fun z y => ?_)
      · refine ih _ _ T _ (by omega) (by omega) (hskip (Or.inr y)) ?_ hq
        have h3 := pg_RX_put R hc (show p ≤ 20 by omega) (pg_F co fi la ca li len T t p)
        rw [pg_set_id (z.trans y.symm)] at h3
        exact h3
      · refine ih _ _ _ _ (by omega) (by omega) (pg_sw_put hl S ht hp z y) (pg_RX_put R hc (by omega) _) ?_
        intro s q hqp
        rw [pg_set_n (fun c => hqp c.2)]
        exact hq s q hqp
/-- the component's sweeps of a place: W fuel, sweep, learned, outcomes -/
theorem pg_Xsw {K : (Nat → Int32) → Prop} {W : Nat → Nat → Int32 → (Nat → Int32) → Prop} {p : Nat} (hp : p ≤ len)
    (hx : ∀ n x o, K o → W (n + 1) (pg_g co tk) x o)
    (h0 : ∀ n s o, s < pg_g co tk → K o → W (n + 1) s 0 o)
    (hs : ∀ n s o T, s < pg_g co tk → pg_Inv co fi la ca li len tk T → pg_RX tk co T o → (∀ x T' o', pg_SW co fi la ca li len tk T T' (fun t q => q = p ∧ pg_g co t < pg_g co tk) x → pg_RX tk co T' o' → (∀ t q, q ≠ p → T' t q = T t q) → W n (s + 1) x o') → W (n + 1) s 1 o)
    (hK : ∀ T o, pg_Inv co fi la ca li len tk T → pg_RX tk co T o → (∀ q, p ≤ q → q ≤ len → pg_FA co fi la ca li len tk T q) → K o) :
    ∀ n s x T o, s ≤ pg_g co tk → pg_g co tk < n + s → pg_Inv co fi la ca li len tk T → pg_RX tk co T o → (∀ q, p < q → q ≤ len → pg_FA co fi la ca li len tk T q) → (x = 0 ∧ pg_FA co fi la ca li len tk T p) ∨ (x = 1 ∧ s ≤ pg_kp tk T p) → W n s x o := by
  intro n
  induction n with
  | zero => intro s x T o h1 h2; omega
  | succ n ih =>
    intro s x T o h1 h2 I R hq h
    have hK' : pg_FA co fi la ca li len tk T p → K o := by
      intro hF
      refine hK T o I R (fun q h3 h4 => ?_)
      by_cases e : q = p
      · rw [e]; exact hF
      · exact hq q (by omega) h4
    by_cases e1 : s = pg_g co tk
    · subst e1
      refine hx n x o (hK' ?_)
      rcases h with h | h
      · exact h.2
      · exact pg_kp_all I h.2
    · rcases h with ⟨rfl, hF⟩ | ⟨rfl, hk⟩
      · exact h0 n s o (by omega) (hK' hF)
      · refine hs n s o T (by omega) I R (fun x T' o' S R' hq' => ?_)
        have hfa : ∀ q, p < q → q ≤ len → pg_FA co fi la ca li len tk T' q := fun q h3 h4 => pg_FA_keep (hq q h3 h4) (fun t q' h5 => (hq' t q' (by omega)).symm)
        rcases pg_SWx S with rfl | rfl
        · refine ih _ 0 T' o' (by omega) (by omega) S.1 R' hfa (Or.inl ⟨rfl, pg_sw_FA S hp (fun t ht _ => ?_)⟩)
          by_cases c : co t = 10
          · exact Or.inr c
          · exact Or.inl ⟨rfl, pg_g_lt ht c⟩
        · have h6 := pg_sw_kp S hq'
          exact ih _ 1 T' o' (by omega) (by omega) S.1 R' hfa (Or.inr ⟨rfl, by omega⟩)
/-- the component's places, from the last down: W fuel, place + 1, outcomes -/
theorem pg_Xout {K : (Nat → Int32) → Prop} {W : Nat → Nat → (Nat → Int32) → Prop}
    (h0 : ∀ n o, K o → W (n + 1) 0 o)
    (hs : ∀ n p o T, p ≤ len → pg_Inv co fi la ca li len tk T → pg_RX tk co T o → (∀ q, p < q → q ≤ len → pg_FA co fi la ca li len tk T q) → (∀ T' o', pg_Inv co fi la ca li len tk T' → pg_RX tk co T' o' → (∀ q, p ≤ q → q ≤ len → pg_FA co fi la ca li len tk T' q) → W n p o') → W (n + 1) (p + 1) o)
    (hK : ∀ T o, pg_Inv co fi la ca li len tk T → pg_Fix co fi la ca li len tk T → pg_RX tk co T o → K o) :
    ∀ i n T o, i ≤ len + 1 → i < n → pg_Inv co fi la ca li len tk T → pg_RX tk co T o → (∀ q, i ≤ q → q ≤ len → pg_FA co fi la ca li len tk T q) → W n i o := by
  intro i
  induction i with
  | zero =>
    intro n T o h1 h2 I R h
    obtain ⟨m, rfl⟩ : ∃ m, n = m + 1 := ⟨n - 1, by omega⟩
    exact h0 m o (hK T o I (pg_FA_fix (fun p hp => h p (Nat.zero_le p) hp)) R)
  | succ i ih =>
    intro n T o h1 h2 I R h
    obtain ⟨m, rfl⟩ : ∃ m, n = m + 1 := ⟨n - 1, by omega⟩
    exact hs m i o T (by omega) I R (fun q h3 h4 => h q h3 h4) (fun T' o' I' R' h' => ih m T' o' (by omega) (by omega) I' R' h')
end
section
/-- a count over the places: W fuel, place, count -/
theorem pg_cnt {K : Int32 → Prop} {W : Nat → Nat → Int32 → Prop} {q : Nat → Nat} {len : Nat}
    (hx : ∀ n c, K c → W (n + 1) (len + 1) c)
    (hs : ∀ n i c, i ≤ len → (q i = 0 → W n (i + 1) (nI c)) → (q i ≠ 0 → W n (i + 1) (nI (c + 1))) → W (n + 1) i (nI c))
    (hK : K (nI (pg_cn q (len + 1)))) : ∀ n i, i ≤ len + 1 → len + 1 < n + i → W n i (nI (pg_cn q i)) := by
  intro n
  induction n with
  | zero => intro i h1 h2; omega
  | succ n ih =>
    intro i h1 h2
    by_cases e : i = len + 1
    · subst e; exact hx n _ hK
    · have h3 := ih (i + 1) (by omega) (by omega)
      refine hs n i _ (by omega) (fun z => ?_) (fun z => ?_)
      · rw [pg_cn_s0 z] at h3; exact h3
      · rw [pg_cn_s1 z] at h3; exact h3
def pg_fd (f : Nat → Nat) (fr : Int32) : Nat → Nat → Int32
  | 0, _ => -1
  | d + 1, p => if fr ≤ nI p ∧ 2 ≤ f p then nI p else pg_fd f fr d (p + 1)
/-- the first place: W fuel, place -/
theorem pg_fnd {K : Int32 → Prop} {W : Nat → Nat → Prop} {f : Nat → Nat} {fr : Int32} {len : Nat}
    (hx : ∀ n, K (-1) → W (n + 1) (len + 1))
    (hs : ∀ n i, i ≤ len → (fr ≤ nI i → 2 ≤ f i → K (nI i)) → (¬ (fr ≤ nI i ∧ 2 ≤ f i) → W n (i + 1)) → W (n + 1) i) :
    ∀ d i n, i + d = len + 1 → d < n → K (pg_fd f fr d i) → W n i := by
  intro d
  induction d with
  | zero =>
    intro i n h1 h2 h
    obtain ⟨m, rfl⟩ : ∃ m, n = m + 1 := ⟨n - 1, by omega⟩
    have e : i = len + 1 := by omega
    subst e
    exact hx m h
  | succ d ih =>
    intro i n h1 h2 h
    obtain ⟨m, rfl⟩ : ∃ m, n = m + 1 := ⟨n - 1, by omega⟩
    have h' : K (if fr ≤ nI i ∧ 2 ≤ f i then nI i else pg_fd f fr d (i + 1)) := h
    refine hs m i (by omega) (fun a b => ?_) (fun a => ?_)
    · rw [if_pos ⟨a, b⟩] at h'; exact h'
    · rw [if_neg a] at h'
      exact ih (i + 1) m (by omega) (by omega) h'
/-- a place counted down: the component's 'place' is one less than i -/
def pg_dn : Nat → Int32
  | 0 => -1
  | n + 1 => nI n
theorem pg_dn_s (p : Nat) : nI p + (-1) = pg_dn p := by
  cases p with
  | zero => decide
  | succ p => 
    show nI (p + 1) + (-1) = nI p
    rw [← nI_1 p, Int32.add_assoc]
    have : (1 : Int32) + (-1) = 0 := by decide
    rw [this, Int32.add_zero]
end
end
section
/-! the reference's methods over a table -/
section
theorem pg_ov_gt : ∀ n, n < 24 → (0 < pg_ov n ↔ 2 < n) := by decide +kernel
theorem pg_fl {s : Nat → Int32} {i : Nat} {v : Int32} (h : ∀ j, j < i → s j = v) : ∀ j, j < i + 1 → upd s i v j = v := by
  intro j hj
  by_cases e : j = i
  · rw [e]; exact if_pos rfl
  · exact (if_neg e).trans (h j (by omega))
theorem pg_ix (x p : Nat) : (21 : Int32) * nI x + nI p = nI (21 * x + p) := by
  have e : (21 : Int32) = nI 21 := by decide
  rw [e, pk_mul, nI_add]
theorem pg_ix' (x p : Nat) : nI x * (21 : Int32) + nI p = nI (x * 21 + p) := by
  have e : (21 : Int32) = nI 21 := by decide
  rw [e, pk_mul, nI_add]
/-- what the reference's walks need of the relation -/
def pg_YV (tk len : Nat) (co ar fi la ru : Nat → Nat) (yr : Nat → Int32) : Prop :=
  tk ≤ 40 ∧ len ≤ 20 ∧ (∀ t, la t < 40) ∧ (∀ t, ar t < 4) ∧ (∀ t, t < tk → co t ≤ 10) ∧ (∀ t, t < tk → co t = 4 ∨ co t = 5 → fi t < tk) ∧ (∀ r, r < 4 → ru r ≤ tk ∧ yr r = pg_rv (ru r))
theorem pg_YV_of {tk h len : Nat} {co ar fi la st ru : Nat → Nat} {xc xa xf xs xst xr yr : Nat → Int32} (R : pg_R tk h co ar fi la st ru xc xa xf xs xst xr) (hlen : len ≤ 20) (hy : ∀ r, r < 4 → yr r = pg_rv (ru r)) : pg_YV tk len co ar fi la ru yr := by
  obtain ⟨r1, r2, r3, r4, r5, r6, r7, r8⟩ := R
  refine ⟨r1, hlen, r3, r4, r5, fun t ht hc => ?_, fun r hr => ⟨?_, hy r hr⟩⟩
  · exact ((r6 t ht (by omega)).2.2.1 hc).1
  · rcases r8 r hr with a | ⟨n, n1, n2⟩
    · rw [a.1]; omega
    · have := n2.1
      omega
variable {tk h len : Nat} {co ar fi la st ru : Nat → Nat} {tx yr o : Nat → Int32} {T : Nat → Nat → Nat}
theorem pg_yc {post : Int32 → Prop} (V : pg_YV tk len co ar fi la ru yr) (R : pg_RY T o) {r p : Nat} (hr : r < 4) (hp : p ≤ 20) (k : post (pg_ov (pg_an ru T r p))) : wpY_called post (nI tk, nI h, nI len, (fun t => nI (co t)), (fun t => nI (ar t)), (fun t => nI (fi t)), (fun t => nI (la t)), (fun t => nI (st t)), yr, tx, o) (nI r) (nI p) := by
  have hy := (V.2.2.2.2.2.2 r hr)
  have h40 := V.1
  have e0 : (nI r).toNatClampNeg = r := nI_clamp (by omega)
  unfold wpY_called
  dsimp only
  rw [e0, hy.2]
  unfold pg_an at k
  by_cases z : ru r = 0
  · rw [if_pos z] at k
    rw [z]
    exact ⟨vp_in_nI hr (by omega), br_f (by decide) k⟩
  · obtain ⟨n, hn⟩ : ∃ n, ru r = n + 1 := ⟨ru r - 1, by omega⟩
    rw [if_neg z, hn] at k
    rw [hn]
    have e1 : (21 : Int32) * pg_rv (n + 1) + nI p = nI (21 * n + p) := pg_ix n p
    have e2 : o ((21 : Int32) * pg_rv (n + 1) + nI p).toNatClampNeg = pg_ov (T n p) := by
      rw [e1, nI_clamp (by omega)]; exact R n p (by omega) hp
    rw [e2]
    exact ⟨vp_in_nI hr (by omega), br_t (nI_pos' (by omega)) ⟨vp_in_nI hr (by omega), pk_in (21 * n + p) 840 (by omega) e1, k⟩⟩
theorem pg_yj {post : Int32 → Prop} (hlen : len ≤ 20) (R : pg_RY T o) (hB : pg_B tk len T) {x y p : Nat} (hx : x < 40) (hy : y < 40) (hp : p ≤ len) (k : post (pg_ov (pg_th T x y p))) : wpY_joined post (nI tk, nI h, nI len, (fun t => nI (co t)), (fun t => nI (ar t)), (fun t => nI (fi t)), (fun t => nI (la t)), (fun t => nI (st t)), yr, tx, o) (nI x) (nI y) (nI p) := by
  have b1 := pg_B_p hB (t := x) hp
  have e1 := pg_ix x p
  have o1 : o ((21 : Int32) * nI x + nI p).toNatClampNeg = pg_ov (T x p) := by
    rw [e1, nI_clamp (by omega)]; exact R x p hx (by omega)
  refine ⟨pk_in (21 * x + p) 840 (by omega) e1, nm_r (e' := pg_ov (T x p)) o1 ?_⟩
  unfold pg_th at k
  by_cases z : T x p < 2
  · rw [if_pos z] at k
    exact br_f (fun c => by have := (pg_ov_ge _ (by omega)).mp c; omega) k
  · rw [if_neg z] at k
    have e2 : (21 : Int32) * nI y + nI p + pg_ov (T x p) = nI (21 * y + (p + (T x p - 2))) := by
      rw [pg_ix, pg_ov_num (by omega), nI_add]
      congr 1; omega
    have b2 := pg_B_p hB (t := y) (p := p + (T x p - 2)) (by omega)
    have o2 : o ((21 : Int32) * nI y + nI p + pg_ov (T x p)).toNatClampNeg = pg_ov (T y (p + (T x p - 2))) := by
      rw [e2, nI_clamp (by omega)]; exact R y _ hy (by omega)
    refine br_t ((pg_ov_ge _ (by omega)).mpr (by omega)) ⟨pk_in (21 * y + (p + (T x p - 2))) 840 (by omega) e2, nm_r (e' := pg_ov (T y (p + (T x p - 2)))) o2 ?_⟩
    unfold pg_j at k
    by_cases w : T y (p + (T x p - 2)) < 2
    · rw [if_pos w] at k
      exact br_f (fun c => by have := (pg_ov_ge _ (by omega)).mp c; omega) k
    · rw [if_neg w] at k
      refine br_t ((pg_ov_ge _ (by omega)).mpr (by omega)) ?_
      rw [pg_ov_add (by omega) (by omega)]
      exact k
theorem pg_yf {post : Int32 → Prop} (V : pg_YV tk len co ar fi la ru yr) (R : pg_RY T o) (hB : pg_B tk len T) {t p : Nat} (ht : t < tk) (hp : p ≤ len) (k : post (pg_ov (pg_F co fi la (pg_ca ar ru) (pg_li tx ar len) len T t p))) : wpY_follows post (nI tk, nI h, nI len, (fun t => nI (co t)), (fun t => nI (ar t)), (fun t => nI (fi t)), (fun t => nI (la t)), (fun t => nI (st t)), yr, tx, o) (nI t) (nI p) := by
  obtain ⟨v1, v2, v3, v4, v5, v6, v7⟩ := id V
  have hL := v3 t
  have hc := v5 t ht
  have ex := pg_ix (la t) p
  have ct : (nI t).toNatClampNeg = t := nI_clamp (by omega)
  have cp : (nI p).toNatClampNeg = p := nI_clamp (by omega)
  have it : vp_in (nI t) 40 := vp_in_nI (by omega) (by omega)
  have bx := pg_B_p hB (t := la t) hp
  have ox : o ((21 : Int32) * nI (la t) + nI p).toNatClampNeg = pg_ov (T (la t) p) := by
    rw [ex, nI_clamp (by omega)]; exact R (la t) p hL (by omega)
  have ix : vp_in ((21 : Int32) * nI (la t) + nI p) 840 := pk_in (21 * la t + p) 840 (by omega) ex
  unfold wpY_follows
  dsimp only
  rw [ct]
  have hcs : co t = 0 ∨ co t = 1 ∨ co t = 2 ∨ co t = 3 ∨ co t = 4 ∨ co t = 5 ∨ co t = 6 ∨ co t = 7 ∨ co t = 8 ∨ co t = 9 ∨ co t = 10 := by omega
  rcases hcs with c | c | c | c | c | c | c | c | c | c | c
  · -- LETTER
    refine ⟨it, nm_r (e' := nI 0) (congrArg nI c) ⟨it, ix, nm_r (e' := pg_ov (T (la t) p)) ox ?_⟩⟩
    refine br_t (by decide) ?_
    rw [pg_F_0 c] at k
    unfold pg_li at k
    rw [cp]
    by_cases z : p < len
    · refine br_f (nI_ge z (by omega)) ⟨vp_in_nI (by omega) (by omega), it, ?_⟩
      by_cases w : tx p = nI (ar t)
      · rw [if_pos ⟨z, w⟩] at k
        exact br_t w k
      · rw [if_neg (fun c => w c.2)] at k
        exact br_f w k
    · rw [if_neg (fun c => z c.1)] at k
      exact br_t (nI_le (by omega) (by omega)) k
  · -- ANY
    refine ⟨it, nm_r (e' := nI 1) (congrArg nI c) ⟨it, ix, nm_r (e' := pg_ov (T (la t) p)) ox ?_⟩⟩
    refine br_f (by decide) (br_t (by decide) ?_)
    rw [pg_F_1 c] at k
    by_cases z : p < len
    · rw [if_pos z] at k
      exact br_f (nI_ge z (by omega)) k
    · rw [if_neg z] at k
      exact br_t (nI_le (by omega) (by omega)) k
  · -- NOTHING
    refine ⟨it, nm_r (e' := nI 2) (congrArg nI c) ⟨it, ix, nm_r (e' := pg_ov (T (la t) p)) ox ?_⟩⟩
    refine br_f (by decide) (br_f (by decide) (br_t (by decide) ?_))
    rw [pg_F_2 c] at k
    exact k
  · -- CALL
    refine ⟨it, nm_r (e' := nI 3) (congrArg nI c) ⟨it, ix, nm_r (e' := pg_ov (T (la t) p)) ox ?_⟩⟩
    refine br_f (by decide) (br_f (by decide) (br_f (by decide) (br_t (by decide) ⟨it, ?_⟩)))
    rw [pg_F_3 c] at k
    exact pg_yc V R (v4 t) (by omega) k
  · -- THEN
    refine ⟨it, nm_r (e' := nI 4) (congrArg nI c) ⟨it, ix, nm_r (e' := pg_ov (T (la t) p)) ox ?_⟩⟩
    refine br_f (by decide) (br_f (by decide) (br_f (by decide) (br_f (by decide) (br_t (by decide) ⟨it, it, ?_⟩))))
    rw [pg_F_4 c] at k
    have := v6 t ht (Or.inl c)
    exact pg_yj v2 R hB (by omega) hL hp k
  · -- ELSE
    refine ⟨it, nm_r (e' := nI 5) (congrArg nI c) ⟨it, ix, nm_r (e' := pg_ov (T (la t) p)) ox ?_⟩⟩
    have hf := v6 t ht (Or.inr c)
    have ef := pg_ix (fi t) p
    have bf := pg_B_p hB (t := fi t) hp
    have of : o ((21 : Int32) * nI (fi t) + nI p).toNatClampNeg = pg_ov (T (fi t) p) := by
      rw [ef, nI_clamp (by omega)]; exact R (fi t) p (by omega) (by omega)
    refine br_f (by decide) (br_f (by decide) (br_f (by decide) (br_f (by decide) (br_f (by decide) (br_t (by decide) ⟨it, pk_in (21 * fi t + p) 840 (by omega) ef, nm_r (e' := pg_ov (T (fi t) p)) of ?_⟩)))))
    rw [pg_F_5 c] at k
    unfold pg_el at k
    by_cases z : T (fi t) p = 1
    · rw [if_pos z] at k
      exact br_t ((pg_ov_fa _ (by omega)).mpr z) k
    · rw [if_neg z] at k
      exact br_f (fun c => z ((pg_ov_fa _ (by omega)).mp c)) k
  all_goals by_cases z : T (la t) p = 0
  · -- STAR
    refine ⟨it, nm_r (e' := nI 6) (congrArg nI c) ⟨it, ix, nm_r (e' := pg_ov (T (la t) p)) ox ?_⟩⟩
    rw [pg_F_s (by omega) z] at k
    exact br_f (by decide) (br_f (by decide) (br_f (by decide) (br_f (by decide) (br_f (by decide) (br_f (by decide) (br_t ((pg_ov_st _ (by omega)).mpr z) k))))))
  · refine ⟨it, nm_r (e' := nI 6) (congrArg nI c) ⟨it, ix, nm_r (e' := pg_ov (T (la t) p)) ox ?_⟩⟩
    refine br_f (by decide) (br_f (by decide) (br_f (by decide) (br_f (by decide) (br_f (by decide) (br_f (by decide) (br_f (fun c => z ((pg_ov_st _ (by omega)).mp c)) (br_t (by decide) ?_)))))))
    by_cases y : T (la t) p ≤ 2
    · rw [pg_F_6a c z y] at k
      exact br_f (fun c => by have := (pg_ov_gt _ (by omega)).mp c; omega) k
    · rw [pg_F_6b c y] at k
      exact br_t ((pg_ov_gt _ (by omega)).mpr (by omega)) ⟨it, pg_yj v2 R hB hL (by omega) hp k⟩
  · -- MAYBE
    refine ⟨it, nm_r (e' := nI 7) (congrArg nI c) ⟨it, ix, nm_r (e' := pg_ov (T (la t) p)) ox ?_⟩⟩
    rw [pg_F_s (by omega) z] at k
    exact br_f (by decide) (br_f (by decide) (br_f (by decide) (br_f (by decide) (br_f (by decide) (br_f (by decide) (br_t ((pg_ov_st _ (by omega)).mpr z) k))))))
  · refine ⟨it, nm_r (e' := nI 7) (congrArg nI c) ⟨it, ix, nm_r (e' := pg_ov (T (la t) p)) ox ?_⟩⟩
    refine br_f (by decide) (br_f (by decide) (br_f (by decide) (br_f (by decide) (br_f (by decide) (br_f (by decide) (br_f (fun c => z ((pg_ov_st _ (by omega)).mp c)) (br_f (by decide) (br_t (by decide) ?_))))))))
    rw [pg_F_7 c z] at k
    by_cases y : T (la t) p < 2
    · rw [if_pos y] at k
      exact br_f (fun c => by have := (pg_ov_ge _ (by omega)).mp c; omega) k
    · rw [if_neg y] at k
      exact br_t ((pg_ov_ge _ (by omega)).mpr (by omega)) k
  · -- AHEAD
    refine ⟨it, nm_r (e' := nI 8) (congrArg nI c) ⟨it, ix, nm_r (e' := pg_ov (T (la t) p)) ox ?_⟩⟩
    rw [pg_F_s (by omega) z] at k
    exact br_f (by decide) (br_f (by decide) (br_f (by decide) (br_f (by decide) (br_f (by decide) (br_f (by decide) (br_t ((pg_ov_st _ (by omega)).mpr z) k))))))
  · refine ⟨it, nm_r (e' := nI 8) (congrArg nI c) ⟨it, ix, nm_r (e' := pg_ov (T (la t) p)) ox ?_⟩⟩
    refine br_f (by decide) (br_f (by decide) (br_f (by decide) (br_f (by decide) (br_f (by decide) (br_f (by decide) (br_f (fun c => z ((pg_ov_st _ (by omega)).mp c)) (br_f (by decide) (br_f (by decide) (br_t (by decide) ?_)))))))))
    rw [pg_F_8 c z] at k
    by_cases y : T (la t) p < 2
    · rw [if_pos y] at k
      exact br_f (fun c => by have := (pg_ov_ge _ (by omega)).mp c; omega) k
    · rw [if_neg y] at k
      exact br_t ((pg_ov_ge _ (by omega)).mpr (by omega)) k
  · -- NOT
    refine ⟨it, nm_r (e' := nI 9) (congrArg nI c) ⟨it, ix, nm_r (e' := pg_ov (T (la t) p)) ox ?_⟩⟩
    rw [pg_F_s (by omega) z] at k
    exact br_f (by decide) (br_f (by decide) (br_f (by decide) (br_f (by decide) (br_f (by decide) (br_f (by decide) (br_t ((pg_ov_st _ (by omega)).mpr z) k))))))
  · refine ⟨it, nm_r (e' := nI 9) (congrArg nI c) ⟨it, ix, nm_r (e' := pg_ov (T (la t) p)) ox ?_⟩⟩
    refine br_f (by decide) (br_f (by decide) (br_f (by decide) (br_f (by decide) (br_f (by decide) (br_f (by decide) (br_f (fun c => z ((pg_ov_st _ (by omega)).mp c)) (br_f (by decide) (br_f (by decide) (br_f (by decide) (br_t (by decide) ?_))))))))))
    rw [pg_F_9 c z] at k
    by_cases y : T (la t) p < 2
    · rw [if_pos y] at k
      exact br_f (fun c => by have := (pg_ov_ge _ (by omega)).mp c; omega) k
    · rw [if_neg y] at k
      exact br_t ((pg_ov_ge _ (by omega)).mpr (by omega)) k
  · -- DEFINE
    refine ⟨it, nm_r (e' := nI 10) (congrArg nI c) ⟨it, ix, nm_r (e' := pg_ov (T (la t) p)) ox ?_⟩⟩
    rw [pg_F_10 c] at k
    exact br_f (by decide) (br_f (by decide) (br_f (by decide) (br_f (by decide) (br_f (by decide) (br_f (by decide) (br_t ((pg_ov_st _ (by omega)).mpr z) k))))))
  · refine ⟨it, nm_r (e' := nI 10) (congrArg nI c) ⟨it, ix, nm_r (e' := pg_ov (T (la t) p)) ox ?_⟩⟩
    rw [pg_F_10 c] at k
    exact br_f (by decide) (br_f (by decide) (br_f (by decide) (br_f (by decide) (br_f (by decide) (br_f (by decide) (br_f (fun c => z ((pg_ov_st _ (by omega)).mp c)) (br_f (by decide) (br_f (by decide) (br_f (by decide) (br_f (by decide) k))))))))))
theorem pg_ywk {post : SY → Prop} (V : pg_YV tk len co ar fi la ru yr) (k : ∀ T o', pg_Inv co fi la (pg_ca ar ru) (pg_li tx ar len) len tk T → pg_Fix co fi la (pg_ca ar ru) (pg_li tx ar len) len tk T → pg_RY T o' → post (nI tk, nI h, nI len, (fun t => nI (co t)), (fun t => nI (ar t)), (fun t => nI (fi t)), (fun t => nI (la t)), (fun t => nI (st t)), yr, tx, o')) : wpY_work post (nI tk, nI h, nI len, (fun t => nI (co t)), (fun t => nI (ar t)), (fun t => nI (fi t)), (fun t => nI (la t)), (fun t => nI (st t)), yr, tx, o) := by
  obtain ⟨v1, v2, v3, v4, v5, v6, v7⟩ := id V
  have e21 : (21 : Int32) * nI tk = nI (21 * tk) := pk_mul 21 tk
  refine loop_0 (fun n i s => wY_work_2 post (nI tk) (nI h) (nI len) n (nI i) (fun t => nI (co t)) (fun t => nI (ar t)) (fun t => nI (fi t)) (fun t => nI (la t)) (fun t => nI (st t)) yr tx s) (fun i s => ∀ j, j < i → s j = -2) 840 o (fun j hj => absurd hj (by omega)) (fun n s hI => br_t (nI_le (Nat.le_refl 840) (by decide)) ?_) (fun n i s hi hI hn => br_f (nI_ge (b := 840) hi (by decide)) ⟨vp_in_nI hi (by decide), nm_r (e' := upd s i (-2)) (by rw [nI_clamp (by omega)]) (nm_r (nI_1 i) (hn _ (pg_fl hI)))⟩)
  have R0 : pg_RY (fun _ _ => 0) s := fun t p ht hp => hI _ (by omega)
  refine ⟨842, pg_Ywh (K := fun o' => post (nI tk, nI h, nI len, (fun t => nI (co t)), (fun t => nI (ar t)), (fun t => nI (fi t)), (fun t => nI (la t)), (fun t => nI (st t)), yr, tx, o')) (W := fun n x o' => wY_work_25 post (nI tk) (nI h) (nI len) n x (fun t => nI (co t)) (fun t => nI (ar t)) (fun t => nI (fi t)) (fun t => nI (la t)) (fun t => nI (st t)) yr tx o') v1 v2 ?_ ?_ k 842 1 (fun _ _ => 0) s (Or.inr ⟨rfl, by omega⟩) pg_Inv0 R0⟩
  · intro n o' hK
    exact br_t rfl hK
  · intro n o' T I R hc
    refine br_f (by decide) ⟨21 * tk + 1, ?_⟩
    refine pg_Yin (J := fun x o'' => wY_work_25 post (nI tk) (nI h) (nI len) n x (fun t => nI (co t)) (fun t => nI (ar t)) (fun t => nI (fi t)) (fun t => nI (la t)) (fun t => nI (st t)) yr tx o'') (W := fun m i x o'' => wY_work_33 post (wY_work_25 post (nI tk) (nI h) (nI len) n) (nI tk) (nI h) (nI len) m x (nI i) (fun t => nI (co t)) (fun t => nI (ar t)) (fun t => nI (fi t)) (fun t => nI (la t)) (fun t => nI (st t)) yr tx o'') v2 (pg_li_ok tx ar len) ?_ ?_ hc (21 * tk + 1) 0 0 T o' (Nat.zero_le _) (by omega) (pg_sw0 I (fun t p d => absurd d (Nat.not_lt_zero _))) R
    · intro m x o'' hJ
      exact br_t (by rw [e21]; exact nI_le (Nat.le_refl _) (by omega)) hJ
    · intro m t p x o'' T' ht hp I' R' h1 h2
      have er : nI (21 * t + p) - nI (21 * t + p) / (21 : Int32) * (21 : Int32) = nI p := (pk_rem (a := 21 * t + p) (d := 21) (by omega) (by omega) (by omega)).trans (congrArg nI (by omega))
      have ed : nI (21 * t + p) / (21 : Int32) = nI t := (pk_div (a := 21 * t + p) (d := 21) (by omega) (by omega) (by omega)).trans (congrArg nI (by omega))
      have cc : (nI (21 * t + p)).toNatClampNeg = 21 * t + p := nI_clamp (by omega)
      have ic : vp_in (nI (21 * t + p)) 840 := vp_in_nI (by omega) (by omega)
      have oc : o'' (nI (21 * t + p)).toNatClampNeg = pg_ov (T' t p) := by
        rw [cc]; exact R' t p (by omega) hp
      have bt := pg_B_le I'.1 t p
      refine br_f (by rw [e21]; exact nI_ge (by omega) (by omega)) ⟨by decide, nm_r er ⟨ic, ?_⟩⟩
      by_cases z : T' t p = 0
      · refine br_t (oc.trans (by rw [z]; rfl)) ?_
        by_cases hpl : p ≤ len
        · refine br_f (nI_nlt hpl (by omega)) ⟨by decide, ?_⟩
          rw [ed]
          refine pg_yf V R' I'.1 ht hpl ?_
          have bF := pg_F_B (co := co) (fi := fi) (la := la) (ca := pg_ca ar ru) (pg_li_ok tx ar len) I'.1 t hpl
          by_cases f : pg_F co fi la (pg_ca ar ru) (pg_li tx ar len) len T' t p = 0
          · exact br_t (by rw [f]; rfl) (nm_r (nI_1 _) (h1 (Or.inr (Or.inr f))))
          · exact br_f (fun q => f ((pg_ov_st _ (by omega)).mp q)) ⟨ic, nm_r (e' := upd o'' (21 * t + p) (pg_ov (pg_F co fi la (pg_ca ar ru) (pg_li tx ar len) len T' t p))) (by rw [cc]) (nm_r (nI_1 _) (h2 z hpl f))⟩
        · exact br_t (nI_lt (by omega) (by omega)) (br_t rfl (nm_r (nI_1 _) (h1 (Or.inr (Or.inl (by omega))))))
      · exact br_f (fun q => z ((pg_ov_st _ (by omega)).mp (oc.symm.trans q))) (br_t rfl (nm_r (nI_1 _) (h1 (Or.inl z))))
end
end
section
/-! the component's reading methods over a table -/
section
theorem pg_ne1 {n : Nat} (h : n < 2 ^ 31) : ¬ nI n = -1 := by
  intro e
  have := nI_pos' h
  rw [e] at this
  exact absurd this (by decide)
variable {tk h len : Nat} {co ar fi la st ru : Nat → Nat} {tx xc xa xf xs xst xr o : Nat → Int32} {T : Nat → Nat → Nat}
theorem pg_xo1 {post : Int32 → Prop} (p : Int32) (k : post (-1)) : wpX_outcomeOf post (nI len, nI (pg_g co tk), nI tk, nI h, tx, xc, xa, xf, xs, xst, xr, o) (-1) p := br_t rfl k
theorem pg_xo {post : Int32 → Prop} {g p : Nat} (hg : g * 21 + p < 840) (k : post (o (g * 21 + p))) : wpX_outcomeOf post (nI len, nI (pg_g co tk), nI tk, nI h, tx, xc, xa, xf, xs, xst, xr, o) (nI g) (nI p) := by
  have e := pg_ix' g p
  have c : (nI (g * 21 + p)).toNatClampNeg = g * 21 + p := nI_clamp (by omega)
  refine br_f (pg_ne1 (by omega)) (nm_r e (br_f (nI_pos (by omega)) (br_f (nI_ge (b := 840) hg (by decide)) ⟨vp_in_nI hg (by decide), ?_⟩)))
  rw [← c] at k
  exact k
/-- a part's outcome -/
theorem pg_xoT {post : Int32 → Prop} (htk : tk ≤ 40) (R : pg_RX tk co T o) {n p : Nat} {x : Int32} (P : pg_P tk co n x) (hp : p ≤ 20) (k : post (pg_ov (T n p))) : wpX_outcomeOf post (nI len, nI (pg_g co tk), nI tk, nI h, tx, xc, xa, xf, xs, xst, xr, o) x (nI p) := by
  obtain ⟨p1, p2, p3⟩ := P
  rw [p3]
  have hg := pg_g_le co n
  refine pg_xo (by omega) ?_
  rw [R n p p1 p2 hp]
  exact k
/-- a rule's outcome -/
theorem pg_xan {post : Int32 → Prop} (htk : tk ≤ 40) (R : pg_RX tk co T o) {r p : Nat} (hr : (ru r = 0 ∧ xr r = -1) ∨ ∃ n, ru r = n + 1 ∧ pg_P tk co n (xr r)) (hp : p ≤ 20) (k : post (pg_ov (pg_an ru T r p))) : wpX_outcomeOf post (nI len, nI (pg_g co tk), nI tk, nI h, tx, xc, xa, xf, xs, xst, xr, o) (xr r) (nI p) := by
  unfold pg_an at k
  rcases hr with ⟨a, b⟩ | ⟨n, n1, n2⟩
  · rw [if_pos a] at k
    rw [b]
    exact pg_xo1 _ k
  · rw [if_neg (by omega), n1] at k
    exact pg_xoT htk R n2 hp k
theorem pg_xj {post : Int32 → Prop} {a b : Nat} (ha : 2 ≤ a) (hb : b < 24) (k : post (pg_ov (pg_j a b))) : wpX_joined post (pg_ov a) (pg_ov b) := by
  unfold pg_j at k
  by_cases z : b < 2
  · rw [if_pos z] at k
    exact br_t ((pg_ov_neg b hb).mpr z) k
  · rw [if_neg z] at k
    refine br_f (fun c => z ((pg_ov_neg b hb).mp c)) ?_
    rw [pg_ov_add ha (by omega)]
    exact k
theorem pg_xsim {post : Int32 → Prop} (Q : pg_R tk h co ar fi la st ru xc xa xf xs xst xr) (hlen : len ≤ 20) (R : pg_RX tk co T o) {t p : Nat} (ht : t < tk) (hc : co t ≤ 3) (hp : p ≤ len) (k : post (pg_ov (pg_F co fi la (pg_ca ar ru) (pg_li tx ar len) len T t p))) : wpX_outcomeOfSimple post (nI len, nI (pg_g co tk), nI tk, nI h, tx, xc, xa, xf, xs, xst, xr, o) (nI (pg_g co t)) (nI p) := by
  obtain ⟨r1, r2, r3, r4, r5, r6, r7, r8⟩ := Q
  obtain ⟨e1, e2, e3, e4⟩ := r6 t ht (by omega)
  have hg := pg_g_le co t
  have cg : (nI (pg_g co t)).toNatClampNeg = pg_g co t := nI_clamp (by omega)
  have cp : (nI p).toNatClampNeg = p := nI_clamp (by omega)
  have ig : vp_in (nI (pg_g co t)) 40 := vp_in_nI (by omega) (by omega)
  have ha := r4 t
  have ca : (nI (ar t)).toNatClampNeg = ar t := nI_clamp (by omega)
  unfold wpX_outcomeOfSimple
  dsimp only
  rw [cg, cp, e2, ca]
  have hcs : co t = 0 ∨ co t = 1 ∨ co t = 2 ∨ co t = 3 := by omega
  rcases hcs with c | c | c | c
  · refine ⟨ig, nm_r (e' := nI 0) (e1.trans (congrArg nI c)) (br_f (by decide) (br_f (by decide) (br_t (by decide) ?_)))⟩
    rw [pg_F_0 c] at k
    unfold pg_li at k
    by_cases z : p < len
    · refine br_f (nI_ge z (by omega)) ⟨vp_in_nI (by omega) (by omega), ig, ?_⟩
      by_cases w : tx p = nI (ar t)
      · rw [if_pos ⟨z, w⟩] at k
        exact br_t w k
      · rw [if_neg (fun c => w c.2)] at k
        exact br_f w k
    · rw [if_neg (fun c => z c.1)] at k
      exact br_t (nI_le (by omega) (by omega)) k
  · refine ⟨ig, nm_r (e' := nI 1) (e1.trans (congrArg nI c)) (br_f (by decide) (br_f (by decide) (br_f (by decide) (br_t (by decide) ?_))))⟩
    rw [pg_F_1 c] at k
    by_cases z : p < len
    · rw [if_pos z] at k
      exact br_f (nI_ge z (by omega)) k
    · rw [if_neg z] at k
      exact br_t (nI_le (by omega) (by omega)) k
  · refine ⟨ig, nm_r (e' := nI 2) (e1.trans (congrArg nI c)) (br_f (by decide) (br_f (by decide) (br_f (by decide) (br_f (by decide) (br_t (by decide) ?_)))))⟩
    rw [pg_F_2 c] at k
    exact k
  · refine ⟨ig, nm_r (e' := nI 3) (e1.trans (congrArg nI c)) (br_f (by decide) (br_t (by decide) ⟨ig, vp_in_nI ha (by omega), ?_⟩))⟩
    rw [pg_F_3 c] at k
    exact pg_xan r1 R (r8 _ ha) (by omega) k
theorem pg_x31 {post : Int32 → Prop} (Q : pg_R tk h co ar fi la st ru xc xa xf xs xst xr) (hlen : len ≤ 20) (R : pg_RX tk co T o) (hB : pg_B tk len T) {t p n1 : Nat} (ht : t < tk) (h10 : co t ≠ 10) (hp : p ≤ len)
    (hn : ((co t = 4 ∨ co t = 5) ∧ n1 = fi t) ∨ (6 ≤ co t ∧ n1 = la t)) (z : T n1 p ≠ 0) {z0 : Int32} (hz : (T n1 p = 1 ∧ z0 = 1) ∨ (2 ≤ T n1 p ∧ z0 = 0)) (k : post (pg_ov (pg_F co fi la (pg_ca ar ru) (pg_li tx ar len) len T t p))) :
    wX_outcomeOfCompound_31 post (nI (pg_g co t)) (nI p) (pg_ov (T n1 p)) z0 (nI len) (nI (pg_g co tk)) (nI tk) (nI h) tx xc xa xf xs xst xr o := by
  obtain ⟨r1, r2, r3, r4, r5, r6, r7, r8⟩ := Q
  obtain ⟨e1, e2, e3, e4⟩ := r6 t ht h10
  have hg := pg_g_le co t
  have hc := r5 t ht
  have cg : (nI (pg_g co t)).toNatClampNeg = pg_g co t := nI_clamp (by omega)
  have ig : vp_in (nI (pg_g co t)) 40 := vp_in_nI (by omega) (by omega)
  have b1 := pg_B_p hB (t := n1) hp
  have es : 2 ≤ T n1 p → nI p + pg_ov (T n1 p) = nI (p + (T n1 p - 2)) := fun y => by rw [pg_ov_num y, nI_add]
  have hcs : co t = 4 ∨ co t = 5 ∨ co t = 6 ∨ co t = 7 ∨ co t = 8 ∨ co t = 9 := by
    rcases hn with a | a
    · omega
    · omega
  unfold wX_outcomeOfCompound_31
  rw [cg]
  rcases hcs with c | c | c | c | c | c
  · obtain ⟨a1, a2, a3, a4, a5, a6⟩ := e3 (Or.inl c)
    have en : n1 = fi t := by
      rcases hn with a | a
      · exact a.2
      · omega
    subst en
    have b2 := pg_B_le hB (la t) (p + (T (fi t) p - 2))
    refine ⟨ig, nm_r (e' := nI 4) (e1.trans (congrArg nI c)) (br_f (by decide) (br_f (by decide) (br_t (by decide) ?_)))⟩
    rw [pg_F_4 c] at k
    unfold pg_th at k
    rcases hz with ⟨y, rfl⟩ | ⟨y, rfl⟩
    · rw [if_pos (by omega), y] at k
      exact br_f (by decide) (br_t (by decide) k)
    · rw [if_neg (by omega)] at k
      refine br_t rfl ⟨ig, ?_⟩
      rw [es y]
      refine pg_xoT r1 R ⟨a3, a4, a6⟩ (by omega) ?_
      exact pg_xj y (by omega) k
  · obtain ⟨a1, a2, a3, a4, a5, a6⟩ := e3 (Or.inr c)
    have en : n1 = fi t := by
      rcases hn with a | a
      · exact a.2
      · omega
    subst en
    refine ⟨ig, nm_r (e' := nI 5) (e1.trans (congrArg nI c)) (br_f (by decide) (br_f (by decide) (br_f (by decide) (br_t (by decide) ?_))))⟩
    rw [pg_F_5 c] at k
    unfold pg_el at k
    rcases hz with ⟨y, rfl⟩ | ⟨y, rfl⟩
    · rw [if_pos y] at k
      refine br_f (by decide) ⟨ig, ?_⟩
      exact pg_xoT r1 R ⟨a3, a4, a6⟩ (by omega) k
    · rw [if_neg (by omega)] at k
      exact br_t rfl k
  all_goals obtain ⟨a1, a2, a3⟩ := e4 (by omega)
  all_goals have en : n1 = la t := by omega
  all_goals subst en
  · refine ⟨ig, nm_r (e' := nI 6) (e1.trans (congrArg nI c)) (br_f (by decide) (br_f (by decide) (br_f (by decide) (br_f (by decide) (br_t (by decide) ?_)))))⟩
    have b2 := pg_B_le hB t (p + (T (la t) p - 2))
    rcases hz with ⟨y, rfl⟩ | ⟨y, rfl⟩
    · rw [pg_F_6a c z (by omega)] at k
      exact br_f (by decide) k
    · refine br_t rfl ?_
      by_cases w : T (la t) p = 2
      · rw [pg_F_6a c z (by omega)] at k
        exact br_t ((pg_ov_0 _ (by omega)).mpr w) k
      · rw [pg_F_6b c (by omega)] at k
        unfold pg_th at k
        rw [if_neg (by omega)] at k
        refine br_f (fun q => w ((pg_ov_0 _ (by omega)).mp q)) ?_
        rw [es y]
        refine pg_xoT r1 R ⟨ht, h10, rfl⟩ (by omega) ?_
        exact pg_xj y (by omega) k
  · refine ⟨ig, nm_r (e' := nI 7) (e1.trans (congrArg nI c)) (br_f (by decide) (br_f (by decide) (br_f (by decide) (br_f (by decide) (br_f (by decide) (br_t (by decide) ?_))))))⟩
    rw [pg_F_7 c z] at k
    rcases hz with ⟨y, rfl⟩ | ⟨y, rfl⟩
    · rw [if_pos (by omega)] at k
      exact br_f (by decide) k
    · rw [if_neg (by omega)] at k
      exact br_t rfl k
  · refine ⟨ig, nm_r (e' := nI 8) (e1.trans (congrArg nI c)) (br_f (by decide) (br_f (by decide) (br_f (by decide) (br_f (by decide) (br_f (by decide) (br_f (by decide) (br_t (by decide) ?_)))))))⟩
    rw [pg_F_8 c z] at k
    rcases hz with ⟨y, rfl⟩ | ⟨y, rfl⟩
    · rw [if_pos (by omega)] at k
      exact br_f (by decide) k
    · rw [if_neg (by omega)] at k
      exact br_t rfl k
  · refine ⟨ig, nm_r (e' := nI 9) (e1.trans (congrArg nI c)) (br_f (by decide) (br_t (by decide) ?_))⟩
    rw [pg_F_9 c z] at k
    rcases hz with ⟨y, rfl⟩ | ⟨y, rfl⟩
    · rw [if_pos (by omega)] at k
      exact br_f (by decide) k
    · rw [if_neg (by omega)] at k
      exact br_t rfl k
theorem pg_xcom {post : Int32 → Prop} (Q : pg_R tk h co ar fi la st ru xc xa xf xs xst xr) (hlen : len ≤ 20) (R : pg_RX tk co T o) (hB : pg_B tk len T) {t p : Nat} (ht : t < tk) (h4 : 3 < co t) (h10 : co t ≠ 10) (hp : p ≤ len) (k : post (pg_ov (pg_F co fi la (pg_ca ar ru) (pg_li tx ar len) len T t p))) : wpX_outcomeOfCompound post (nI len, nI (pg_g co tk), nI tk, nI h, tx, xc, xa, xf, xs, xst, xr, o) (nI (pg_g co t)) (nI p) := by
  have Q' := Q
  obtain ⟨r1, r2, r3, r4, r5, r6, r7, r8⟩ := Q
  obtain ⟨e1, e2, e3, e4⟩ := r6 t ht h10
  have hg := pg_g_le co t
  have hc := r5 t ht
  have cg : (nI (pg_g co t)).toNatClampNeg = pg_g co t := nI_clamp (by omega)
  have ig : vp_in (nI (pg_g co t)) 40 := vp_in_nI (by omega) (by omega)
  obtain ⟨n1, P1, hn⟩ : ∃ n1, pg_P tk co n1 (xf (pg_g co t)) ∧ (((co t = 4 ∨ co t = 5) ∧ n1 = fi t) ∨ (6 ≤ co t ∧ n1 = la t)) := by
    by_cases c : co t = 4 ∨ co t = 5
    · obtain ⟨a1, a2, a3, a4, a5, a6⟩ := e3 c
      exact ⟨fi t, ⟨a1, a2, a5⟩, Or.inl ⟨c, rfl⟩⟩
    · obtain ⟨a1, a2, a3⟩ := e4 (by omega)
      exact ⟨la t, ⟨a1, a2, a3⟩, Or.inr ⟨by omega, rfl⟩⟩
  have b1 := pg_B_p hB (t := n1) hp
  unfold wpX_outcomeOfCompound
  dsimp only
  rw [cg]
  refine ⟨ig, pg_xoT r1 R P1 (by omega) ?_⟩
  by_cases z : T n1 p = 0
  · have hF : pg_F co fi la (pg_ca ar ru) (pg_li tx ar len) len T t p = 0 := by
      rcases hn with ⟨c | c, en⟩ | ⟨c, en⟩
      · rw [pg_F_4 c]
        rw [en] at z
        unfold pg_th
        rw [z]; rfl
      · rw [pg_F_5 c]
        rw [en] at z
        unfold pg_el
        rw [z]; rfl
      · rw [en] at z
        exact pg_F_s c z
    rw [hF] at k
    exact br_t ((pg_ov_st _ (by omega)).mpr z) k
  · refine br_f (fun q => z ((pg_ov_st _ (by omega)).mp q)) ?_
    by_cases y : T n1 p = 1
    · exact br_t ((pg_ov_fa _ (by omega)).mpr y) (pg_x31 Q' hlen R hB ht h10 hp hn z (Or.inl ⟨y, rfl⟩) k)
    · exact br_f (fun q => y ((pg_ov_fa _ (by omega)).mp q)) (pg_x31 Q' hlen R hB ht h10 hp hn z (Or.inr ⟨by omega, rfl⟩) k)
theorem pg_xsw {post : Int32 → SX → Prop} (Q : pg_R tk h co ar fi la st ru xc xa xf xs xst xr) (hlen : len ≤ 20) {T0 : Nat → Nat → Nat} (I : pg_Inv co fi la (pg_ca ar ru) (pg_li tx ar len) len tk T0) (R : pg_RX tk co T0 o) {p : Nat} (hp : p ≤ len)
    (k : ∀ x T o', pg_SW co fi la (pg_ca ar ru) (pg_li tx ar len) len tk T0 T (fun t q => q = p ∧ pg_g co t < pg_g co tk) x → pg_RX tk co T o' → (∀ t q, q ≠ p → T t q = T0 t q) → post x (nI len, nI (pg_g co tk), nI tk, nI h, tx, xc, xa, xf, xs, xst, xr, o')) : wpX_sweepPlace post (nI len, nI (pg_g co tk), nI tk, nI h, tx, xc, xa, xf, xs, xst, xr, o) (nI p) := by
  have Q' := Q
  obtain ⟨r1, r2, r3, r4, r5, r6, r7, r8⟩ := Q
  have hgm := pg_g_le co tk
  refine ⟨pg_g co tk + 1, ?_⟩
  refine pg_Xin (J := fun x o' => post x (nI len, nI (pg_g co tk), nI tk, nI h, tx, xc, xa, xf, xs, xst, xr, o')) (W := fun n e x o' => wX_sweepPlace_4 post (nI p) (nI len) (nI (pg_g co tk)) (nI tk) (nI h) n x (nI e) tx xc xa xf xs xst xr o') hp hlen (pg_li_ok tx ar len) ?_ ?_ k (pg_g co tk + 1) 0 0 T0 o (Nat.zero_le _) (by omega) (pg_sw0 I (fun t q d => absurd d.2 (Nat.not_lt_zero _))) R (fun _ _ _ => rfl)
  · intro n x o' hx hJ
    refine br_t (nI_le (Nat.le_refl _) (by omega)) ⟨?_, hJ⟩
    rcases hx with rfl | rfl
    · rfl
    · rfl
  · intro n t x o' T ht hc hg I' R' hx h1 h2 h3
    have hgt := pg_g_le co t
    obtain ⟨e1, e2, e3, e4⟩ := r6 t ht hc
    have ex := pg_ix' (pg_g co t) p
    have b := pg_B_p I'.1 (t := t) hp
    have bF := pg_F_B (co := co) (fi := fi) (la := la) (ca := pg_ca ar ru) (pg_li_ok tx ar len) I'.1 t hp
    have cg : (nI (pg_g co t)).toNatClampNeg = pg_g co t := nI_clamp (by omega)
    have cc : (nI (pg_g co t * 21 + p)).toNatClampNeg = pg_g co t * 21 + p := nI_clamp (by omega)
    have ic : vp_in (nI (pg_g co t * 21 + p)) 840 := vp_in_nI (by omega) (by omega)
    have oc : o' (nI (pg_g co t * 21 + p)).toNatClampNeg = pg_ov (T t p) := by
      rw [cc]; exact R' t p ht hc (by omega)
    have ec : xc (nI (pg_g co t)).toNatClampNeg = nI (co t) := by
      rw [cg]; exact e1
    have hco := r5 t ht
    refine br_f (nI_ge hg (by omega)) (nm_r ex ⟨ic, ?_⟩)
    by_cases z : T t p = 0
    · refine br_t (oc.trans (by rw [z]; rfl)) ⟨vp_in_nI (by omega) (by omega), ?_⟩
      have hj : wX_sweepPlace_63 post (wX_sweepPlace_4 post (nI p) (nI len) (nI (pg_g co tk)) (nI tk) (nI h) n) (nI p) x (nI (pg_g co t)) (nI (pg_g co t * 21 + p)) (pg_ov (pg_F co fi la (pg_ca ar ru) (pg_li tx ar len) len T t p)) (nI (pg_g co t * 21 + p)) (nI len) (nI (pg_g co tk)) (nI tk) (nI h) tx xc xa xf xs xst xr o' := by
        refine ⟨ic, nm_r (e' := upd o' (pg_g co t * 21 + p) (pg_ov (pg_F co fi la (pg_ca ar ru) (pg_li tx ar len) len T t p))) (by rw [cc]) ?_⟩
        have us : upd o' (pg_g co t * 21 + p) (pg_ov (pg_F co fi la (pg_ca ar ru) (pg_li tx ar len) len T t p)) (nI (pg_g co t * 21 + p)).toNatClampNeg = pg_ov (pg_F co fi la (pg_ca ar ru) (pg_li tx ar len) len T t p) := by
          rw [cc]; exact if_pos rfl
        by_cases f : pg_F co fi la (pg_ca ar ru) (pg_li tx ar len) len T t p = 0
        · rcases hx with rfl | rfl
          · exact br_t rfl ⟨ic, br_t (us.trans (by rw [f]; rfl)) (nm_r (nI_1 _) (h2 z f))⟩
          · exact br_f (by decide) (nm_r (nI_1 _) (h2 z f))
        · rcases hx with rfl | rfl
          · exact br_t rfl ⟨ic, br_f (fun q => f ((pg_ov_st _ (by omega)).mp (us.symm.trans q))) (nm_r (nI_1 _) (h3 z f))⟩
          · exact br_f (by decide) (nm_r (nI_1 _) (h3 z f))
      by_cases c3 : 3 < co t
      · exact br_t (by rw [ec]; exact nI_lt (a := 3) c3 (by omega)) (pg_xcom Q' hlen R' I'.1 ht c3 hc hp hj)
      · exact br_f (by rw [ec]; exact nI_nlt (a := 3) (by omega) (by decide)) (pg_xsim Q' hlen R' ht (by omega) hp hj)
    · exact br_f (fun q => z ((pg_ov_st _ (by omega)).mp (oc.symm.trans q))) (nm_r (nI_1 _) (h1 z))
theorem pg_xfo {post : SX → Prop} (k : ∀ o', (∀ j, j < 840 → o' j = -2) → post (nI len, nI (pg_g co tk), nI tk, nI h, tx, xc, xa, xf, xs, xst, xr, o')) : wpX_forgetOutcomes post (nI len, nI (pg_g co tk), nI tk, nI h, tx, xc, xa, xf, xs, xst, xr, o) :=
  loop_0 (fun n i s => wX_forgetOutcomes_2 post (nI len) (nI (pg_g co tk)) (nI tk) (nI h) n (nI i) tx xc xa xf xs xst xr s) (fun i s => ∀ j, j < i → s j = -2) 840 o (fun j hj => absurd hj (by omega)) (fun n s hI => br_t (nI_le (Nat.le_refl 840) (by decide)) (k s hI)) (fun n i s hi hI hn => br_f (nI_ge (b := 840) hi (by decide)) ⟨vp_in_nI hi (by decide), nm_r (e' := upd s i (-2)) (by rw [nI_clamp (by omega)]) (nm_r (nI_1 i) (hn _ (pg_fl hI)))⟩)
theorem pg_xfill {post : SX → Prop} (Q : pg_R tk h co ar fi la st ru xc xa xf xs xst xr) (hlen : len ≤ 20) (k : ∀ T o', pg_Inv co fi la (pg_ca ar ru) (pg_li tx ar len) len tk T → pg_Fix co fi la (pg_ca ar ru) (pg_li tx ar len) len tk T → pg_RX tk co T o' → post (nI len, nI (pg_g co tk), nI tk, nI h, tx, xc, xa, xf, xs, xst, xr, o')) : wpX_fillOutcomes post (nI len, nI (pg_g co tk), nI tk, nI h, tx, xc, xa, xf, xs, xst, xr, o) := by
  have hgm := pg_g_le co tk
  have r1 := Q.1
  unfold wpX_fillOutcomes
  dsimp only
  refine pg_xfo (fun o1 h1 => ?_)
  have R0 : pg_RX tk co (fun _ _ => 0) o1 := fun t p ht hc hp => by
    have := pg_g_le co t
    exact h1 _ (by omega)
  refine ⟨len + 2, ?_⟩
  refine pg_Xout (K := fun o' => post (nI len, nI (pg_g co tk), nI tk, nI h, tx, xc, xa, xf, xs, xst, xr, o')) (W := fun n i o' => wX_fillOutcomes_9 post n (pg_dn i) (nI len) (nI (pg_g co tk)) (nI tk) (nI h) tx xc xa xf xs xst xr o') ?_ ?_ k (len + 1) (len + 2) (fun _ _ => 0) o1 (Nat.le_refl _) (by omega) pg_Inv0 R0 (fun q a b => absurd a (by omega))
  · intro n o' hK
    exact br_t (by decide) hK
  · intro n p o' T hp I R hq hn
    refine br_f (nI_pos (n := p) (by omega)) ⟨pg_g co tk + 1, ?_⟩
    refine pg_Xsw (p := p) (K := fun o'' => wX_fillOutcomes_9 post n (pg_dn p) (nI len) (nI (pg_g co tk)) (nI tk) (nI h) tx xc xa xf xs xst xr o'') (W := fun m s x o'' => wX_fillOutcomes_17 post (wX_fillOutcomes_9 post n) (nI p) m x (nI s) (nI len) (nI (pg_g co tk)) (nI tk) (nI h) tx xc xa xf xs xst xr o'') hp ?_ ?_ ?_ hn (pg_g co tk + 1) 0 1 T o' (Nat.zero_le _) (by omega) I R hq (Or.inr ⟨rfl, Nat.zero_le _⟩)
    · intro m x o'' hK
      exact br_t (nI_le (Nat.le_refl _) (by omega)) (nm_r (pg_dn_s p) hK)
    · intro m s o'' hs hK
      exact br_f (nI_ge hs (by omega)) (br_t rfl (nm_r (pg_dn_s p) hK))
    · intro m s o'' T'' hs I'' R'' hc
      refine br_f (nI_ge hs (by omega)) (br_f (by decide) ?_)
      refine pg_xsw Q hlen I'' R'' hp (fun x T' o3 S R3 hq3 => ?_)
      exact nm_r (nI_1 s) (hc x T' o3 S R3 hq3)
end
end
section
/-! the answers out of a table; rules that are none -/
section
theorem pg_xir1 {post : Int32 → Prop} {r : Nat} (hr : r < 4) (k : post 1) : wpX_isRule post (nI r) := br_f (nI_pos (by omega)) (br_f (nI_ge (b := 4) hr (by decide)) k)
theorem pg_xir0 {post : Int32 → Prop} {x : Int32} (hx : x < 0 ∨ nI 4 ≤ x) (k : post 0) : wpX_isRule post x := by
  by_cases h0 : x < 0
  · exact br_t h0 k
  · exact br_f h0 (br_t (hx.resolve_left h0) k)
theorem pg_yb0 {post : Int32 → Prop} {r : Nat} (hr : r < 4) (k : post 0) : wpY_bad post (nI r) := br_f (nI_pos (by omega)) (br_t (nI_le (b := 3) (by omega) (by decide)) k)
theorem pg_yb1 {post : Int32 → Prop} {x : Int32} (hx : x < 0 ∨ nI 4 ≤ x) (k : post 1) : wpY_bad post x := by
  by_cases h0 : x < 0
  · exact br_t h0 k
  · obtain ⟨j, hj, rfl⟩ := nI_of h0
    have h4 : 4 ≤ j := (nI_leI (by decide) hj).mp (hx.resolve_left h0)
    exact br_f h0 (br_f (nI_ge (a := 3) (by omega) hj) k)
variable {tk h len : Nat} {co ar fi la st ru : Nat → Nat} {tx xc xa xf xs xst xr yr o : Nat → Int32} {T : Nat → Nat → Nat}
theorem pg_an_le (hB : pg_B tk len T) (r p : Nat) : pg_an ru T r p ≤ len + 2 := by
  unfold pg_an
  by_cases z : ru r = 0
  · rw [if_pos z]; omega
  · rw [if_neg z]; exact pg_B_le hB _ _
/-- what is counted -/
def pg_qm (ru : Nat → Nat) (T : Nat → Nat → Nat) (r p : Nat) : Nat := if 2 ≤ pg_an ru T r p then 1 else 0
def pg_qs (ru : Nat → Nat) (T : Nat → Nat → Nat) (r p : Nat) : Nat := if pg_an ru T r p = 0 then 1 else 0
theorem pg_xm {post : Int32 → SX → Prop} (Q : pg_R tk h co ar fi la st ru xc xa xf xs xst xr) (hlen : len ≤ 20) (R : pg_RX tk co T o) (hB : pg_B tk len T) {r : Nat} (hr : r < 4) (k : post (nI (pg_cn (pg_qm ru T r) (len + 1))) (nI len, nI (pg_g co tk), nI tk, nI h, tx, xc, xa, xf, xs, xst, xr, o)) : ∃ n, wX_matches_18 post (nI r) (nI len) (nI (pg_g co tk)) (nI tk) (nI h) tx xc xa xf xs xst xr o n 0 0 := by
  obtain ⟨r1, r2, r3, r4, r5, r6, r7, r8⟩ := Q
  have cr : (nI r).toNatClampNeg = r := nI_clamp (by omega)
  refine ⟨len + 2, pg_cnt (K := fun c => post c (nI len, nI (pg_g co tk), nI tk, nI h, tx, xc, xa, xf, xs, xst, xr, o)) (W := fun n i c => wX_matches_18 post (nI r) (nI len) (nI (pg_g co tk)) (nI tk) (nI h) tx xc xa xf xs xst xr o n c (nI i)) (q := pg_qm ru T r) (len := len) ?_ ?_ k (len + 2) 0 (by omega) (by omega)⟩
  · intro n c hK
    exact br_t (nI_lt (by omega) (by omega)) hK
  · intro n i c hi h0 h1
    have b := pg_an_le (ru := ru) hB r i
    refine br_f (nI_nlt hi (by omega)) ⟨vp_in_nI hr (by decide), ?_⟩
    rw [cr]
    refine pg_xan r1 R (r8 r hr) (by omega) ?_
    by_cases z : 2 ≤ pg_an ru T r i
    · exact br_f (fun q => by have := (pg_ov_neg _ (by omega)).mp q; omega) (nm_r (nI_1 c) (nm_r (nI_1 i) (h1 (by unfold pg_qm; rw [if_pos z]; omega))))
    · exact br_t ((pg_ov_neg _ (by omega)).mpr (by omega)) (nm_r (nI_1 i) (h0 (by unfold pg_qm; rw [if_neg z])))
theorem pg_xs {post : Int32 → SX → Prop} (Q : pg_R tk h co ar fi la st ru xc xa xf xs xst xr) (hlen : len ≤ 20) (R : pg_RX tk co T o) (hB : pg_B tk len T) {r : Nat} (hr : r < 4) (k : post (nI (pg_cn (pg_qs ru T r) (len + 1))) (nI len, nI (pg_g co tk), nI tk, nI h, tx, xc, xa, xf, xs, xst, xr, o)) : ∃ n, wX_stuck_18 post (nI r) (nI len) (nI (pg_g co tk)) (nI tk) (nI h) tx xc xa xf xs xst xr o n 0 0 := by
  obtain ⟨r1, r2, r3, r4, r5, r6, r7, r8⟩ := Q
  have cr : (nI r).toNatClampNeg = r := nI_clamp (by omega)
  refine ⟨len + 2, pg_cnt (K := fun c => post c (nI len, nI (pg_g co tk), nI tk, nI h, tx, xc, xa, xf, xs, xst, xr, o)) (W := fun n i c => wX_stuck_18 post (nI r) (nI len) (nI (pg_g co tk)) (nI tk) (nI h) tx xc xa xf xs xst xr o n c (nI i)) (q := pg_qs ru T r) (len := len) ?_ ?_ k (len + 2) 0 (by omega) (by omega)⟩
  · intro n c hK
    exact br_t (nI_lt (by omega) (by omega)) hK
  · intro n i c hi h0 h1
    have b := pg_an_le (ru := ru) hB r i
    refine br_f (nI_nlt hi (by omega)) ⟨vp_in_nI hr (by decide), ?_⟩
    rw [cr]
    refine pg_xan r1 R (r8 r hr) (by omega) ?_
    by_cases z : pg_an ru T r i = 0
    · exact br_t ((pg_ov_st _ (by omega)).mpr z) (nm_r (nI_1 c) (nm_r (nI_1 i) (h1 (by unfold pg_qs; rw [if_pos z]; omega))))
    · exact br_f (fun q => z ((pg_ov_st _ (by omega)).mp q)) (nm_r (nI_1 i) (h0 (by unfold pg_qs; rw [if_neg z])))
theorem pg_xf {post : Int32 → SX → Prop} (Q : pg_R tk h co ar fi la st ru xc xa xf xs xst xr) (hlen : len ≤ 20) (R : pg_RX tk co T o) (hB : pg_B tk len T) {r : Nat} (hr : r < 4) (fr : Int32) (k : post (pg_fd (pg_an ru T r) fr (len + 1) 0) (nI len, nI (pg_g co tk), nI tk, nI h, tx, xc, xa, xf, xs, xst, xr, o)) : ∃ n, wX_find_16 post (nI r) fr (nI len) (nI (pg_g co tk)) (nI tk) (nI h) tx xc xa xf xs xst xr o n 0 := by
  obtain ⟨r1, r2, r3, r4, r5, r6, r7, r8⟩ := Q
  have cr : (nI r).toNatClampNeg = r := nI_clamp (by omega)
  refine ⟨len + 2, pg_fnd (K := fun c => post c (nI len, nI (pg_g co tk), nI tk, nI h, tx, xc, xa, xf, xs, xst, xr, o)) (W := fun n i => wX_find_16 post (nI r) fr (nI len) (nI (pg_g co tk)) (nI tk) (nI h) tx xc xa xf xs xst xr o n (nI i)) (f := pg_an ru T r) (fr := fr) (len := len) ?_ ?_ (len + 1) 0 (len + 2) (by omega) (by omega) k⟩
  · intro n hK
    exact br_t (nI_lt (by omega) (by omega)) hK
  · intro n i hi h1 h2
    have b := pg_an_le (ru := ru) hB r i
    refine br_f (nI_nlt hi (by omega)) ?_
    by_cases z : nI i < fr
    · exact br_t z (nm_r (nI_1 i) (h2 (fun c => absurd z (Int32.not_lt.mpr c.1))))
    · refine br_f z ⟨vp_in_nI hr (by decide), ?_⟩
      rw [cr]
      refine pg_xan r1 R (r8 r hr) (by omega) ?_
      by_cases y : 2 ≤ pg_an ru T r i
      · exact br_f (fun q => by have := (pg_ov_neg _ (by omega)).mp q; omega) (h1 (Int32.not_lt.mp z) y)
      · exact br_t ((pg_ov_neg _ (by omega)).mpr (by omega)) (nm_r (nI_1 i) (h2 (fun c => y c.2)))
theorem pg_ym {post : Int32 → SY → Prop} (V : pg_YV tk len co ar fi la ru yr) (R : pg_RY T o) (hB : pg_B tk len T) {r : Nat} (hr : r < 4) (k : post (nI (pg_cn (pg_qm ru T r) (len + 1))) (nI tk, nI h, nI len, (fun t => nI (co t)), (fun t => nI (ar t)), (fun t => nI (fi t)), (fun t => nI (la t)), (fun t => nI (st t)), yr, tx, o)) : ∃ n, wY_matches_18 post (nI r) (nI tk) (nI h) (nI len) (fun t => nI (co t)) (fun t => nI (ar t)) (fun t => nI (fi t)) (fun t => nI (la t)) (fun t => nI (st t)) yr tx o n 0 0 := by
  have hlen := V.2.1
  refine ⟨len + 2, pg_cnt (K := fun c => post c (nI tk, nI h, nI len, (fun t => nI (co t)), (fun t => nI (ar t)), (fun t => nI (fi t)), (fun t => nI (la t)), (fun t => nI (st t)), yr, tx, o)) (W := fun n i c => wY_matches_18 post (nI r) (nI tk) (nI h) (nI len) (fun t => nI (co t)) (fun t => nI (ar t)) (fun t => nI (fi t)) (fun t => nI (la t)) (fun t => nI (st t)) yr tx o n c (nI i)) (q := pg_qm ru T r) (len := len) ?_ ?_ k (len + 2) 0 (by omega) (by omega)⟩
  · intro n c hK
    exact br_t (nI_lt (by omega) (by omega)) hK
  · intro n i c hi h0 h1
    have b := pg_an_le (ru := ru) hB r i
    refine br_f (nI_nlt hi (by omega)) ?_
    refine pg_yc V R hr (by omega) ?_
    by_cases z : 2 ≤ pg_an ru T r i
    · exact br_f (fun q => by have := (pg_ov_neg _ (by omega)).mp q; omega) (nm_r (nI_1 c) (nm_r (nI_1 i) (h1 (by unfold pg_qm; rw [if_pos z]; omega))))
    · exact br_t ((pg_ov_neg _ (by omega)).mpr (by omega)) (nm_r (nI_1 i) (h0 (by unfold pg_qm; rw [if_neg z])))
theorem pg_ys {post : Int32 → SY → Prop} (V : pg_YV tk len co ar fi la ru yr) (R : pg_RY T o) (hB : pg_B tk len T) {r : Nat} (hr : r < 4) (k : post (nI (pg_cn (pg_qs ru T r) (len + 1))) (nI tk, nI h, nI len, (fun t => nI (co t)), (fun t => nI (ar t)), (fun t => nI (fi t)), (fun t => nI (la t)), (fun t => nI (st t)), yr, tx, o)) : ∃ n, wY_stuck_18 post (nI r) (nI tk) (nI h) (nI len) (fun t => nI (co t)) (fun t => nI (ar t)) (fun t => nI (fi t)) (fun t => nI (la t)) (fun t => nI (st t)) yr tx o n 0 0 := by
  have hlen := V.2.1
  refine ⟨len + 2, pg_cnt (K := fun c => post c (nI tk, nI h, nI len, (fun t => nI (co t)), (fun t => nI (ar t)), (fun t => nI (fi t)), (fun t => nI (la t)), (fun t => nI (st t)), yr, tx, o)) (W := fun n i c => wY_stuck_18 post (nI r) (nI tk) (nI h) (nI len) (fun t => nI (co t)) (fun t => nI (ar t)) (fun t => nI (fi t)) (fun t => nI (la t)) (fun t => nI (st t)) yr tx o n c (nI i)) (q := pg_qs ru T r) (len := len) ?_ ?_ k (len + 2) 0 (by omega) (by omega)⟩
  · intro n c hK
    exact br_t (nI_lt (by omega) (by omega)) hK
  · intro n i c hi h0 h1
    have b := pg_an_le (ru := ru) hB r i
    refine br_f (nI_nlt hi (by omega)) ?_
    refine pg_yc V R hr (by omega) ?_
    by_cases z : pg_an ru T r i = 0
    · exact br_t ((pg_ov_st _ (by omega)).mpr z) (nm_r (nI_1 c) (nm_r (nI_1 i) (h1 (by unfold pg_qs; rw [if_pos z]; omega))))
    · exact br_f (fun q => z ((pg_ov_st _ (by omega)).mp q)) (nm_r (nI_1 i) (h0 (by unfold pg_qs; rw [if_neg z])))
theorem pg_yfi {post : Int32 → Prop} (V : pg_YV tk len co ar fi la ru yr) (R : pg_RY T o) (hB : pg_B tk len T) {r : Nat} (hr : r < 4) (fr : Int32) (k : post (pg_fd (pg_an ru T r) fr (len + 1) 0)) : wpY_first post (nI tk, nI h, nI len, (fun t => nI (co t)), (fun t => nI (ar t)), (fun t => nI (fi t)), (fun t => nI (la t)), (fun t => nI (st t)), yr, tx, o) (nI r) fr := by
  have hlen := V.2.1
  refine ⟨len + 2, pg_fnd (K := post) (W := fun n i => wY_first_2 post (nI r) fr (nI tk) (nI h) (nI len) (fun t => nI (co t)) (fun t => nI (ar t)) (fun t => nI (fi t)) (fun t => nI (la t)) (fun t => nI (st t)) yr tx o n (nI i)) (f := pg_an ru T r) (fr := fr) (len := len) ?_ ?_ (len + 1) 0 (len + 2) (by omega) (by omega) k⟩
  · intro n hK
    exact br_t (nI_lt (by omega) (by omega)) hK
  · intro n i hi h1 h2
    have b := pg_an_le (ru := ru) hB r i
    refine br_f (nI_nlt hi (by omega)) ?_
    by_cases z : nI i < fr
    · exact br_t z (nm_r (nI_1 i) (h2 (fun c => absurd z (Int32.not_lt.mpr c.1))))
    · refine br_f z ?_
      refine pg_yc V R hr (by omega) ?_
      by_cases y : 2 ≤ pg_an ru T r i
      · exact br_f (fun q => by have := (pg_ov_neg _ (by omega)).mp q; omega) (h1 (Int32.not_lt.mp z) y)
      · exact br_t ((pg_ov_neg _ (by omega)).mpr (by omega)) (nm_r (nI_1 i) (h2 (fun c => y c.2)))
end
section
/-! tokens -/
def pg_tk (c : Nat) : Nat := if c ≤ 3 then 0 else if c ≤ 5 then 2 else 1
theorem pg_tk0 {c : Nat} (h : c ≤ 3) : pg_tk c = 0 := if_pos h
theorem pg_tk2 {c : Nat} (h : c = 4 ∨ c = 5) : pg_tk c = 2 := by
  unfold pg_tk
  rw [if_neg (by omega), if_pos (by omega)]
theorem pg_tk1 {c : Nat} (h : 6 ≤ c) : pg_tk c = 1 := by
  unfold pg_tk
  rw [if_neg (by omega), if_neg (by omega)]
theorem pg_tk_le (c : Nat) : pg_tk c ≤ 2 := by
  unfold pg_tk
  split
  · omega
  · split <;> omega
theorem pg_xp {post : Int32 → Prop} {c : Nat} (hc : c ≤ 10) (k : post (nI (pg_tk c))) : wpX_partsOf post (nI c) := by
  by_cases c3 : c ≤ 3
  · rw [pg_tk0 c3] at k
    exact br_f (nI_nlt (a := 3) c3 (by decide)) k
  · refine br_t (nI_lt (a := 3) (by omega) (by omega)) ?_
    by_cases c4 : c = 4
    · rw [pg_tk2 (Or.inl c4)] at k
      rw [c4]
      exact br_t rfl k
    · refine br_f (fun q => c4 ((nI_eq (b := 4) (by omega) (by decide)).mp q)) ?_
      by_cases c5 : c = 5
      · rw [pg_tk2 (Or.inr c5)] at k
        rw [c5]
        exact br_t rfl k
      · rw [pg_tk1 (by omega)] at k
        exact br_f (fun q => c5 ((nI_eq (b := 5) (by omega) (by decide)).mp q)) k
theorem pg_yp {post : Int32 → Prop} {c : Nat} (hc : c ≤ 10) (k : post (nI (pg_tk c))) : wpY_takes post (nI c) := by
  by_cases c3 : c ≤ 3
  · rw [pg_tk0 c3] at k
    exact br_f (nI_nlt (a := 3) c3 (by decide)) k
  · refine br_t (nI_lt (a := 3) (by omega) (by omega)) ?_
    by_cases c5 : c ≤ 5
    · rw [pg_tk2 (by omega)] at k
      exact br_f (nI_nlt (a := 5) c5 (by decide)) k
    · rw [pg_tk1 (by omega)] at k
      exact br_t (nI_lt (a := 5) (by omega) (by omega)) k
variable {L TK : Int32} {m q c a tk h : Nat} {tx xc xa xf xs xst xr o : Nat → Int32}
theorem pg_xme {post : SX → Prop} {F S : Int32} (hm : m < 40) (hq : q < 40) (hq2 : pg_tk c = 2 → q + 1 < 40) (hc : c ≤ 10) (hF : F = if pg_tk c < 1 then -1 else xst q) (hS : S = if pg_tk c = 2 then xst (q + 1) else -1)
    (k : post (L, nI (m + 1), TK, nI (q + 1), tx, upd xc m (nI c), upd xa m (nI a), upd xf m F, upd xs m S, upd xst q (nI m), xr, o)) :
    wpX_makeExpression post (L, nI m, TK, nI q, tx, xc, xa, xf, xs, xst, xr, o) (nI c) (nI a) := by
  have cm : (nI m).toNatClampNeg = m := nI_clamp (by omega)
  have cq : (nI q).toNatClampNeg = q := nI_clamp (by omega)
  have im : vp_in (nI m) 40 := vp_in_nI hm (by decide)
  have iq : vp_in (nI q) 40 := vp_in_nI hq (by decide)
  have hk := pg_tk_le c
  have h80 : wX_makeExpression_80 post S (nI m) L (nI m) TK (nI q) tx (upd xc m (nI c)) (upd xa m (nI a)) (upd xf m F) xs xst xr o :=
    ⟨im, nm_r (e' := upd xs m S) (by rw [cm]) ⟨iq, nm_r (e' := upd xst q (nI m)) (by rw [cq]) (nm_r (nI_1 q) (nm_r (nI_1 m) k))⟩⟩
  have h51 : wX_makeExpression_51 post (nI (pg_tk c)) F (nI m) L (nI m) TK (nI q) tx (upd xc m (nI c)) (upd xa m (nI a)) xf xs xst xr o := by
    refine ⟨im, nm_r (e' := upd xf m F) (by rw [cm]) ?_⟩
    by_cases d : pg_tk c = 2
    · rw [if_pos d] at hS
      rw [hS] at h80
      rw [nI_1, nI_clamp (show q + 1 < 2 ^ 31 by omega)]
      exact br_t (by rw [d]; rfl) ⟨vp_in_nI (hq2 d) (by decide), h80⟩
    · rw [if_neg d] at hS
      rw [hS] at h80
      exact br_f (fun e => d ((nI_eq (b := 2) (by omega) (by decide)).mp e)) h80
  unfold wpX_makeExpression
  dsimp only
  refine pg_xp hc ?_
  refine ⟨im, nm_r (e' := upd xc m (nI c)) (by rw [cm]) ⟨im, nm_r (e' := upd xa m (nI a)) (by rw [cm]) ?_⟩⟩
  by_cases d : pg_tk c < 1
  · rw [if_pos d] at hF
    rw [hF] at h51
    exact br_t (nI_lt (b := 1) d (by decide)) h51
  · rw [if_neg d] at hF
    rw [hF] at h51
    rw [cq]
    exact br_f (nI_nlt (b := 1) (by omega) (by omega)) ⟨iq, h51⟩
theorem pg_xt {post : Int32 → SX → Prop} {A F S : Int32} (hc : c ≤ 9) (hm : m < 40) (htk : tk < 40) (hh : pg_tk c ≤ h) (hht : h ≤ tk) (hA : A &&& 3 = nI a) (hF : F = if pg_tk c < 1 then -1 else xst (h - pg_tk c)) (hS : S = if pg_tk c = 2 then xst (h - pg_tk c + 1) else -1)
    (k : post (nI (h - pg_tk c + 1)) (L, nI (m + 1), nI (tk + 1), nI (h - pg_tk c + 1), tx, upd xc m (nI c), upd xa m (nI a), upd xf m F, upd xs m S, upd xst (h - pg_tk c) (nI m), xr, o)) :
    wpX_token post (L, nI m, nI tk, nI h, tx, xc, xa, xf, xs, xst, xr, o) (nI c) A := by
  unfold wpX_token
  dsimp only
  rw [hA]
  refine br_f (nI_pos (by omega)) (br_f (nI_nlt (a := 10) (by omega) (by decide)) (br_t (nI_lt (b := 40) htk (by decide)) ?_))
  refine pg_xp (by omega) ?_
  refine br_t (nI_le hh (by omega)) (nm_r (nI_1 tk) (nm_r (pk_sub hh) (br_f (fun e => absurd ((nI_eq (b := 10) (by omega) (by decide)).mp e) (by omega)) ?_)))
  exact pg_xme hm (by omega) (fun e => by omega) (by omega) hF hS k
theorem pg_xd {post : Int32 → SX → Prop} {A : Int32} {M : Int32} (htk : tk < 40) (hh : 1 ≤ h) (hht : h ≤ tk) (hA : A &&& 3 = nI a) (ha : a < 4)
    (k : post (nI (h - 1)) (L, M, nI (tk + 1), nI (h - 1), tx, xc, xa, xf, xs, xst, upd xr a (xst (h - 1)), o)) :
    wpX_token post (L, M, nI tk, nI h, tx, xc, xa, xf, xs, xst, xr, o) (nI 10) A := by
  have ch : (nI (h - 1)).toNatClampNeg = h - 1 := nI_clamp (by omega)
  have ca : (nI a).toNatClampNeg = a := nI_clamp (by omega)
  unfold wpX_token
  dsimp only
  rw [hA]
  refine br_f (by decide) (br_f (by decide) (br_t (nI_lt (b := 40) htk (by decide)) ?_))
  refine pg_xp (by omega) ?_
  refine br_t (nI_le (a := 1) hh (by omega)) (nm_r (nI_1 tk) (nm_r (pk_sub (b := 1) hh) (br_t (by decide) ⟨vp_in_nI (by omega) (by decide), vp_in_nI ha (by decide), nm_r (e' := upd xr a (xst (h - 1))) ?_ k⟩)))
  rw [ch, ca]
end
end
section
/-! the relation, and what is owed -/
section
variable {LN : Int32} {c a tk h : Nat} {yc ya yf yl yst yr tx o : Nat → Int32}
theorem pg_y109 {post : Int32 → SY → Prop} {A : Int32} (hc : c ≤ 9) (htk : tk < 40) (hh : pg_tk c ≤ h) (hht : h ≤ tk)
    (k : post (nI (h - pg_tk c + 1)) (nI (tk + 1), nI (h - pg_tk c + 1), LN, yc, ya, yf, yl, upd yst (h - pg_tk c) (nI tk), yr, tx, o)) :
    wY_token_109 post (nI c) A (nI tk) (nI h) LN yc ya yf yl yst yr tx o := by
  unfold wY_token_109
  refine pg_yp (by omega) ?_
  exact nm_r (pk_sub hh) (br_f (fun e => absurd ((nI_eq (b := 10) (by omega) (by decide)).mp e) (by omega)) ⟨vp_in_nI (by omega) (by decide), nm_r (e' := upd yst (h - pg_tk c) (nI tk)) (by rw [nI_clamp (by omega)]) (nm_r (nI_1 _) (nm_r (nI_1 tk) k))⟩)
theorem pg_y109d {post : Int32 → SY → Prop} {A W : Int32} (htk : tk < 40) (hh : 1 ≤ h) (hA : A &&& 3 = nI a) (ha : a < 4) (hW : yl tk = W)
    (k : post (nI (h - 1)) (nI (tk + 1), nI (h - 1), LN, yc, ya, yf, yl, yst, upd yr a W, tx, o)) :
    wY_token_109 post (nI 10) A (nI tk) (nI h) LN yc ya yf yl yst yr tx o := by
  unfold wY_token_109
  refine pg_yp (by omega) ?_
  refine nm_r (pk_sub (b := 1) hh) (br_t (by decide) ⟨vp_in_nI htk (by decide), ?_⟩)
  rw [hA]
  exact ⟨vp_in_nI ha (by decide), nm_r (e' := upd yr a W) (by rw [nI_clamp (show a < 2 ^ 31 by omega), nI_clamp (show tk < 2 ^ 31 by omega), hW]) (nm_r (nI_1 tk) k)⟩
theorem pg_y81 {post : Int32 → SY → Prop} {A : Int32} {YF : Nat → Int32} (hc : c ≤ 10) (htk : tk < 40) (hh : pg_tk c ≤ h) (hht : h ≤ tk) (hY : YF = if pg_tk c = 2 then upd yf tk (yst (h - 2)) else yf)
    (k : wY_token_109 post (nI c) A (nI tk) (nI h) LN yc ya YF yl yst yr tx o) : wY_token_81 post (nI c) A (nI tk) (nI h) LN yc ya yf yl yst yr tx o := by
  have hk := pg_tk_le c
  unfold wY_token_81
  refine pg_yp hc ?_
  by_cases d : pg_tk c = 2
  · rw [if_pos d] at hY
    have e2 : nI h - 2 = nI (h - 2) := pk_sub (b := 2) (by omega)
    rw [e2]
    exact br_t (by rw [d]; rfl) ⟨vp_in_nI (by omega) (by decide), vp_in_nI htk (by decide), nm_r (e' := YF) (by rw [hY, nI_clamp (show h - 2 < 2 ^ 31 by omega), nI_clamp (show tk < 2 ^ 31 by omega)]) k⟩
  · rw [if_neg d] at hY
    rw [hY] at k
    exact br_f (fun e => d ((nI_eq (b := 2) (by omega) (by decide)).mp e)) k
theorem pg_ytk {post : Int32 → SY → Prop} {A : Int32} {YL : Nat → Int32} (hc : c ≤ 10) (htk : tk < 40) (hh : pg_tk c ≤ h) (hht : h ≤ tk) (hA : A &&& 3 = nI a) (hY : YL = if pg_tk c ≤ 0 then yl else upd yl tk (yst (h - 1)))
    (k : wY_token_81 post (nI c) A (nI tk) (nI h) LN (upd yc tk (nI c)) (upd ya tk (nI a)) yf YL yst yr tx o) : wpY_token post (nI tk, nI h, LN, yc, ya, yf, yl, yst, yr, tx, o) (nI c) A := by
  have hk := pg_tk_le c
  have ct : (nI tk).toNatClampNeg = tk := nI_clamp (by omega)
  have it : vp_in (nI tk) 40 := vp_in_nI htk (by decide)
  unfold wpY_token
  dsimp only
  refine br_f (nI_pos (by omega)) (br_f (nI_nlt (a := 10) hc (by decide)) ?_)
  refine pg_yp hc ?_
  refine br_f (nI_nlt hh (by omega)) (br_f (fun e => absurd ((nI_eq (b := 40) (by omega) (by decide)).mp e) (by omega)) ⟨it, nm_r (e' := upd yc tk (nI c)) (by rw [ct]) ⟨it, nm_r (e' := upd ya tk (nI a)) (by rw [ct, hA]) ?_⟩⟩)
  refine pg_yp hc ?_
  by_cases d : pg_tk c ≤ 0
  · rw [if_pos d] at hY
    rw [hY] at k
    exact br_t (nI_le (b := 0) d (by decide)) k
  · rw [if_neg d] at hY
    have e1 : nI h - 1 = nI (h - 1) := pk_sub (b := 1) (by omega)
    rw [e1]
    exact br_f (nI_ge (a := 0) (by omega) (by omega)) ⟨vp_in_nI (by omega) (by decide), it, nm_r (e' := YL) (by rw [hY, ct, nI_clamp (show h - 1 < 2 ^ 31 by omega)]) k⟩
end
def i_Rel (_ : Nat) (u : SX) (v : SY) : Prop := ∃ (tk h len : Nat) (co ar fi la st ru : Nat → Nat) (tx xc xa xf xs xst xr xo yr yo : Nat → Int32),
  len ≤ 20 ∧ (∀ r, r < 4 → yr r = pg_rv (ru r)) ∧ pg_R tk h co ar fi la st ru xc xa xf xs xst xr ∧ u = (nI len, nI (pg_g co tk), nI tk, nI h, tx, xc, xa, xf, xs, xst, xr, xo) ∧ v = (nI tk, nI h, nI len, (fun t => nI (co t)), (fun t => nI (ar t)), (fun t => nI (fi t)), (fun t => nI (la t)), (fun t => nI (st t)), yr, tx, yo)
theorem i_up {k : Nat} {u : SX} {v : SY} (h : i_Rel k u v) : i_Rel (k + 3) u v := h
section
variable {tk h len : Nat} {co ar fi la st ru : Nat → Nat} {tx xc xa xf xs xst xr xo yr yo : Nat → Int32}
theorem pg_mk {k : Nat} (hlen : len ≤ 20) (hyr : ∀ r, r < 4 → yr r = pg_rv (ru r)) (R : pg_R tk h co ar fi la st ru xc xa xf xs xst xr) : i_Rel k (nI len, nI (pg_g co tk), nI tk, nI h, tx, xc, xa, xf, xs, xst, xr, xo) (nI tk, nI h, nI len, (fun t => nI (co t)), (fun t => nI (ar t)), (fun t => nI (fi t)), (fun t => nI (la t)), (fun t => nI (st t)), yr, tx, yo) :=
  ⟨tk, h, len, co, ar, fi, la, st, ru, tx, xc, xa, xf, xs, xst, xr, xo, yr, yo, hlen, hyr, R, rfl, rfl⟩
/-- nothing made yet -/
theorem pg_R0 (hla : ∀ t, la t < 40) (har : ∀ t, ar t < 4) (hr : ∀ r, r < 4 → ru r = 0 ∧ xr r = -1) : pg_R 0 0 co ar fi la st ru xc xa xf xs xst xr :=
  ⟨by omega, by omega, hla, har, fun t ht => absurd ht (by omega), fun t ht => absurd ht (by omega), fun i hi => absurd hi (by omega), fun r hr' => Or.inl (hr r hr')⟩
theorem pg_clo {k H c a q : Nat} {fi' la' : Nat → Nat} {XC XA XF XS XT : Nat → Int32} (hlen : len ≤ 20) (hyr : ∀ r, r < 4 → yr r = pg_rv (ru r)) (hc : c ≠ 10)
    (R : pg_R (tk + 1) H (pg_upN co tk c) (pg_upN ar tk a) fi' la' (pg_upN st q tk) ru XC XA XF XS XT xr) :
    i_Rel k (nI len, nI (pg_g co tk + 1), nI (tk + 1), nI H, tx, XC, XA, XF, XS, XT, xr, xo)
      (nI (tk + 1), nI H, nI len, upd (fun t => nI (co t)) tk (nI c), upd (fun t => nI (ar t)) tk (nI a), (fun t => nI (fi' t)), (fun t => nI (la' t)), upd (fun t => nI (st t)) q (nI tk), yr, tx, yo) := by
  rw [pg_upI, pg_upI, pg_upI, ← pg_g_new (co := co) (k := tk) hc]
  exact pg_mk hlen hyr R
theorem pg_clod {k H a L1 : Nat} {la' : Nat → Nat} {XR : Nat → Int32} (hlen : len ≤ 20) (hyr : ∀ r, r < 4 → yr r = pg_rv (ru r))
    (R : pg_R (tk + 1) H (pg_upN co tk 10) (pg_upN ar tk a) fi la' st (pg_upN ru a (L1 + 1)) xc xa xf xs xst XR) :
    i_Rel k (nI len, nI (pg_g co tk), nI (tk + 1), nI H, tx, xc, xa, xf, xs, xst, XR, xo)
      (nI (tk + 1), nI H, nI len, upd (fun t => nI (co t)) tk (nI 10), upd (fun t => nI (ar t)) tk (nI a), (fun t => nI (fi t)), (fun t => nI (la' t)), (fun t => nI (st t)), upd yr a (nI L1), tx, yo) := by
  rw [pg_upI, pg_upI, ← pg_g_new0 (co := co) (k := tk)]
  refine pg_mk hlen (fun r hr => ?_) R
  by_cases e : r = a
  · rw [e, pg_upN_s]
    exact if_pos rfl
  · rw [pg_upN_n e]
    exact (if_neg e).trans (hyr r hr)
end
section
theorem pg_xfg {post : SX → Prop} {L M K H : Int32} {tx xc xa xf xs xst xr o : Nat → Int32} (k : ∀ s, (∀ r, r < 4 → s r = -1) → post (L, 0, 0, 0, tx, xc, xa, xf, xs, xst, s, o)) : wpX_forgetGrammar post (L, M, K, H, tx, xc, xa, xf, xs, xst, xr, o) :=
  loop_0 (fun n i s => wX_forgetGrammar_17 post L 0 0 0 n (nI i) tx xc xa xf xs xst s o) (fun i s => ∀ j, j < i → s j = -1) 4 xr (fun j hj => absurd hj (by omega)) (fun n s hI => br_t (nI_le (Nat.le_refl 4) (by decide)) (k s hI)) (fun n i s hi hI hn => br_f (nI_ge (b := 4) hi (by decide)) ⟨vp_in_nI hi (by decide), nm_r (e' := upd s i (-1)) (by rw [nI_clamp (by omega)]) (nm_r (nI_1 i) (hn _ (pg_fl hI)))⟩)
theorem pg_yin0 {post : SY → Prop} (k : ∀ s, (∀ r, r < 4 → s r = -1) → post (0, 0, 0, (fun _ => 0), (fun _ => 0), (fun _ => 0), (fun _ => 0), (fun _ => 0), s, (fun _ => 0), (fun _ => 0))) : wpY_init post :=
  loop_0 (fun n i s => wY_init_70 post 0 0 0 n (nI i) (fun _ => 0) (fun _ => 0) (fun _ => 0) (fun _ => 0) (fun _ => 0) s (fun _ => 0) (fun _ => 0)) (fun i s => ∀ j, j < i → s j = -1) 4 (fun _ => 0) (fun j hj => absurd hj (by omega)) (fun n s hI => br_t (nI_le (Nat.le_refl 4) (by decide)) (k s hI)) (fun n i s hi hI hn => br_f (nI_ge (b := 4) hi (by decide)) ⟨vp_in_nI hi (by decide), nm_r (e' := upd s i (-1)) (by rw [nI_clamp (by omega)]) (nm_r (nI_1 i) (hn _ (pg_fl hI)))⟩)
theorem pg_ycl {post : SY → Prop} {K H L : Int32} {yc ya yf yl yst yr tx o : Nat → Int32} (k : ∀ s, (∀ r, r < 4 → s r = -1) → post (0, 0, L, yc, ya, yf, yl, yst, s, tx, o)) : wpY_clear post (K, H, L, yc, ya, yf, yl, yst, yr, tx, o) :=
  loop_0 (fun n i s => wY_clear_12 post 0 0 L n (nI i) yc ya yf yl yst s tx o) (fun i s => ∀ j, j < i → s j = -1) 4 yr (fun j hj => absurd hj (by omega)) (fun n s hI => br_t (nI_le (Nat.le_refl 4) (by decide)) (k s hI)) (fun n i s hi hI hn => br_f (nI_ge (b := 4) hi (by decide)) ⟨vp_in_nI hi (by decide), nm_r (e' := upd s i (-1)) (by rw [nI_clamp (by omega)]) (nm_r (nI_1 i) (hn _ (pg_fl hI)))⟩)
end
theorem i_vc0 : wpX_init (fun u => wpY_init (fun v => i_Rel 0 u v)) := by
  unfold wpX_init
  refine pg_xfg (fun s hs => ?_)
  dsimp only
  refine pg_yin0 (fun s' hs' => ?_)
  exact ⟨0, 0, 0, fun _ => 0, fun _ => 0, fun _ => 0, fun _ => 0, fun _ => 0, fun _ => 0, fun _ => 0, fun _ => 0, fun _ => 0, fun _ => 0, fun _ => 0, fun _ => 0, s, fun _ => 0, s', fun _ => 0, by omega, hs', pg_R0 (fun _ => by omega) (fun _ => by omega) (fun r hr => ⟨rfl, hs r hr⟩), rfl, rfl⟩
theorem i_vc_token {k : Nat} {u : SX} {v : SY} (I : i_Rel k u v) (hk : k + 3 ≤ 1536) (v1 : Int32) (v2 : Int32) : wpX_token (fun r u' => wpY_token (fun r' v' => r' = r ∧ i_Rel (k + 3) u' v') v v1 v2) u v1 v2 := by
  obtain ⟨tk, h, len, co, ar, fi, la, st, ru, tx, xc, xa, xf, xs, xst, xr, xo, yr, yo, hlen, hyr, R, rfl, rfl⟩ := I
  have hrel : i_Rel (k + 3) (nI len, nI (pg_g co tk), nI tk, nI h, tx, xc, xa, xf, xs, xst, xr, xo) (nI tk, nI h, nI len, (fun t => nI (co t)), (fun t => nI (ar t)), (fun t => nI (fi t)), (fun t => nI (la t)), (fun t => nI (st t)), yr, tx, yo) := pg_mk hlen hyr R
  obtain ⟨r1, r2, r3, r4, r5, r6, r7, r8⟩ := id R
  by_cases h0 : v1 < 0
  · exact br_t h0 (br_t h0 ⟨rfl, hrel⟩)
  obtain ⟨c, hc, rfl⟩ := nI_of h0
  by_cases h10 : c ≤ 10
  rotate_left
  · exact br_f h0 (br_t (nI_lt (a := 10) (by omega) hc) (br_f h0 (br_t (nI_lt (a := 10) (by omega) hc) ⟨rfl, hrel⟩)))
  have n10 : ¬ (10 : Int32) < nI c := nI_nlt (a := 10) h10 (by decide)
  have hkc := pg_tk_le c
  by_cases htk : tk < 40
  rotate_left
  · have e40 : tk = 40 := by omega
    refine br_f h0 (br_f n10 (br_f (nI_nlt (b := 40) (by omega) (by omega)) ?_))
    refine br_f h0 (br_f n10 ?_)
    refine pg_yp h10 ?_
    by_cases hh : h < pg_tk c
    · exact br_t (nI_lt hh (by omega)) ⟨rfl, hrel⟩
    · exact br_f (nI_nlt (by omega) (by omega)) (br_t (by rw [e40]; rfl) ⟨rfl, hrel⟩)
  by_cases hh : pg_tk c ≤ h
  rotate_left
  · refine br_f h0 (br_f n10 (br_t (nI_lt (b := 40) htk (by decide)) ?_))
    refine pg_xp h10 ?_
    refine br_f (nI_ge (by omega) (by omega)) ?_
    refine br_f h0 (br_f n10 ?_)
    refine pg_yp h10 ?_
    exact br_t (nI_lt (by omega) (by omega)) ⟨rfl, hrel⟩
  obtain ⟨a, ha, hA⟩ := pk_andE v2 (m := 3) 2 (by decide)
  have ha : a < 4 := ha
  have hm : pg_g co tk < 40 := by
    have := pg_g_le co tk
    omega
  by_cases c10 : c = 10
  · have hk1 : pg_tk c = 1 := pg_tk1 (by omega)
    have hs := (r7 (h - 1) (by omega)).1
    subst c10
    refine pg_xd htk (by omega) r2 hA ha ?_
    refine pg_ytk h10 htk hh r2 hA (YL := fun t => nI (pg_upN la tk (st (h - 1)) t)) (by rw [if_neg (by omega)]; exact (pg_upI la tk (st (h - 1))).symm) ?_
    refine pg_y81 h10 htk hh r2 (YF := fun t => nI (fi t)) (by rw [if_neg (by omega)]) ?_
    refine pg_y109d (W := nI (st (h - 1))) htk (by omega) hA ha (congrArg nI pg_upN_s) ?_
    exact ⟨rfl, pg_clod hlen hyr (pg_R_def R htk (q := h - 1) (by omega) ha (fun t e => pg_upN_n e) pg_upN_s rfl)⟩
  have c9 : c ≤ 9 := by omega
  by_cases c3 : c ≤ 3
  · have hk0 : pg_tk c = 0 := pg_tk0 c3
    refine pg_xt (F := -1) (S := -1) c9 hm htk hh r2 hA (by rw [if_pos (by omega)]) (by rw [if_neg (by omega)]) ?_
    refine pg_ytk h10 htk hh r2 hA (YL := fun t => nI (la t)) (by rw [if_pos (by omega)]) ?_
    refine pg_y81 h10 htk hh r2 (YF := fun t => nI (fi t)) (by rw [if_neg (by omega)]) ?_
    refine pg_y109 c9 htk hh r2 ?_
    exact ⟨rfl, pg_clo hlen hyr c10 (pg_R_tok R htk hh c9 ha (fun _ _ => rfl) (fun _ _ => rfl) (r3 tk) rfl rfl (fun z => absurd z (by omega)) (fun z => absurd z (by omega)))⟩
  by_cases c5 : c ≤ 5
  · have hk2 : pg_tk c = 2 := pg_tk2 (by omega)
    have hs := (r7 (h - 1) (by omega)).1
    refine pg_xt (F := xst (h - 2)) (S := xst (h - 1)) c9 hm htk hh r2 hA (by rw [if_neg (by omega), hk2]) (by rw [if_pos hk2, hk2]; exact congrArg xst (by omega)) ?_
    refine pg_ytk h10 htk hh r2 hA (YL := fun t => nI (pg_upN la tk (st (h - 1)) t)) (by rw [if_neg (by omega)]; exact (pg_upI la tk (st (h - 1))).symm) ?_
    refine pg_y81 h10 htk hh r2 (YF := fun t => nI (pg_upN fi tk (st (h - 2)) t)) (by rw [if_pos hk2]; exact (pg_upI fi tk (st (h - 2))).symm) ?_
    refine pg_y109 c9 htk hh r2 ?_
    exact ⟨rfl, pg_clo hlen hyr c10 (pg_R_tok R htk hh c9 ha (fun t e => pg_upN_n e) (fun t e => pg_upN_n e) (by rw [pg_upN_s]; omega) pg_upN_s pg_upN_s (fun _ => ⟨r7 (h - 2) (by omega), r7 (h - 1) (by omega)⟩) (fun z => absurd z (by omega)))⟩
  · have hk1 : pg_tk c = 1 := pg_tk1 (by omega)
    have hs := (r7 (h - 1) (by omega)).1
    refine pg_xt (F := xst (h - 1)) (S := -1) c9 hm htk hh r2 hA (by rw [if_neg (by omega), hk1]) (by rw [if_neg (by omega)]) ?_
    refine pg_ytk h10 htk hh r2 hA (YL := fun t => nI (pg_upN la tk (st (h - 1)) t)) (by rw [if_neg (by omega)]; exact (pg_upI la tk (st (h - 1))).symm) ?_
    refine pg_y81 h10 htk hh r2 (YF := fun t => nI (fi t)) (by rw [if_neg (by omega)]) ?_
    refine pg_y109 c9 htk hh r2 ?_
    exact ⟨rfl, pg_clo hlen hyr c10 (pg_R_tok R htk hh c9 ha (fun _ _ => rfl) (fun t e => pg_upN_n e) (by rw [pg_upN_s]; omega) rfl pg_upN_s (fun z => absurd z (by omega)) (fun _ => r7 (h - 1) (by omega)))⟩
theorem i_vc_clear {k : Nat} {u : SX} {v : SY} (I : i_Rel k u v) (hk : k + 3 ≤ 1536) : wpX_clear (fun u' => wpY_clear (fun v' => i_Rel (k + 3) u' v') v) u := by
  obtain ⟨tk, h, len, co, ar, fi, la, st, ru, tx, xc, xa, xf, xs, xst, xr, xo, yr, yo, hlen, hyr, R, rfl, rfl⟩ := I
  unfold wpX_clear
  dsimp only
  refine pg_xfg (fun s hs => ?_)
  dsimp only
  refine pg_ycl (fun s' hs' => ?_)
  exact ⟨0, 0, len, co, ar, fi, la, st, fun _ => 0, tx, xc, xa, xf, xs, xst, s, xo, s', yo, hlen, hs', pg_R0 R.2.2.1 R.2.2.2.1 (fun r hr => ⟨rfl, hs r hr⟩), rfl, rfl⟩
theorem i_vc_type {k : Nat} {u : SX} {v : SY} (I : i_Rel k u v) (hk : k + 3 ≤ 1536) (v1 : Int32) : wpX_type (fun r u' => wpY_type (fun r' v' => r' = r ∧ i_Rel (k + 3) u' v') v v1) u v1 := by
  obtain ⟨tk, h, len, co, ar, fi, la, st, ru, tx, xc, xa, xf, xs, xst, xr, xo, yr, yo, hlen, hyr, R, rfl, rfl⟩ := I
  by_cases hl : len < 20
  · have cl : (nI len).toNatClampNeg = len := nI_clamp (by omega)
    have il : vp_in (nI len) 20 := vp_in_nI hl (by decide)
    refine br_t (nI_lt (b := 20) hl (by decide)) ⟨il, nm_r (e' := upd tx len (v1 &&& 3)) (by rw [cl]) (nm_r (nI_1 len) ?_)⟩
    refine br_f (fun e => absurd ((nI_eq (b := 20) (by omega) (by decide)).mp e) (by omega)) ⟨il, nm_r (e' := upd tx len (v1 &&& 3)) (by rw [cl]) (nm_r (nI_1 len) ?_)⟩
    exact ⟨rfl, pg_mk (by omega) hyr R⟩
  · have e : len = 20 := by omega
    exact br_f (nI_nlt (b := 20) (by omega) (by omega)) (br_t (by rw [e]; rfl) ⟨rfl, pg_mk hlen hyr R⟩)
theorem i_vc_erase {k : Nat} {u : SX} {v : SY} (I : i_Rel k u v) (hk : k + 3 ≤ 1536) : wpX_erase (fun u' => wpY_erase (fun v' => i_Rel (k + 3) u' v') v) u := by
  obtain ⟨tk, h, len, co, ar, fi, la, st, ru, tx, xc, xa, xf, xs, xst, xr, xo, yr, yo, hlen, hyr, R, rfl, rfl⟩ := I
  exact pg_mk (k := k + 3) (len := 0) (by omega) hyr R
theorem i_vc_match {k : Nat} {u : SX} {v : SY} (I : i_Rel k u v) (hk : k + 3 ≤ 1536) (v1 : Int32) (v2 : Int32) : wpX_match (fun r u' => wpY_match (fun r' v' => r' = r ∧ i_Rel (k + 3) u' v') v v1 v2) u v1 v2 := by
  obtain ⟨tk, h, len, co, ar, fi, la, st, ru, tx, xc, xa, xf, xs, xst, xr, xo, yr, yo, hlen, hyr, R, rfl, rfl⟩ := I
  have hrel : i_Rel (k + 3) (nI len, nI (pg_g co tk), nI tk, nI h, tx, xc, xa, xf, xs, xst, xr, xo) (nI tk, nI h, nI len, (fun t => nI (co t)), (fun t => nI (ar t)), (fun t => nI (fi t)), (fun t => nI (la t)), (fun t => nI (st t)), yr, tx, yo) := pg_mk hlen hyr R
  have V := pg_YV_of R hlen hyr
  have r1 := R.1
  have r8 := R.2.2.2.2.2.2.2
  by_cases hx : v1 < 0 ∨ nI 4 ≤ v1
  · unfold wpX_match
    dsimp only
    refine pg_xir0 hx (br_t rfl ?_)
    unfold wpY_match
    dsimp only
    exact pg_yb1 hx (br_f (by decide) ⟨rfl, hrel⟩)
  obtain ⟨r, hr, rfl⟩ : ∃ r, r < 4 ∧ v1 = nI r := by
    rcases pk_ix v1 (n := 4) (by omega) with a | a | a
    · exact absurd (Or.inl a) hx
    · exact absurd (Or.inr a) hx
    · exact a
  have cr : (nI r).toNatClampNeg = r := nI_clamp (by omega)
  unfold wpX_match
  dsimp only
  refine pg_xir1 hr (br_f (by decide) ?_)
  by_cases p0 : v2 < 0
  · refine br_t p0 ?_
    unfold wpY_match
    dsimp only
    exact pg_yb0 hr (br_t rfl (br_t p0 ⟨rfl, hrel⟩))
  obtain ⟨p, hp, rfl⟩ := nI_of p0
  by_cases hpl : p ≤ len
  · refine br_f p0 (br_t (nI_le hpl (by omega)) ?_)
    refine pg_xfill R hlen (fun T o1 I1 F1 R1 => ?_)
    dsimp only
    rw [cr]
    refine ⟨vp_in_nI hr (by decide), pg_xan r1 R1 (r8 r hr) (by omega) ?_⟩
    unfold wpY_match
    dsimp only
    refine pg_yb0 hr (br_t rfl (br_f p0 (br_t (nI_le hpl (by omega)) ?_)))
    refine pg_ywk V (fun T' o2 I2 F2 R2 => ?_)
    have e : T' = T := funext fun t => funext fun q => pg_uniq I2 F2 I1 F1 t q
    subst e
    refine pg_yc V R2 hr (by omega) ?_
    exact ⟨rfl, pg_mk hlen hyr R⟩
  · refine br_f p0 (br_f (nI_ge (by omega) (by omega)) ?_)
    unfold wpY_match
    dsimp only
    exact pg_yb0 hr (br_t rfl (br_f p0 (br_f (nI_ge (by omega) (by omega)) ⟨rfl, hrel⟩)))
theorem i_vc_matches {k : Nat} {u : SX} {v : SY} (I : i_Rel k u v) (hk : k + 3 ≤ 1536) (v1 : Int32) : wpX_matches (fun r u' => wpY_matches (fun r' v' => r' = r ∧ i_Rel (k + 3) u' v') v v1) u v1 := by
  obtain ⟨tk, h, len, co, ar, fi, la, st, ru, tx, xc, xa, xf, xs, xst, xr, xo, yr, yo, hlen, hyr, R, rfl, rfl⟩ := I
  have hrel : i_Rel (k + 3) (nI len, nI (pg_g co tk), nI tk, nI h, tx, xc, xa, xf, xs, xst, xr, xo) (nI tk, nI h, nI len, (fun t => nI (co t)), (fun t => nI (ar t)), (fun t => nI (fi t)), (fun t => nI (la t)), (fun t => nI (st t)), yr, tx, yo) := pg_mk hlen hyr R
  have V := pg_YV_of R hlen hyr
  have r1 := R.1
  have r8 := R.2.2.2.2.2.2.2
  by_cases hx : v1 < 0 ∨ nI 4 ≤ v1
  · unfold wpX_matches
    dsimp only
    refine pg_xir0 hx (br_t rfl ?_)
    unfold wpY_matches
    dsimp only
    exact pg_yb1 hx (br_f (by decide) ⟨rfl, hrel⟩)
  obtain ⟨r, hr, rfl⟩ : ∃ r, r < 4 ∧ v1 = nI r := by
    rcases pk_ix v1 (n := 4) (by omega) with a | a | a
    · exact absurd (Or.inl a) hx
    · exact absurd (Or.inr a) hx
    · exact a
  have cr : (nI r).toNatClampNeg = r := nI_clamp (by omega)
  unfold wpX_matches
  dsimp only
  refine pg_xir1 hr (br_f (by decide) ?_)
  refine pg_xfill R hlen (fun T o1 I1 F1 R1 => ?_)
  refine pg_xm R hlen R1 I1.1 hr ?_
  unfold wpY_matches
  dsimp only
  refine pg_yb0 hr (br_t rfl ?_)
  refine pg_ywk V (fun T' o2 I2 F2 R2 => ?_)
  have e : T' = T := funext fun t => funext fun q => pg_uniq I2 F2 I1 F1 t q
  subst e
  refine pg_ym V R2 I2.1 hr ?_
  exact ⟨rfl, pg_mk hlen hyr R⟩
theorem i_vc_find {k : Nat} {u : SX} {v : SY} (I : i_Rel k u v) (hk : k + 3 ≤ 1536) (v1 : Int32) (v2 : Int32) : wpX_find (fun r u' => wpY_find (fun r' v' => r' = r ∧ i_Rel (k + 3) u' v') v v1 v2) u v1 v2 := by
  obtain ⟨tk, h, len, co, ar, fi, la, st, ru, tx, xc, xa, xf, xs, xst, xr, xo, yr, yo, hlen, hyr, R, rfl, rfl⟩ := I
  have hrel : i_Rel (k + 3) (nI len, nI (pg_g co tk), nI tk, nI h, tx, xc, xa, xf, xs, xst, xr, xo) (nI tk, nI h, nI len, (fun t => nI (co t)), (fun t => nI (ar t)), (fun t => nI (fi t)), (fun t => nI (la t)), (fun t => nI (st t)), yr, tx, yo) := pg_mk hlen hyr R
  have V := pg_YV_of R hlen hyr
  have r1 := R.1
  have r8 := R.2.2.2.2.2.2.2
  by_cases hx : v1 < 0 ∨ nI 4 ≤ v1
  · unfold wpX_find
    dsimp only
    refine pg_xir0 hx (br_t rfl ?_)
    unfold wpY_find
    dsimp only
    exact pg_yb1 hx (br_f (by decide) ⟨rfl, hrel⟩)
  obtain ⟨r, hr, rfl⟩ : ∃ r, r < 4 ∧ v1 = nI r := by
    rcases pk_ix v1 (n := 4) (by omega) with a | a | a
    · exact absurd (Or.inl a) hx
    · exact absurd (Or.inr a) hx
    · exact a
  have cr : (nI r).toNatClampNeg = r := nI_clamp (by omega)
  unfold wpX_find
  dsimp only
  refine pg_xir1 hr (br_f (by decide) ?_)
  refine pg_xfill R hlen (fun T o1 I1 F1 R1 => ?_)
  refine pg_xf R hlen R1 I1.1 hr v2 ?_
  unfold wpY_find
  dsimp only
  refine pg_yb0 hr (br_t rfl ?_)
  refine pg_ywk V (fun T' o2 I2 F2 R2 => ?_)
  have e : T' = T := funext fun t => funext fun q => pg_uniq I2 F2 I1 F1 t q
  subst e
  refine pg_yfi V R2 I2.1 hr v2 ?_
  exact ⟨rfl, pg_mk hlen hyr R⟩
theorem i_vc_whole {k : Nat} {u : SX} {v : SY} (I : i_Rel k u v) (hk : k + 3 ≤ 1536) (v1 : Int32) : wpX_whole (fun r u' => wpY_whole (fun r' v' => r' = r ∧ i_Rel (k + 3) u' v') v v1) u v1 := by
  obtain ⟨tk, h, len, co, ar, fi, la, st, ru, tx, xc, xa, xf, xs, xst, xr, xo, yr, yo, hlen, hyr, R, rfl, rfl⟩ := I
  have hrel : i_Rel (k + 3) (nI len, nI (pg_g co tk), nI tk, nI h, tx, xc, xa, xf, xs, xst, xr, xo) (nI tk, nI h, nI len, (fun t => nI (co t)), (fun t => nI (ar t)), (fun t => nI (fi t)), (fun t => nI (la t)), (fun t => nI (st t)), yr, tx, yo) := pg_mk hlen hyr R
  have V := pg_YV_of R hlen hyr
  have r1 := R.1
  have r8 := R.2.2.2.2.2.2.2
  by_cases hx : v1 < 0 ∨ nI 4 ≤ v1
  · unfold wpX_whole
    dsimp only
    refine pg_xir0 hx (br_t rfl ?_)
    unfold wpY_whole
    dsimp only
    exact pg_yb1 hx (br_f (by decide) ⟨rfl, hrel⟩)
  obtain ⟨r, hr, rfl⟩ : ∃ r, r < 4 ∧ v1 = nI r := by
    rcases pk_ix v1 (n := 4) (by omega) with a | a | a
    · exact absurd (Or.inl a) hx
    · exact absurd (Or.inr a) hx
    · exact a
  have cr : (nI r).toNatClampNeg = r := nI_clamp (by omega)
  unfold wpX_whole
  dsimp only
  refine pg_xir1 hr (br_f (by decide) ?_)
  refine pg_xfill R hlen (fun T o1 I1 F1 R1 => ?_)
  dsimp only
  rw [cr]
  refine ⟨vp_in_nI hr (by decide), pg_xan (p := 0) r1 R1 (r8 r hr) (by omega) ?_⟩
  by_cases z : pg_ov (pg_an ru T r 0) = nI len
  · refine br_t z ?_
    unfold wpY_whole
    dsimp only
    refine pg_yb0 hr (br_t rfl ?_)
    refine pg_ywk V (fun T' o2 I2 F2 R2 => ?_)
    have e : T' = T := funext fun t => funext fun q => pg_uniq I2 F2 I1 F1 t q
    subst e
    refine pg_yc (p := 0) V R2 hr (by omega) ?_
    exact br_t z ⟨rfl, pg_mk hlen hyr R⟩
  · refine br_f z ?_
    unfold wpY_whole
    dsimp only
    refine pg_yb0 hr (br_t rfl ?_)
    refine pg_ywk V (fun T' o2 I2 F2 R2 => ?_)
    have e : T' = T := funext fun t => funext fun q => pg_uniq I2 F2 I1 F1 t q
    subst e
    refine pg_yc (p := 0) V R2 hr (by omega) ?_
    exact br_f z ⟨rfl, pg_mk hlen hyr R⟩
theorem i_vc_stuck {k : Nat} {u : SX} {v : SY} (I : i_Rel k u v) (hk : k + 3 ≤ 1536) (v1 : Int32) : wpX_stuck (fun r u' => wpY_stuck (fun r' v' => r' = r ∧ i_Rel (k + 3) u' v') v v1) u v1 := by
  obtain ⟨tk, h, len, co, ar, fi, la, st, ru, tx, xc, xa, xf, xs, xst, xr, xo, yr, yo, hlen, hyr, R, rfl, rfl⟩ := I
  have hrel : i_Rel (k + 3) (nI len, nI (pg_g co tk), nI tk, nI h, tx, xc, xa, xf, xs, xst, xr, xo) (nI tk, nI h, nI len, (fun t => nI (co t)), (fun t => nI (ar t)), (fun t => nI (fi t)), (fun t => nI (la t)), (fun t => nI (st t)), yr, tx, yo) := pg_mk hlen hyr R
  have V := pg_YV_of R hlen hyr
  have r1 := R.1
  have r8 := R.2.2.2.2.2.2.2
  by_cases hx : v1 < 0 ∨ nI 4 ≤ v1
  · unfold wpX_stuck
    dsimp only
    refine pg_xir0 hx (br_t rfl ?_)
    unfold wpY_stuck
    dsimp only
    exact pg_yb1 hx (br_f (by decide) ⟨rfl, hrel⟩)
  obtain ⟨r, hr, rfl⟩ : ∃ r, r < 4 ∧ v1 = nI r := by
    rcases pk_ix v1 (n := 4) (by omega) with a | a | a
    · exact absurd (Or.inl a) hx
    · exact absurd (Or.inr a) hx
    · exact a
  have cr : (nI r).toNatClampNeg = r := nI_clamp (by omega)
  unfold wpX_stuck
  dsimp only
  refine pg_xir1 hr (br_f (by decide) ?_)
  refine pg_xfill R hlen (fun T o1 I1 F1 R1 => ?_)
  refine pg_xs R hlen R1 I1.1 hr ?_
  unfold wpY_stuck
  dsimp only
  refine pg_yb0 hr (br_t rfl ?_)
  refine pg_ywk V (fun T' o2 I2 F2 R2 => ?_)
  have e : T' = T := funext fun t => funext fun q => pg_uniq I2 F2 I1 F1 t q
  subst e
  refine pg_ys V R2 I2.1 hr ?_
  exact ⟨rfl, pg_mk hlen hyr R⟩
end
