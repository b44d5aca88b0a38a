/-! the mathematics of the tables, apart from any printed predicate.
A table T t p (t: the reference's number of a token, p: a place) holds 0 for no outcome, 1 for fails, n + 2 for n letters. -/
section
/-- how many i below n have q i known -/
def pg_cn (q : Nat → Nat) : Nat → Nat
  | 0 => 0
  | n + 1 => pg_cn q n + (if q n = 0 then 0 else 1)
theorem pg_cn_s0 {q : Nat → Nat} {n : Nat} (h : q n = 0) : pg_cn q (n + 1) = pg_cn q n := by
  have e : pg_cn q (n + 1) = pg_cn q n + (if q n = 0 then 0 else 1) := rfl
  rw [e]; simp [h]
theorem pg_cn_s1 {q : Nat → Nat} {n : Nat} (h : q n ≠ 0) : pg_cn q (n + 1) = pg_cn q n + 1 := by
  have e : pg_cn q (n + 1) = pg_cn q n + (if q n = 0 then 0 else 1) := rfl
  rw [e]; simp [h]
theorem pg_cn_le (q : Nat → Nat) (n : Nat) : pg_cn q n ≤ n := by
  induction n with
  | zero => exact Nat.le_refl 0
  | succ n ih =>
    by_cases z : q n = 0
    · rw [pg_cn_s0 z]; omega
    · rw [pg_cn_s1 z]; omega
theorem pg_cn_mono {q q' : Nat → Nat} (n : Nat) (h : ∀ t, t < n → q t ≠ 0 → q' t ≠ 0) : pg_cn q n ≤ pg_cn q' n := by
  induction n with
  | zero => exact Nat.le_refl 0
  | succ n ih =>
    have h1 := ih (fun t ht => h t (by omega))
    by_cases z : q n = 0
    · rw [pg_cn_s0 z]
      by_cases z' : q' n = 0
      · rw [pg_cn_s0 z']; exact h1
      · rw [pg_cn_s1 z']; omega
    · rw [pg_cn_s1 z, pg_cn_s1 (h n (by omega) z)]; omega
theorem pg_cn_strict {q q' : Nat → Nat} (n : Nat) (h : ∀ t, t < n → q t ≠ 0 → q' t ≠ 0) (s : Nat) (hs : s < n) (h0 : q s = 0) (h1 : q' s ≠ 0) : pg_cn q n < pg_cn q' n := by
  induction n with
  | zero => omega
  | succ n ih =>
    by_cases e : s = n
    · subst e
      rw [pg_cn_s0 h0, pg_cn_s1 h1]
      have := pg_cn_mono s (fun t ht => h t (by omega))
      omega
    · have h2 := ih (fun t ht => h t (by omega)) (by omega)
      by_cases z : q n = 0
      · rw [pg_cn_s0 z]
        by_cases z' : q' n = 0
        · rw [pg_cn_s0 z']; exact h2
        · rw [pg_cn_s1 z']; omega
      · rw [pg_cn_s1 z, pg_cn_s1 (h n (by omega) z)]; omega
theorem pg_cn_congr {q q' : Nat → Nat} (n : Nat) (h : ∀ t, t < n → (q t = 0 ↔ q' t = 0)) : pg_cn q n = pg_cn q' n := by
  apply Nat.le_antisymm
  · exact pg_cn_mono n (fun t ht z z' => z ((h t ht).mpr z'))
  · exact pg_cn_mono n (fun t ht z z' => z ((h t ht).mp z'))
theorem pg_cn_up {q : Nat → Nat} {a : Nat} (b : Nat) (h : a ≤ b) : pg_cn q a ≤ pg_cn q b := by
  induction b with
  | zero => have : a = 0 := by omega
            subst this; exact Nat.le_refl _
  | succ b ih =>
    by_cases e : a = b + 1
    · subst e; exact Nat.le_refl _
    · have := ih (by omega)
      by_cases z : q b = 0
      · rw [pg_cn_s0 z]; exact this
      · rw [pg_cn_s1 z]; omega
/-- the known ones are numbered without a gap -/
theorem pg_cn_lt {q : Nat → Nat} {a b : Nat} (h : a < b) (ha : q a ≠ 0) : pg_cn q a < pg_cn q b := by
  have := pg_cn_up (q := q) b (show a + 1 ≤ b from h)
  rw [pg_cn_s1 ha] at this
  omega
theorem pg_cn_inj {q : Nat → Nat} {a b : Nat} (ha : q a ≠ 0) (hb : q b ≠ 0) (h : pg_cn q a = pg_cn q b) : a = b := by
  rcases Nat.lt_trichotomy a b with x | x | x
  · have := pg_cn_lt x ha; omega
  · exact x
  · have := pg_cn_lt x hb; omega
theorem pg_cn_ex {q : Nat → Nat} (n e : Nat) (h : e < pg_cn q n) : ∃ t, t < n ∧ q t ≠ 0 ∧ pg_cn q t = e := by
  induction n with
  | zero => exact absurd h (Nat.not_lt_zero e)
  | succ n ih =>
    by_cases z : q n = 0
    · rw [pg_cn_s0 z] at h
      obtain ⟨t, h1, h2, h3⟩ := ih h
      exact ⟨t, by omega, h2, h3⟩
    · rw [pg_cn_s1 z] at h
      by_cases e1 : e < pg_cn q n
      · obtain ⟨t, h1, h2, h3⟩ := ih e1
        exact ⟨t, by omega, h2, h3⟩
      · exact ⟨n, by omega, z, by omega⟩
end
section
def pg_le (T C : Nat → Nat → Nat) : Prop := ∀ t p, T t p = 0 ∨ T t p = C t p
def pg_j (a b : Nat) : Nat := if b < 2 then b else a + b - 2
/-- x, then y behind it -/
def pg_th (T : Nat → Nat → Nat) (x y p : Nat) : Nat := if T x p < 2 then T x p else pg_j (T x p) (T y (p + (T x p - 2)))
def pg_el (T : Nat → Nat → Nat) (x y p : Nat) : Nat := if T x p = 1 then T y p else T x p
def pg_F (co fi la ca : Nat → Nat) (li : Nat → Nat → Nat) (len : Nat) (T : Nat → Nat → Nat) (t p : Nat) : Nat :=
  if co t = 0 then li t p
  else if co t = 1 then (if p < len then 3 else 1)
  else if co t = 2 then 2
  else if co t = 3 then (if ca t = 0 then 1 else T (ca t - 1) p)
  else if co t = 4 then pg_th T (fi t) (la t) p
  else if co t = 5 then pg_el T (fi t) (la t) p
  else if T (la t) p = 0 then 0
  else if co t = 6 then (if T (la t) p ≤ 2 then 2 else pg_th T (la t) t p)
  else if co t = 7 then (if T (la t) p < 2 then 2 else T (la t) p)
  else if co t = 8 then (if T (la t) p < 2 then 1 else 2)
  else if co t = 9 then (if T (la t) p < 2 then 2 else 1)
  else 0
theorem pg_th_mono {T C : Nat → Nat → Nat} (h : pg_le T C) (x y p : Nat) : pg_th T x y p = 0 ∨ pg_th T x y p = pg_th C x y p := by
  unfold pg_th
  rcases h x p with ha | ha
  · rw [ha]; exact Or.inl rfl
  · rw [← ha]
    by_cases z : T x p < 2
    · rw [if_pos z, if_pos z]; exact Or.inr rfl
    · rw [if_neg z, if_neg z]
      rcases h y (p + (T x p - 2)) with hb | hb
      · rw [hb]; exact Or.inl rfl
      · rw [← hb]; exact Or.inr rfl
theorem pg_el_mono {T C : Nat → Nat → Nat} (h : pg_le T C) (x y p : Nat) : pg_el T x y p = 0 ∨ pg_el T x y p = pg_el C x y p := by
  unfold pg_el
  rcases h x p with ha | ha
  · rw [ha]; exact Or.inl rfl
  · rw [← ha]
    by_cases z : T x p = 1
    · rw [if_pos z, if_pos z]; exact h y p
    · rw [if_neg z, if_neg z]; exact Or.inr rfl
variable {co fi la ca : Nat → Nat} {li : Nat → Nat → Nat} {len : Nat}
theorem pg_F_mono {T C : Nat → Nat → Nat} (h : pg_le T C) (t p : Nat) : pg_F co fi la ca li len T t p = 0 ∨ pg_F co fi la ca li len T t p = pg_F co fi la ca li len C t p := by
  unfold pg_F
  by_cases c0 : co t = 0
  · rw [if_pos c0, if_pos c0]; exact Or.inr rfl
  rw [if_neg c0, if_neg c0]
  by_cases c1 : co t = 1
  · rw [if_pos c1, if_pos c1]; exact Or.inr rfl
  rw [if_neg c1, if_neg c1]
  by_cases c2 : co t = 2
  · rw [if_pos c2, if_pos c2]; exact Or.inr rfl
  rw [if_neg c2, if_neg c2]
  by_cases c3 : co t = 3
  · rw [if_pos c3, if_pos c3]
    by_cases z : ca t = 0
    · rw [if_pos z, if_pos z]; exact Or.inr rfl
    · rw [if_neg z, if_neg z]; exact h _ _
  rw [if_neg c3, if_neg c3]
  by_cases c4 : co t = 4
  · rw [if_pos c4, if_pos c4]; exact pg_th_mono h _ _ _
  rw [if_neg c4, if_neg c4]
  by_cases c5 : co t = 5
  · rw [if_pos c5, if_pos c5]; exact pg_el_mono h _ _ _
  rw [if_neg c5, if_neg c5]
  rcases h (la t) p with ha | ha
  · rw [if_pos ha]; exact Or.inl rfl
  rw [← ha]
  by_cases z : T (la t) p = 0
  · rw [if_pos z]; exact Or.inl rfl
  rw [if_neg z, if_neg z]
  by_cases c6 : co t = 6
  · rw [if_pos c6, if_pos c6]
    by_cases y : T (la t) p ≤ 2
    · rw [if_pos y, if_pos y]; exact Or.inr rfl
    · rw [if_neg y, if_neg y]; exact pg_th_mono h _ _ _
  rw [if_neg c6, if_neg c6]
  exact Or.inr rfl
/-- an outcome at a place follows from outcomes there and behind it -/
theorem pg_F_loc {T C : Nat → Nat → Nat} {p : Nat} (h : ∀ t q, p ≤ q → T t q = C t q) (t : Nat) : pg_F co fi la ca li len T t p = pg_F co fi la ca li len C t p := by
  have h0 : ∀ x, T x p = C x p := fun x => h x p (Nat.le_refl p)
  have h1 : ∀ x k, T x (p + k) = C x (p + k) := fun x k => h x (p + k) (Nat.le_add_right p k)
  unfold pg_F pg_th pg_el
  simp only [h0, h1]
/-- bounds: outcomes stay within the text -/
def pg_B (tk len : Nat) (T : Nat → Nat → Nat) : Prop := ∀ t p, T t p = 0 ∨ (t < tk ∧ p ≤ len ∧ T t p + p ≤ len + 2)
theorem pg_B_le {tk : Nat} {T : Nat → Nat → Nat} (h : pg_B tk len T) (t p : Nat) : T t p ≤ len + 2 := by
  rcases h t p with a | a <;> omega
theorem pg_B_p {tk : Nat} {T : Nat → Nat → Nat} (h : pg_B tk len T) {t p : Nat} (hp : p ≤ len) : T t p + p ≤ len + 2 := by
  rcases h t p with a | a <;> omega
theorem pg_th_B {tk : Nat} {T : Nat → Nat → Nat} (h : pg_B tk len T) (x y : Nat) {p : Nat} (hp : p ≤ len) : pg_th T x y p + p ≤ len + 2 := by
  have ha := pg_B_p h (t := x) hp
  unfold pg_th
  by_cases z : T x p < 2
  · rw [if_pos z]; exact ha
  · rw [if_neg z]
    have hb := pg_B_p h (t := y) (p := p + (T x p - 2)) (by omega)
    unfold pg_j
    by_cases y2 : T y (p + (T x p - 2)) < 2
    · rw [if_pos y2]; omega
    · rw [if_neg y2]; omega
theorem pg_F_B {tk : Nat} {T : Nat → Nat → Nat} (hl : ∀ t p, li t p = 1 ∨ (li t p = 3 ∧ p < len)) (h : pg_B tk len T) (t : Nat) {p : Nat} (hp : p ≤ len) : pg_F co fi la ca li len T t p + p ≤ len + 2 := by
  have h1 := pg_B_p h (t := la t) hp
  have h2 := pg_B_p h (t := fi t) hp
  have h3 := pg_B_p h (t := ca t - 1) hp
  have h4 := pg_th_B h (fi t) (la t) hp
  have h5 := pg_th_B h (la t) t hp
  have h6 := hl t p
  unfold pg_F
  by_cases c0 : co t = 0
  · rw [if_pos c0]; omega
  rw [if_neg c0]
  by_cases c1 : co t = 1
  · rw [if_pos c1]
    by_cases z : p < len
    · rw [if_pos z]; omega
    · rw [if_neg z]; omega
  rw [if_neg c1]
  by_cases c2 : co t = 2
  · rw [if_pos c2]; omega
  rw [if_neg c2]
  by_cases c3 : co t = 3
  · rw [if_pos c3]
    by_cases z : ca t = 0
    · rw [if_pos z]; omega
    · rw [if_neg z]; exact h3
  rw [if_neg c3]
  by_cases c4 : co t = 4
  · rw [if_pos c4]; exact h4
  rw [if_neg c4]
  by_cases c5 : co t = 5
  · rw [if_pos c5]; unfold pg_el
    by_cases z : T (fi t) p = 1
    · rw [if_pos z]; exact h1
    · rw [if_neg z]; exact h2
  rw [if_neg c5]
  by_cases z : T (la t) p = 0
  · rw [if_pos z]; omega
  rw [if_neg z]
  by_cases c6 : co t = 6
  · rw [if_pos c6]
    by_cases y : T (la t) p ≤ 2
    · rw [if_pos y]; omega
    · rw [if_neg y]; exact h5
  rw [if_neg c6]
  by_cases c7 : co t = 7
  · rw [if_pos c7]
    by_cases y : T (la t) p < 2
    · rw [if_pos y]; omega
    · rw [if_neg y]; exact h1
  rw [if_neg c7]
  by_cases c8 : co t = 8
  · rw [if_pos c8]
    by_cases y : T (la t) p < 2
    · rw [if_pos y]; omega
    · rw [if_neg y]; omega
  rw [if_neg c8]
  by_cases c9 : co t = 9
  · rw [if_pos c9]
    by_cases y : T (la t) p < 2
    · rw [if_pos y]; omega
    · rw [if_neg y]; omega
  rw [if_neg c9]; omega
theorem pg_F_10 {T : Nat → Nat → Nat} {t : Nat} (h : co t = 10) (p : Nat) : pg_F co fi la ca li len T t p = 0 := by
  unfold pg_F
  simp [h]
end
