/-! both tables are the least fixed point of pg_F -/
section
variable {co fi la ca : Nat → Nat} {li : Nat → Nat → Nat} {len tk : Nat}
def pg_Fix (co fi la ca : Nat → Nat) (li : Nat → Nat → Nat) (len tk : Nat) (T : Nat → Nat → Nat) : Prop := ∀ t p, t < tk → p ≤ len → T t p = pg_F co fi la ca li len T t p
def pg_Inv (co fi la ca : Nat → Nat) (li : Nat → Nat → Nat) (len tk : Nat) (T : Nat → Nat → Nat) : Prop :=
  pg_B tk len T ∧ (∀ t p, T t p = 0 ∨ T t p = pg_F co fi la ca li len T t p) ∧ (∀ C, pg_Fix co fi la ca li len tk C → pg_le T C)
def pg_set (T : Nat → Nat → Nat) (t p v : Nat) : Nat → Nat → Nat := fun t' p' => if t' = t ∧ p' = p then v else T t' p'
theorem pg_set_s {T : Nat → Nat → Nat} {t p v : Nat} : pg_set T t p v t p = v := if_pos ⟨rfl, rfl⟩
theorem pg_set_n {T : Nat → Nat → Nat} {t p v t' p' : Nat} (h : ¬ (t' = t ∧ p' = p)) : pg_set T t p v t' p' = T t' p' := if_neg h
theorem pg_set_le {T : Nat → Nat → Nat} {t p v : Nat} (h : T t p = 0) : pg_le T (pg_set T t p v) := by
  intro t' p'
  by_cases e : t' = t ∧ p' = p
  · obtain ⟨e1, e2⟩ := e
    rw [e1, e2]; exact Or.inl h
  · rw [pg_set_n e]; exact Or.inr rfl
theorem pg_Inv0 : pg_Inv co fi la ca li len tk (fun _ _ => 0) := ⟨fun _ _ => Or.inl rfl, fun _ _ => Or.inl rfl, fun _ _ _ _ => Or.inl rfl⟩
theorem pg_step {T : Nat → Nat → Nat} (hl : ∀ t p, li t p = 1 ∨ (li t p = 3 ∧ p < len)) (I : pg_Inv co fi la ca li len tk T) {t p : Nat} (ht : t < tk) (hp : p ≤ len) (hz : T t p = 0) : pg_Inv co fi la ca li len tk (pg_set T t p (pg_F co fi la ca li len T t p)) := by
  obtain ⟨hB, hS, hC⟩ := I
  have hle := pg_set_le (v := pg_F co fi la ca li len T t p) hz
  refine ⟨fun t' p' => ?_, fun t' p' => ?_, fun C hF t' p' => ?_⟩
  · by_cases e : t' = t ∧ p' = p
    · obtain ⟨rfl, rfl⟩ := e
      rw [pg_set_s]
      exact Or.inr ⟨ht, hp, pg_F_B hl hB _ hp⟩
    · rw [pg_set_n e]; exact hB t' p'
  · have hm := pg_F_mono (co := co) (fi := fi) (la := la) (ca := ca) (li := li) (len := len) hle t' p'
    by_cases e : t' = t ∧ p' = p
    · obtain ⟨rfl, rfl⟩ := e
      rw [pg_set_s]; exact hm
    · rw [pg_set_n e]
      rcases hS t' p' with a | a
      · exact Or.inl a
      · rw [← a] at hm; exact hm
  · by_cases e : t' = t ∧ p' = p
    · obtain ⟨rfl, rfl⟩ := e
      rw [pg_set_s, hF _ _ ht hp]
      exact pg_F_mono (hC C hF) _ _
    · rw [pg_set_n e]; exact hC C hF t' p'
theorem pg_uniq {T T' : Nat → Nat → Nat} (I : pg_Inv co fi la ca li len tk T) (F : pg_Fix co fi la ca li len tk T) (I' : pg_Inv co fi la ca li len tk T') (F' : pg_Fix co fi la ca li len tk T') (t p : Nat) : T t p = T' t p := by
  rcases I.2.2 T' F' t p with a | a
  · rcases I'.2.2 T F t p with b | b
    · rw [a, b]
    · exact b.symm
  · exact a
/-- a table of which nothing more follows is a fixed point -/
theorem pg_fix_of {T : Nat → Nat → Nat} (I : pg_Inv co fi la ca li len tk T) (h : ∀ t p, t < tk → p ≤ len → T t p = 0 → pg_F co fi la ca li len T t p = 0) : pg_Fix co fi la ca li len tk T := by
  intro t p ht hp
  rcases I.2.1 t p with a | a
  · rw [a, h t p ht hp a]
  · exact a
/-- a token that defines never has an outcome -/
theorem pg_def0 {T : Nat → Nat → Nat} (I : pg_Inv co fi la ca li len tk T) {t : Nat} (h : co t = 10) (p : Nat) : T t p = 0 := by
  rcases I.2.1 t p with a | a
  · exact a
  · rw [a, pg_F_10 h]
end
section
/-- the picture of an outcome in the tables of both sides -/
def pg_ov : Nat → Int32
  | 0 => -2
  | 1 => -1
  | n + 2 => nI n
theorem pg_ov_num {n : Nat} (h : 2 ≤ n) : pg_ov n = nI (n - 2) := by
  obtain ⟨m, rfl⟩ : ∃ m, n = m + 2 := ⟨n - 2, by omega⟩
  show nI m = nI (m + 2 - 2)
  rw [Nat.add_sub_cancel]
theorem pg_ov_st : ∀ n, n < 24 → (pg_ov n = -2 ↔ n = 0) := by decide +kernel
theorem pg_ov_fa : ∀ n, n < 24 → (pg_ov n = -1 ↔ n = 1) := by decide +kernel
theorem pg_ov_neg : ∀ n, n < 24 → (pg_ov n < 0 ↔ n < 2) := by decide +kernel
theorem pg_ov_ge : ∀ n, n < 24 → (0 ≤ pg_ov n ↔ 2 ≤ n) := by decide +kernel
theorem pg_ov_le0 : ∀ n, n < 24 → (pg_ov n ≤ 0 ↔ n ≤ 2) := by decide +kernel
theorem pg_ov_0 : ∀ n, n < 24 → (pg_ov n = 0 ↔ n = 2) := by decide +kernel
/-- the picture of a rule's expression -/
def pg_rv : Nat → Int32
  | 0 => -1
  | n + 1 => nI n
end
