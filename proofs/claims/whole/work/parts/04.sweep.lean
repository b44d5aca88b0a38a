/-! sweeps over the table, both sides' -/
section
variable {co fi la ca : Nat → Nat} {li : Nat → Nat → Nat} {len tk : Nat}
/-- in the midst of a sweep that began with T0; the cells of D are done; x says whether something was learned -/
def pg_SW (co fi la ca : Nat → Nat) (li : Nat → Nat → Nat) (len tk : Nat) (T0 T : Nat → Nat → Nat) (D : Nat → Nat → Prop) (x : Int32) : Prop :=
  pg_Inv co fi la ca li len tk T ∧ pg_le T0 T ∧
  ((x = 0 ∧ T = T0 ∧ ∀ t p, t < tk → p ≤ len → D t p → T t p = 0 → pg_F co fi la ca li len T t p = 0) ∨ (x = 1 ∧ ∃ t p, T0 t p = 0 ∧ T t p ≠ 0))
theorem pg_sw0 {T : Nat → Nat → Nat} (I : pg_Inv co fi la ca li len tk T) {D : Nat → Nat → Prop} (hD : ∀ t p, ¬ D t p) : pg_SW co fi la ca li len tk T T D 0 :=
  ⟨I, fun _ _ => Or.inr rfl, Or.inl ⟨rfl, rfl, fun t p _ _ d => absurd d (hD t p)⟩⟩
theorem pg_sw_skip {T0 T : Nat → Nat → Nat} {D D' : Nat → Nat → Prop} {x : Int32} (S : pg_SW co fi la ca li len tk T0 T D x)
    (h : ∀ t p, t < tk → p ≤ len → D' t p → D t p ∨ T t p ≠ 0 ∨ pg_F co fi la ca li len T t p = 0) : pg_SW co fi la ca li len tk T0 T D' x := by
  obtain ⟨I, l, c⟩ := S
  refine ⟨I, l, ?_⟩
  rcases c with ⟨c1, c2, c3⟩ | c
  · refine Or.inl ⟨c1, c2, fun t p ht hp d z => ?_⟩
    rcases h t p ht hp d with a | a | a
    · exact c3 t p ht hp a z
    · exact absurd z a
    · exact a
  · exact Or.inr c
theorem pg_le_trans {A B C : Nat → Nat → Nat} (h : pg_le A B) (k : pg_le B C) : pg_le A C := by
  intro t p
  rcases h t p with a | a
  · exact Or.inl a
  · rcases k t p with b | b
    · exact Or.inl (a.trans b)
    · exact Or.inr (a.trans b)
theorem pg_sw_put {T0 T : Nat → Nat → Nat} {D D' : Nat → Nat → Prop} {x : Int32} (hl : ∀ t p, li t p = 1 ∨ (li t p = 3 ∧ p < len)) (S : pg_SW co fi la ca li len tk T0 T D x)
    {t p : Nat} (ht : t < tk) (hp : p ≤ len) (hz : T t p = 0) (hn : pg_F co fi la ca li len T t p ≠ 0) :
    pg_SW co fi la ca li len tk T0 (pg_set T t p (pg_F co fi la ca li len T t p)) D' 1 := by
  obtain ⟨I, l, c⟩ := S
  refine ⟨pg_step hl I ht hp hz, pg_le_trans l (pg_set_le hz), Or.inr ⟨rfl, t, p, ?_, ?_⟩⟩
  · rcases l t p with a | a
    · exact a
    · rw [a]; exact hz
  · rw [pg_set_s]; exact hn
theorem pg_sw_fix {T0 T : Nat → Nat → Nat} {D : Nat → Nat → Prop} (S : pg_SW co fi la ca li len tk T0 T D 0) (hD : ∀ t p, t < tk → p ≤ len → D t p) : pg_Fix co fi la ca li len tk T := by
  obtain ⟨I, l, c⟩ := S
  rcases c with ⟨c1, c2, c3⟩ | ⟨c1, _⟩
  · exact pg_fix_of I (fun t p ht hp z => c3 t p ht hp (hD t p ht hp) z)
  · exact absurd c1 (by decide)
/-- known cells of the whole table -/
def pg_kn (T : Nat → Nat → Nat) : Nat := pg_cn (fun i => T (i / 21) (i % 21)) 840
theorem pg_kn_le (T : Nat → Nat → Nat) : pg_kn T ≤ 840 := pg_cn_le _ _
theorem pg_ne_up {T C : Nat → Nat → Nat} (h : pg_le T C) {t p : Nat} (z : T t p ≠ 0) : C t p ≠ 0 := by
  rcases h t p with a | a
  · exact absurd a z
  · rw [← a]; exact z
theorem pg_sw_kn {T0 T : Nat → Nat → Nat} {D : Nat → Nat → Prop} (htk : tk ≤ 40) (hlen : len ≤ 20) (S : pg_SW co fi la ca li len tk T0 T D 1) : pg_kn T0 < pg_kn T := by
  obtain ⟨I, l, c⟩ := S
  rcases c with ⟨c1, _⟩ | ⟨_, t, p, z0, z1⟩
  · exact absurd c1 (by decide)
  · have hb := I.1 t p
    have ht : t < tk ∧ p ≤ len := by
      rcases hb with a | a
      · exact absurd a z1
      · exact ⟨a.1, a.2.1⟩
    have e1 : (21 * t + p) / 21 = t := by omega
    have e2 : (21 * t + p) % 21 = p := by omega
    show pg_cn (fun i => T0 (i / 21) (i % 21)) 840 < pg_cn (fun i => T (i / 21) (i % 21)) 840
    refine pg_cn_strict 840 (fun i _ z => pg_ne_up l z) (21 * t + p) (by omega) ?_ ?_
    · show T0 ((21 * t + p) / 21) ((21 * t + p) % 21) = 0
      rw [e1, e2]; exact z0
    · show T ((21 * t + p) / 21) ((21 * t + p) % 21) ≠ 0
      rw [e1, e2]; exact z1
/-- fixed at a place -/
def pg_FA (co fi la ca : Nat → Nat) (li : Nat → Nat → Nat) (len tk : Nat) (T : Nat → Nat → Nat) (p : Nat) : Prop := ∀ t, t < tk → T t p = pg_F co fi la ca li len T t p
theorem pg_FA_keep {T T' : Nat → Nat → Nat} {p : Nat} (h : pg_FA co fi la ca li len tk T p) (e : ∀ t q, p ≤ q → T t q = T' t q) : pg_FA co fi la ca li len tk T' p := by
  intro t ht
  rw [← e t p (Nat.le_refl p), ← pg_F_loc e t]
  exact h t ht
theorem pg_FA_fix {T : Nat → Nat → Nat} (h : ∀ p, p ≤ len → pg_FA co fi la ca li len tk T p) : pg_Fix co fi la ca li len tk T := fun t p ht hp => h p hp t ht
theorem pg_sw_FA {T0 T : Nat → Nat → Nat} {D : Nat → Nat → Prop} {p : Nat} (S : pg_SW co fi la ca li len tk T0 T D 0) (hp : p ≤ len) (hD : ∀ t, t < tk → T t p = 0 → D t p ∨ co t = 10) : pg_FA co fi la ca li len tk T p := by
  obtain ⟨I, l, c⟩ := S
  intro t ht
  rcases I.2.1 t p with a | a
  · rcases c with ⟨c1, c2, c3⟩ | ⟨c1, _⟩
    · rcases hD t ht a with d | d
      · rw [a, c3 t p ht hp d a]
      · rw [a, pg_F_10 d]
    · exact absurd c1 (by decide)
  · exact a
/-- known cells of a place -/
def pg_kp (tk : Nat) (T : Nat → Nat → Nat) (p : Nat) : Nat := pg_cn (fun t => T t p) tk
theorem pg_sw_kp {T0 T : Nat → Nat → Nat} {D : Nat → Nat → Prop} {p : Nat} (S : pg_SW co fi la ca li len tk T0 T D 1) (e : ∀ t q, q ≠ p → T t q = T0 t q) : pg_kp tk T0 p < pg_kp tk T p := by
  obtain ⟨I, l, c⟩ := S
  rcases c with ⟨c1, _⟩ | ⟨_, t, q, z0, z1⟩
  · exact absurd c1 (by decide)
  · have hq : q = p := by
      by_cases h : q = p
      · exact h
      · exact absurd ((e t q h).trans z0) z1
    rw [hq] at z0 z1
    have ht : t < tk := by
      rcases I.1 t p with a | a
      · exact absurd a z1
      · exact a.1
    show pg_cn (fun t => T0 t p) tk < pg_cn (fun t => T t p) tk
    exact pg_cn_strict tk (fun i _ z => pg_ne_up l z) t ht z0 z1
/-- as many known as there are expressions: all are -/
theorem pg_kp_all {T : Nat → Nat → Nat} {p : Nat} (I : pg_Inv co fi la ca li len tk T) (h : pg_g co tk ≤ pg_kp tk T p) : pg_FA co fi la ca li len tk T p := by
  intro t ht
  rcases I.2.1 t p with a | a
  · by_cases d : co t = 10
    · rw [a, pg_F_10 d]
    · have h1 : ∀ s, s < tk → T s p ≠ 0 → pg_nd co s ≠ 0 := fun s _ z => pg_nd_1 (fun d => z (pg_def0 I d p))
      have h2 : pg_kp tk T p < pg_g co tk := pg_cn_strict tk h1 t ht a (pg_nd_1 d)
      omega
  · exact a
end
