/-! how the two sides' arrays hold a table; each side's sweeps apart from their print -/
section
/-- a letter's outcome; the expression of the rule that a token calls -/
def pg_li (tx : Nat → Int32) (ar : Nat → Nat) (len : Nat) (t p : Nat) : Nat := if p < len ∧ tx p = nI (ar t) then 3 else 1
theorem pg_li_ok (tx : Nat → Int32) (ar : Nat → Nat) (len : Nat) : ∀ t p, pg_li tx ar len t p = 1 ∨ (pg_li tx ar len t p = 3 ∧ p < len) := by
  intro t p
  unfold pg_li
  by_cases h : p < len ∧ tx p = nI (ar t)
  · rw [if_pos h]; exact Or.inr ⟨rfl, h.1⟩
  · rw [if_neg h]; exact Or.inl rfl
def pg_ca (ar ru : Nat → Nat) (t : Nat) : Nat := ru (ar t)
/-- what a rule has at a place -/
def pg_an (ru : Nat → Nat) (T : Nat → Nat → Nat) (r p : Nat) : Nat := if ru r = 0 then 1 else T (ru r - 1) p
def pg_RX (tk : Nat) (co : Nat → Nat) (T : Nat → Nat → Nat) (o : Nat → Int32) : Prop := ∀ t p, t < tk → co t ≠ 10 → p ≤ 20 → o (pg_g co t * 21 + p) = pg_ov (T t p)
def pg_RY (T : Nat → Nat → Nat) (o : Nat → Int32) : Prop := ∀ t p, t < 40 → p ≤ 20 → o (21 * t + p) = pg_ov (T t p)
theorem pg_RX_put {tk : Nat} {co : Nat → Nat} {T : Nat → Nat → Nat} {o : Nat → Int32} {t p : Nat} (h : pg_RX tk co T o) (hc : co t ≠ 10) (hp : p ≤ 20) (v : Nat) : pg_RX tk co (pg_set T t p v) (upd o (pg_g co t * 21 + p) (pg_ov v)) := by
  intro t' p' ht' hc' hp'
  by_cases e : t' = t ∧ p' = p
  · obtain ⟨e1, e2⟩ := e
    rw [e1, e2, pg_set_s]; exact if_pos rfl
  · rw [pg_set_n e]
    have hne : pg_g co t' * 21 + p' ≠ pg_g co t * 21 + p := by
      intro z
      have h1 : pg_g co t' = pg_g co t := by omega
      have h2 : p' = p := by omega
      exact e ⟨pg_g_inj hc' hc h1, h2⟩
    exact (if_neg hne).trans (h t' p' ht' hc' hp')
theorem pg_RY_put {T : Nat → Nat → Nat} {o : Nat → Int32} {t p : Nat} (h : pg_RY T o) (hp : p ≤ 20) (v : Nat) : pg_RY (pg_set T t p v) (upd o (21 * t + p) (pg_ov v)) := by
  intro t' p' ht' hp'
  by_cases e : t' = t ∧ p' = p
  · obtain ⟨e1, e2⟩ := e
    rw [e1, e2, pg_set_s]; exact if_pos rfl
  · rw [pg_set_n e]
    have hne : 21 * t' + p' ≠ 21 * t + p := by
      intro z
      exact e ⟨by omega, by omega⟩
    exact (if_neg hne).trans (h t' p' ht' hp')
theorem pg_set_id {T : Nat → Nat → Nat} {t p v : Nat} (h : T t p = v) : pg_set T t p v = T := by
  funext t' p'
  by_cases e : t' = t ∧ p' = p
  · obtain ⟨e1, e2⟩ := e
    rw [e1, e2, pg_set_s, h]
  · rw [pg_set_n e]
end
section
variable {co fi la ca : Nat → Nat} {li : Nat → Nat → Nat} {len : Nat} {T : Nat → Nat → Nat} {t : Nat}
theorem pg_F_0 (h : co t = 0) (p : Nat) : pg_F co fi la ca li len T t p = li t p := by unfold pg_F; simp [h]
theorem pg_F_1 (h : co t = 1) (p : Nat) : pg_F co fi la ca li len T t p = (if p < len then 3 else 1) := by unfold pg_F; simp [h]
theorem pg_F_2 (h : co t = 2) (p : Nat) : pg_F co fi la ca li len T t p = 2 := by unfold pg_F; simp [h]
theorem pg_F_3 (h : co t = 3) (p : Nat) : pg_F co fi la ca li len T t p = (if ca t = 0 then 1 else T (ca t - 1) p) := by unfold pg_F; simp [h]
theorem pg_F_4 (h : co t = 4) (p : Nat) : pg_F co fi la ca li len T t p = pg_th T (fi t) (la t) p := by unfold pg_F; simp [h]
theorem pg_F_5 (h : co t = 5) (p : Nat) : pg_F co fi la ca li len T t p = pg_el T (fi t) (la t) p := by unfold pg_F; simp [h]
theorem pg_F_s (h : 6 ≤ co t) {p : Nat} (z : T (la t) p = 0) : pg_F co fi la ca li len T t p = 0 := by
  unfold pg_F
  rw [if_neg (by omega), if_neg (by omega), if_neg (by omega), if_neg (by omega), if_neg (by omega), if_neg (by omega), if_pos z]
theorem pg_F_6a (h : co t = 6) {p : Nat} (z : T (la t) p ≠ 0) (y : T (la t) p ≤ 2) : pg_F co fi la ca li len T t p = 2 := by unfold pg_F; simp [h, z, y]
theorem pg_F_6b (h : co t = 6) {p : Nat} (y : ¬ T (la t) p ≤ 2) : pg_F co fi la ca li len T t p = pg_th T (la t) t p := by
  have z : T (la t) p ≠ 0 := by omega
  unfold pg_F; simp [h, z, y]
theorem pg_F_7 (h : co t = 7) {p : Nat} (z : T (la t) p ≠ 0) : pg_F co fi la ca li len T t p = (if T (la t) p < 2 then 2 else T (la t) p) := by unfold pg_F; simp [h, z]
theorem pg_F_8 (h : co t = 8) {p : Nat} (z : T (la t) p ≠ 0) : pg_F co fi la ca li len T t p = (if T (la t) p < 2 then 1 else 2) := by unfold pg_F; simp [h, z]
theorem pg_F_9 (h : co t = 9) {p : Nat} (z : T (la t) p ≠ 0) : pg_F co fi la ca li len T t p = (if T (la t) p < 2 then 2 else 1) := by unfold pg_F; simp [h, z]
theorem pg_ov_add {a b : Nat} (ha : 2 ≤ a) (hb : 2 ≤ b) : pg_ov a + pg_ov b = pg_ov (a + b - 2) := by
  rw [pg_ov_num ha, pg_ov_num hb, pg_ov_num (show 2 ≤ a + b - 2 by omega), nI_add]
  congr 1; omega
end
section
variable {co fi la ca : Nat → Nat} {li : Nat → Nat → Nat} {len tk : Nat}
theorem pg_SWx {T0 T : Nat → Nat → Nat} {D : Nat → Nat → Prop} {x : Int32} (S : pg_SW co fi la ca li len tk T0 T D x) : x = 0 ∨ x = 1 := by
  rcases S.2.2 with a | a
  · exact Or.inl a.1
  · exact Or.inr a.1
/-- the reference's sweep: W fuel, cell, changed, outcomes -/
theorem pg_Yin {J : Int32 → (Nat → Int32) → Prop} {W : Nat → Nat → Int32 → (Nat → Int32) → Prop} {T0 : Nat → Nat → Nat} (hlen : len ≤ 20)
    (hl : ∀ t p, li t p = 1 ∨ (li t p = 3 ∧ p < len))
    (hx : ∀ n x o, J x o → W (n + 1) (21 * tk) x o)
    (hs : ∀ n t p x o T, t < tk → p ≤ 20 → pg_Inv co fi la ca li len tk T → pg_RY T o →
      ((T t p ≠ 0 ∨ len < p ∨ pg_F co fi la ca li len T t p = 0) → W n (21 * t + p + 1) x o) →
      (T t p = 0 → p ≤ len → pg_F co fi la ca li len T t p ≠ 0 → W n (21 * t + p + 1) 1 (upd o (21 * t + p) (pg_ov (pg_F co fi la ca li len T t p)))) → W (n + 1) (21 * t + p) x o)
    (hJ : ∀ x T o, pg_SW co fi la ca li len tk T0 T (fun t p => 21 * t + p < 21 * tk) x → pg_RY T o → J x o) :
    ∀ n i x T o, i ≤ 21 * tk → 21 * tk < n + i → pg_SW co fi la ca li len tk T0 T (fun t p => 21 * t + p < i) x → pg_RY T o → W n i x o := by
  intro n
  induction n with
  | zero => intro i x T o h1 h2; omega
  | succ n ih =>
    intro i x T o h1 h2 S R
    by_cases e : i = 21 * tk
    · subst e
      exact hx n x o (hJ x T o S R)
    · obtain ⟨t, p, hp, ei⟩ : ∃ t p, p ≤ 20 ∧ i = 21 * t + p := ⟨i / 21, i % 21, by omega, by omega⟩
      subst ei
      have ht : t < tk := by omega
      refine hs n t p x o T ht hp S.1 R (fun c => ih _ _ T _ (by omega) (by omega) (pg_sw_skip S ?_) R) (fun z hpl hn => ih _ _ _ _ (by omega) (by omega) (pg_sw_put hl S ht hpl z hn) (pg_RY_put R hp _))
      intro t' p' ht' hp' d
      have d' : 21 * t' + p' < 21 * t + p + 1 := d
      by_cases q : 21 * t' + p' < 21 * t + p
      · exact Or.inl q
      · have e1 : t' = t := by omega
        have e2 : p' = p := by omega
        rw [e1, e2]
        rcases c with a | a | a
        · exact Or.inr (Or.inl a)
        · exact absurd hp' (by omega)
        · exact Or.inr (Or.inr a)
/-- the reference's sweeps until nothing changes: W fuel, changed, outcomes -/
theorem pg_Ywh {K : (Nat → Int32) → Prop} {W : Nat → Int32 → (Nat → Int32) → Prop} (htk : tk ≤ 40) (hlen : len ≤ 20)
    (h0 : ∀ n o, K o → W (n + 1) 0 o)
    (h1 : ∀ n o T, pg_Inv co fi la ca li len tk T → pg_RY T o → (∀ x T' o', pg_SW co fi la ca li len tk T T' (fun t p => 21 * t + p < 21 * tk) x → pg_RY T' o' → W n x o') → W (n + 1) 1 o)
    (hK : ∀ T o, pg_Inv co fi la ca li len tk T → pg_Fix co fi la ca li len tk T → pg_RY T o → K o) :
    ∀ n x T o, (x = 0 ∧ pg_Fix co fi la ca li len tk T ∧ 1 ≤ n) ∨ (x = 1 ∧ 842 ≤ n + pg_kn T) → pg_Inv co fi la ca li len tk T → pg_RY T o → W n x o := by
  intro n
  induction n with
  | zero =>
    intro x T o h
    rcases h with h | h
    · exact absurd h.2.2 (by omega)
    · have := pg_kn_le T
      exact absurd h.2 (by omega)
  | succ n ih =>
    intro x T o h I R
    rcases h with ⟨rfl, hF, _⟩ | ⟨rfl, hn⟩
    · exact h0 n o (hK T o I hF R)
    · refine h1 n o T I R (fun x T' o' S R' => ?_)
      rcases pg_SWx S with rfl | rfl
      · exact ih 0 T' o' (Or.inl ⟨rfl, pg_sw_fix S (fun t p ht hp => show 21 * t + p < 21 * tk by omega), by have := pg_kn_le T; omega⟩) S.1 R'
      · have hk := pg_sw_kn htk hlen S
        exact ih 1 T' o' (Or.inr ⟨rfl, by omega⟩) S.1 R'
/-- the component's sweep of a place: W fuel, expression, learned, outcomes -/
theorem pg_Xin {J : Int32 → (Nat → Int32) → Prop} {W : Nat → Nat → Int32 → (Nat → Int32) → Prop} {T0 : Nat → Nat → Nat} {p : Nat} (hp : p ≤ len) (hlen : len ≤ 20)
    (hl : ∀ t p, li t p = 1 ∨ (li t p = 3 ∧ p < len))
    (hx : ∀ n x o, (x = 0 ∨ x = 1) → J x o → W (n + 1) (pg_g co tk) x o)
    (hs : ∀ n t x o T, t < tk → co t ≠ 10 → pg_g co t < pg_g co tk → pg_Inv co fi la ca li len tk T → pg_RX tk co T o → (x = 0 ∨ x = 1) →
      (T t p ≠ 0 → W n (pg_g co t + 1) x o) →
      (T t p = 0 → pg_F co fi la ca li len T t p = 0 → W n (pg_g co t + 1) x (upd o (pg_g co t * 21 + p) (pg_ov (pg_F co fi la ca li len T t p)))) →
      (T t p = 0 → pg_F co fi la ca li len T t p ≠ 0 → W n (pg_g co t + 1) 1 (upd o (pg_g co t * 21 + p) (pg_ov (pg_F co fi la ca li len T t p)))) → W (n + 1) (pg_g co t) x o)
    (hJ : ∀ x T o, pg_SW co fi la ca li len tk T0 T (fun t q => q = p ∧ pg_g co t < pg_g co tk) x → pg_RX tk co T o → (∀ t q, q ≠ p → T t q = T0 t q) → J x o) :
    ∀ n e x T o, e ≤ pg_g co tk → pg_g co tk < n + e → pg_SW co fi la ca li len tk T0 T (fun t q => q = p ∧ pg_g co t < e) x → pg_RX tk co T o → (∀ t q, q ≠ p → T t q = T0 t q) → W n e x o := by
  intro n
  induction n with
  | zero => intro e x T o h1 h2; omega
  | succ n ih =>
    intro e x T o h1 h2 S R hq
    by_cases e1 : e = pg_g co tk
    · subst e1
      exact hx n x o (pg_SWx S) (hJ x T o S R hq)
    · obtain ⟨t, ht, hc, et⟩ := pg_g_ex (show e < pg_g co tk by omega)
      subst et
      have hskip : (T t p ≠ 0 ∨ pg_F co fi la ca li len T t p = 0) → pg_SW co fi la ca li len tk T0 T (fun s q => q = p ∧ pg_g co s < pg_g co t + 1) x := by
        intro c
        refine pg_sw_skip S ?_
        intro t' p' ht' hp' d
        obtain ⟨d1, d2⟩ := d
        by_cases q : pg_g co t' < pg_g co t
        · exact Or.inl ⟨d1, q⟩
        · by_cases c' : co t' = 10
          · exact Or.inr (Or.inr (pg_F_10 c' p'))
          · have e2 : t' = t := pg_g_inj c' hc (by omega)
            rw [d1, e2]
            rcases c with a | a
            · exact Or.inr (Or.inl a)
            · exact Or.inr (Or.inr a)
      refine hs n t x o T ht hc (by omega) S.1 R (pg_SWx S) (fun c => ih _ _ T _ (by omega) (by omega) (hskip (Or.inl c)) R hq) (fun z y => ?_) (fun z y => ?_)
      · refine ih _ _ T _ (by omega) (by omega) (hskip (Or.inr y)) ?_ hq
        have h3 := pg_RX_put R hc (show p ≤ 20 by omega) (pg_F co fi la ca li len T t p)
        rw [pg_set_id (z.trans y.symm)] at h3
        exact h3
      · refine ih _ _ _ _ (by omega) (by omega) (pg_sw_put hl S ht hp z y) (pg_RX_put R hc (by omega) _) ?_
        intro s q hqp
        rw [pg_set_n (fun c => hqp c.2)]
        exact hq s q hqp
/-- the component's sweeps of a place: W fuel, sweep, learned, outcomes -/
theorem pg_Xsw {K : (Nat → Int32) → Prop} {W : Nat → Nat → Int32 → (Nat → Int32) → Prop} {p : Nat} (hp : p ≤ len)
    (hx : ∀ n x o, K o → W (n + 1) (pg_g co tk) x o)
    (h0 : ∀ n s o, s < pg_g co tk → K o → W (n + 1) s 0 o)
    (hs : ∀ n s o T, s < pg_g co tk → pg_Inv co fi la ca li len tk T → pg_RX tk co T o → (∀ x T' o', pg_SW co fi la ca li len tk T T' (fun t q => q = p ∧ pg_g co t < pg_g co tk) x → pg_RX tk co T' o' → (∀ t q, q ≠ p → T' t q = T t q) → W n (s + 1) x o') → W (n + 1) s 1 o)
    (hK : ∀ T o, pg_Inv co fi la ca li len tk T → pg_RX tk co T o → (∀ q, p ≤ q → q ≤ len → pg_FA co fi la ca li len tk T q) → K o) :
    ∀ n s x T o, s ≤ pg_g co tk → pg_g co tk < n + s → pg_Inv co fi la ca li len tk T → pg_RX tk co T o → (∀ q, p < q → q ≤ len → pg_FA co fi la ca li len tk T q) → (x = 0 ∧ pg_FA co fi la ca li len tk T p) ∨ (x = 1 ∧ s ≤ pg_kp tk T p) → W n s x o := by
  intro n
  induction n with
  | zero => intro s x T o h1 h2; omega
  | succ n ih =>
    intro s x T o h1 h2 I R hq h
    have hK' : pg_FA co fi la ca li len tk T p → K o := by
      intro hF
      refine hK T o I R (fun q h3 h4 => ?_)
      by_cases e : q = p
      · rw [e]; exact hF
      · exact hq q (by omega) h4
    by_cases e1 : s = pg_g co tk
    · subst e1
      refine hx n x o (hK' ?_)
      rcases h with h | h
      · exact h.2
      · exact pg_kp_all I h.2
    · rcases h with ⟨rfl, hF⟩ | ⟨rfl, hk⟩
      · exact h0 n s o (by omega) (hK' hF)
      · refine hs n s o T (by omega) I R (fun x T' o' S R' hq' => ?_)
        have hfa : ∀ q, p < q → q ≤ len → pg_FA co fi la ca li len tk T' q := fun q h3 h4 => pg_FA_keep (hq q h3 h4) (fun t q' h5 => (hq' t q' (by omega)).symm)
        rcases pg_SWx S with rfl | rfl
        · refine ih _ 0 T' o' (by omega) (by omega) S.1 R' hfa (Or.inl ⟨rfl, pg_sw_FA S hp (fun t ht _ => ?_)⟩)
          by_cases c : co t = 10
          · exact Or.inr c
          · exact Or.inl ⟨rfl, pg_g_lt ht c⟩
        · have h6 := pg_sw_kp S hq'
          exact ih _ 1 T' o' (by omega) (by omega) S.1 R' hfa (Or.inr ⟨rfl, by omega⟩)
/-- the component's places, from the last down: W fuel, place + 1, outcomes -/
theorem pg_Xout {K : (Nat → Int32) → Prop} {W : Nat → Nat → (Nat → Int32) → Prop}
    (h0 : ∀ n o, K o → W (n + 1) 0 o)
    (hs : ∀ n p o T, p ≤ len → pg_Inv co fi la ca li len tk T → pg_RX tk co T o → (∀ q, p < q → q ≤ len → pg_FA co fi la ca li len tk T q) → (∀ T' o', pg_Inv co fi la ca li len tk T' → pg_RX tk co T' o' → (∀ q, p ≤ q → q ≤ len → pg_FA co fi la ca li len tk T' q) → W n p o') → W (n + 1) (p + 1) o)
    (hK : ∀ T o, pg_Inv co fi la ca li len tk T → pg_Fix co fi la ca li len tk T → pg_RX tk co T o → K o) :
    ∀ i n T o, i ≤ len + 1 → i < n → pg_Inv co fi la ca li len tk T → pg_RX tk co T o → (∀ q, i ≤ q → q ≤ len → pg_FA co fi la ca li len tk T q) → W n i o := by
  intro i
  induction i with
  | zero =>
    intro n T o h1 h2 I R h
    obtain ⟨m, rfl⟩ : ∃ m, n = m + 1 := ⟨n - 1, by omega⟩
    exact h0 m o (hK T o I (pg_FA_fix (fun p hp => h p (Nat.zero_le p) hp)) R)
  | succ i ih =>
    intro n T o h1 h2 I R h
    obtain ⟨m, rfl⟩ : ∃ m, n = m + 1 := ⟨n - 1, by omega⟩
    exact hs m i o T (by omega) I R (fun q h3 h4 => h q h3 h4) (fun T' o' I' R' h' => ih m T' o' (by omega) (by omega) I' R' h')
end
section
/-- a count over the places: W fuel, place, count -/
theorem pg_cnt {K : Int32 → Prop} {W : Nat → Nat → Int32 → Prop} {q : Nat → Nat} {len : Nat}
    (hx : ∀ n c, K c → W (n + 1) (len + 1) c)
    (hs : ∀ n i c, i ≤ len → (q i = 0 → W n (i + 1) (nI c)) → (q i ≠ 0 → W n (i + 1) (nI (c + 1))) → W (n + 1) i (nI c))
    (hK : K (nI (pg_cn q (len + 1)))) : ∀ n i, i ≤ len + 1 → len + 1 < n + i → W n i (nI (pg_cn q i)) := by
  intro n
  induction n with
  | zero => intro i h1 h2; omega
  | succ n ih =>
    intro i h1 h2
    by_cases e : i = len + 1
    · subst e; exact hx n _ hK
    · have h3 := ih (i + 1) (by omega) (by omega)
      refine hs n i _ (by omega) (fun z => ?_) (fun z => ?_)
      · rw [pg_cn_s0 z] at h3; exact h3
      · rw [pg_cn_s1 z] at h3; exact h3
def pg_fd (f : Nat → Nat) (fr : Int32) : Nat → Nat → Int32
  | 0, _ => -1
  | d + 1, p => if fr ≤ nI p ∧ 2 ≤ f p then nI p else pg_fd f fr d (p + 1)
/-- the first place: W fuel, place -/
theorem pg_fnd {K : Int32 → Prop} {W : Nat → Nat → Prop} {f : Nat → Nat} {fr : Int32} {len : Nat}
    (hx : ∀ n, K (-1) → W (n + 1) (len + 1))
    (hs : ∀ n i, i ≤ len → (fr ≤ nI i → 2 ≤ f i → K (nI i)) → (¬ (fr ≤ nI i ∧ 2 ≤ f i) → W n (i + 1)) → W (n + 1) i) :
    ∀ d i n, i + d = len + 1 → d < n → K (pg_fd f fr d i) → W n i := by
  intro d
  induction d with
  | zero =>
    intro i n h1 h2 h
    obtain ⟨m, rfl⟩ : ∃ m, n = m + 1 := ⟨n - 1, by omega⟩
    have e : i = len + 1 := by omega
    subst e
    exact hx m h
  | succ d ih =>
    intro i n h1 h2 h
    obtain ⟨m, rfl⟩ : ∃ m, n = m + 1 := ⟨n - 1, by omega⟩
    have h' : K (if fr ≤ nI i ∧ 2 ≤ f i then nI i else pg_fd f fr d (i + 1)) := h
    refine hs m i (by omega) (fun a b => ?_) (fun a => ?_)
    · rw [if_pos ⟨a, b⟩] at h'; exact h'
    · rw [if_neg a] at h'
      exact ih (i + 1) m (by omega) (by omega) h'
/-- a place counted down: the component's 'place' is one less than i -/
def pg_dn : Nat → Int32
  | 0 => -1
  | n + 1 => nI n
theorem pg_dn_s (p : Nat) : nI p + (-1) = pg_dn p := by
  cases p with
  | zero => decide
  | succ p => 
    show nI (p + 1) + (-1) = nI p
    rw [← nI_1 p, Int32.add_assoc]
    have : (1 : Int32) + (-1) = 0 := by decide
    rw [this, Int32.add_zero]
end
