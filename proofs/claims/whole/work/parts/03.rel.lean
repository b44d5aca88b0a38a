/-! the numbering, the relation without the tuples, and how a token keeps it -/
section
def pg_upN (f : Nat → Nat) (k v : Nat) : Nat → Nat := fun j => if j = k then v else f j
theorem pg_upN_s {f : Nat → Nat} {k v : Nat} : pg_upN f k v k = v := if_pos rfl
theorem pg_upN_n {f : Nat → Nat} {k v j : Nat} (h : j ≠ k) : pg_upN f k v j = f j := if_neg h
/-- a store into a picture is the picture of the store -/
theorem pg_upI (f : Nat → Nat) (k v : Nat) : upd (fun t => nI (f t)) k (nI v) = fun t => nI (pg_upN f k v t) := by
  funext j
  show (if j = k then nI v else nI (f j)) = nI (if j = k then v else f j)
  by_cases e : j = k
  · rw [if_pos e, if_pos e]
  · rw [if_neg e, if_neg e]
def pg_nd (co : Nat → Nat) : Nat → Nat := fun t => if co t = 10 then 0 else 1
/-- the component's number of the reference's token -/
def pg_g (co : Nat → Nat) (t : Nat) : Nat := pg_cn (pg_nd co) t
theorem pg_nd_1 {co : Nat → Nat} {t : Nat} (h : co t ≠ 10) : pg_nd co t ≠ 0 := by
  show (if co t = 10 then 0 else 1) ≠ 0
  rw [if_neg h]; omega
theorem pg_nd_0 {co : Nat → Nat} {t : Nat} (h : co t = 10) : pg_nd co t = 0 := by
  show (if co t = 10 then 0 else 1) = 0
  rw [if_pos h]
theorem pg_nd_c {co : Nat → Nat} {t : Nat} (h : pg_nd co t ≠ 0) : co t ≠ 10 := fun e => h (pg_nd_0 e)
theorem pg_g_le (co : Nat → Nat) (t : Nat) : pg_g co t ≤ t := pg_cn_le _ t
theorem pg_g_lt {co : Nat → Nat} {a b : Nat} (h : a < b) (ha : co a ≠ 10) : pg_g co a < pg_g co b := pg_cn_lt h (pg_nd_1 ha)
theorem pg_g_inj {co : Nat → Nat} {a b : Nat} (ha : co a ≠ 10) (hb : co b ≠ 10) (h : pg_g co a = pg_g co b) : a = b := pg_cn_inj (pg_nd_1 ha) (pg_nd_1 hb) h
theorem pg_g_ex {co : Nat → Nat} {n e : Nat} (h : e < pg_g co n) : ∃ t, t < n ∧ co t ≠ 10 ∧ pg_g co t = e := by
  obtain ⟨t, h1, h2, h3⟩ := pg_cn_ex n e h
  exact ⟨t, h1, pg_nd_c h2, h3⟩
theorem pg_g_upN {co : Nat → Nat} {k v t : Nat} (h : t ≤ k) : pg_g (pg_upN co k v) t = pg_g co t := by
  refine pg_cn_congr t (fun s hs => ?_)
  show (if pg_upN co k v s = 10 then 0 else 1) = 0 ↔ (if co s = 10 then 0 else 1) = 0
  rw [pg_upN_n (show s ≠ k by omega)]
theorem pg_g_new {co : Nat → Nat} {k v : Nat} (h : v ≠ 10) : pg_g (pg_upN co k v) (k + 1) = pg_g co k + 1 := by
  have e : pg_g (pg_upN co k v) (k + 1) = pg_g (pg_upN co k v) k + 1 := pg_cn_s1 (pg_nd_1 (by rw [pg_upN_s]; exact h))
  rw [e, pg_g_upN (Nat.le_refl k)]
theorem pg_g_new0 {co : Nat → Nat} {k : Nat} : pg_g (pg_upN co k 10) (k + 1) = pg_g co k := by
  have e : pg_g (pg_upN co k 10) (k + 1) = pg_g (pg_upN co k 10) k := pg_cn_s0 (pg_nd_0 pg_upN_s)
  rw [e, pg_g_upN (Nat.le_refl k)]
end
section
/-- one expression -/
def pg_E (tk : Nat) (co ar fi la : Nat → Nat) (xc xa xf xs : Nat → Int32) (t : Nat) : Prop :=
  xc (pg_g co t) = nI (co t) ∧ xa (pg_g co t) = nI (ar t) ∧
  (co t = 4 ∨ co t = 5 → fi t < tk ∧ co (fi t) ≠ 10 ∧ la t < tk ∧ co (la t) ≠ 10 ∧ xf (pg_g co t) = nI (pg_g co (fi t)) ∧ xs (pg_g co t) = nI (pg_g co (la t))) ∧
  (6 ≤ co t → la t < tk ∧ co (la t) ≠ 10 ∧ xf (pg_g co t) = nI (pg_g co (la t)))
/-- a place of the stack, or a rule's expression -/
def pg_P (tk : Nat) (co : Nat → Nat) (n : Nat) (x : Int32) : Prop := n < tk ∧ co n ≠ 10 ∧ x = nI (pg_g co n)
def pg_R (tk h : Nat) (co ar fi la st ru : Nat → Nat) (xc xa xf xs xst xr : Nat → Int32) : Prop :=
  tk ≤ 40 ∧ h ≤ tk ∧ (∀ t, la t < 40) ∧ (∀ t, ar t < 4) ∧ (∀ t, t < tk → co t ≤ 10) ∧
  (∀ t, t < tk → co t ≠ 10 → pg_E tk co ar fi la xc xa xf xs t) ∧
  (∀ i, i < h → pg_P tk co (st i) (xst i)) ∧
  (∀ r, r < 4 → (ru r = 0 ∧ xr r = -1) ∨ ∃ n, ru r = n + 1 ∧ pg_P tk co n (xr r))
theorem pg_P_up {tk : Nat} {co : Nat → Nat} {n v : Nat} {x : Int32} (h : pg_P tk co n x) : pg_P (tk + 1) (pg_upN co tk v) n x := by
  obtain ⟨h1, h2, h3⟩ := h
  refine ⟨by omega, ?_, ?_⟩
  · rw [pg_upN_n (by omega)]; exact h2
  · rw [pg_g_upN (by omega)]; exact h3
/-- a token that makes an expression; k parts are taken off -/
theorem pg_R_tok {tk h k c a F1 L1 : Nat} {co ar fi la fi' la' st ru : Nat → Nat} {xc xa xf xs xst xr : Nat → Int32} {XF XS : Int32}
    (R : pg_R tk h co ar fi la st ru xc xa xf xs xst xr) (htk : tk < 40) (hk : k ≤ h) (hc : c ≤ 9) (ha : a < 4)
    (hf : ∀ t, t ≠ tk → fi' t = fi t) (hl : ∀ t, t ≠ tk → la' t = la t) (hl40 : la' tk < 40) (hF : fi' tk = F1) (hL : la' tk = L1)
    (h2 : c = 4 ∨ c = 5 → pg_P tk co F1 XF ∧ pg_P tk co L1 XS) (h1 : 6 ≤ c → pg_P tk co L1 XF) :
    pg_R (tk + 1) (h - k + 1) (pg_upN co tk c) (pg_upN ar tk a) fi' la' (pg_upN st (h - k) tk) ru
      (upd xc (pg_g co tk) (nI c)) (upd xa (pg_g co tk) (nI a)) (upd xf (pg_g co tk) XF) (upd xs (pg_g co tk) XS) (upd xst (h - k) (nI (pg_g co tk))) xr := by
  obtain ⟨r1, r2, r3, r4, r5, r6, r7, r8⟩ := R
  have hc10 : c ≠ 10 := by omega
  refine ⟨by omega, by omega, fun t => ?_, fun t => ?_, fun t ht => ?_, fun t ht hn => ?_, fun i hi => ?_, fun r hr => ?_⟩
  · by_cases e : t = tk
    · subst e; exact hl40
    · rw [hl t e]; exact r3 t
  · by_cases e : t = tk
    · subst e; rw [pg_upN_s]; exact ha
    · rw [pg_upN_n e]; exact r4 t
  · by_cases e : t = tk
    · subst e; rw [pg_upN_s]; omega
    · rw [pg_upN_n e]; exact r5 t (by omega)
  · by_cases e : t = tk
    · subst e
      unfold pg_E
      rw [pg_g_upN (Nat.le_refl t), pg_upN_s, pg_upN_s, hF, hL]
      refine ⟨if_pos rfl, if_pos rfl, fun z => ?_, fun z => ?_⟩
      · obtain ⟨⟨a1, a2, a3⟩, ⟨b1, b2, b3⟩⟩ := h2 z
        refine ⟨by omega, ?_, by omega, ?_, ?_, ?_⟩
        · rw [pg_upN_n (by omega)]; exact a2
        · rw [pg_upN_n (by omega)]; exact b2
        · rw [pg_g_upN (by omega)]; exact (if_pos rfl).trans a3
        · rw [pg_g_upN (by omega)]; exact (if_pos rfl).trans b3
      · obtain ⟨b1, b2, b3⟩ := h1 z
        refine ⟨by omega, ?_, ?_⟩
        · rw [pg_upN_n (by omega)]; exact b2
        · rw [pg_g_upN (by omega)]; exact (if_pos rfl).trans b3
    · have ht' : t < tk := by omega
      rw [pg_upN_n e] at hn
      obtain ⟨e1, e2, e3, e4⟩ := r6 t ht' hn
      have hg : pg_g co t ≠ pg_g co tk := by have := pg_g_lt ht' hn; omega
      unfold pg_E
      rw [pg_g_upN (by omega : t ≤ tk), pg_upN_n e, pg_upN_n e, hf t e, hl t e]
      refine ⟨(if_neg hg).trans e1, (if_neg hg).trans e2, fun z => ?_, fun z => ?_⟩
      · obtain ⟨a1, a2, a3, a4, a5, a6⟩ := e3 z
        refine ⟨by omega, ?_, by omega, ?_, ?_, ?_⟩
        · rw [pg_upN_n (by omega)]; exact a2
        · rw [pg_upN_n (by omega)]; exact a4
        · rw [pg_g_upN (by omega)]; exact (if_neg hg).trans a5
        · rw [pg_g_upN (by omega)]; exact (if_neg hg).trans a6
      · obtain ⟨a1, a2, a3⟩ := e4 z
        refine ⟨by omega, ?_, ?_⟩
        · rw [pg_upN_n (by omega)]; exact a2
        · rw [pg_g_upN (by omega)]; exact (if_neg hg).trans a3
  · by_cases e : i = h - k
    · subst e
      rw [pg_upN_s]
      refine ⟨by omega, ?_, ?_⟩
      · rw [pg_upN_s]; exact hc10
      · rw [pg_g_upN (Nat.le_refl tk)]; exact if_pos rfl
    · rw [pg_upN_n e]
      have hx : upd xst (h - k) (nI (pg_g co tk)) i = xst i := if_neg e
      rw [hx]
      exact pg_P_up (r7 i (by omega))
  · rcases r8 r hr with a | ⟨n, n1, n2⟩
    · exact Or.inl a
    · exact Or.inr ⟨n, n1, pg_P_up n2⟩
/-- DEFINE takes one off -/
theorem pg_R_def {tk h q a L1 : Nat} {co ar fi la la' st ru : Nat → Nat} {xc xa xf xs xst xr : Nat → Int32}
    (R : pg_R tk h co ar fi la st ru xc xa xf xs xst xr) (htk : tk < 40) (hh : h = q + 1) (ha : a < 4)
    (hl : ∀ t, t ≠ tk → la' t = la t) (hL : la' tk = L1) (hq : L1 = st q) :
    pg_R (tk + 1) q (pg_upN co tk 10) (pg_upN ar tk a) fi la' st (pg_upN ru a (L1 + 1)) xc xa xf xs xst (upd xr a (xst q)) := by
  obtain ⟨r1, r2, r3, r4, r5, r6, r7, r8⟩ := R
  have hp := r7 q (by omega)
  rw [← hq] at hp
  refine ⟨by omega, by omega, fun t => ?_, fun t => ?_, fun t ht => ?_, fun t ht hn => ?_, fun i hi => ?_, fun r hr => ?_⟩
  · by_cases e : t = tk
    · subst e; rw [hL]; have := hp.1; omega
    · rw [hl t e]; exact r3 t
  · by_cases e : t = tk
    · subst e; rw [pg_upN_s]; exact ha
    · rw [pg_upN_n e]; exact r4 t
  · by_cases e : t = tk
    · subst e; rw [pg_upN_s]; omega
    · rw [pg_upN_n e]; exact r5 t (by omega)
  · by_cases e : t = tk
    · subst e; exact absurd pg_upN_s hn
    · have ht' : t < tk := by omega
      rw [pg_upN_n e] at hn
      obtain ⟨e1, e2, e3, e4⟩ := r6 t ht' hn
      unfold pg_E
      rw [pg_g_upN (by omega : t ≤ tk), pg_upN_n e, pg_upN_n e, hl t e]
      refine ⟨e1, e2, fun z => ?_, fun z => ?_⟩
      · obtain ⟨a1, a2, a3, a4, a5, a6⟩ := e3 z
        refine ⟨by omega, ?_, by omega, ?_, ?_, ?_⟩
        · rw [pg_upN_n (by omega)]; exact a2
        · rw [pg_upN_n (by omega)]; exact a4
        · rw [pg_g_upN (by omega)]; exact a5
        · rw [pg_g_upN (by omega)]; exact a6
      · obtain ⟨a1, a2, a3⟩ := e4 z
        refine ⟨by omega, ?_, ?_⟩
        · rw [pg_upN_n (by omega)]; exact a2
        · rw [pg_g_upN (by omega)]; exact a3
  · exact pg_P_up (r7 i (by omega))
  · by_cases e : r = a
    · subst e
      rw [pg_upN_s]
      have hx : upd xr r (xst q) r = xst q := if_pos rfl
      rw [hx]
      exact Or.inr ⟨L1, rfl, pg_P_up hp⟩
    · rw [pg_upN_n e]
      have hx : upd xr a (xst q) r = xr r := if_neg e
      rw [hx]
      rcases r8 r hr with b | ⟨n, n1, n2⟩
      · exact Or.inl b
      · exact Or.inr ⟨n, n1, pg_P_up n2⟩
end
