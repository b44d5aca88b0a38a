/-! the component's reading methods over a table -/
section
theorem pg_ne1 {n : Nat} (h : n < 2 ^ 31) : ¬ nI n = -1 := by
  intro e
  have := nI_pos' h
  rw [e] at this
  exact absurd this (by decide)
variable {tk h len : Nat} {co ar fi la st ru : Nat → Nat} {tx xc xa xf xs xst xr o : Nat → Int32} {T : Nat → Nat → Nat}
theorem pg_xo1 {post : Int32 → Prop} (p : Int32) (k : post (-1)) : wpX_outcomeOf post (nI len, nI (pg_g co tk), nI tk, nI h, tx, xc, xa, xf, xs, xst, xr, o) (-1) p := br_t rfl k
theorem pg_xo {post : Int32 → Prop} {g p : Nat} (hg : g * 21 + p < 840) (k : post (o (g * 21 + p))) : wpX_outcomeOf post (nI len, nI (pg_g co tk), nI tk, nI h, tx, xc, xa, xf, xs, xst, xr, o) (nI g) (nI p) := by
  have e := pg_ix' g p
  have c : (nI (g * 21 + p)).toNatClampNeg = g * 21 + p := nI_clamp (by omega)
  refine br_f (pg_ne1 (by omega)) (nm_r e (br_f (nI_pos (by omega)) (br_f (nI_ge (b := 840) hg (by decide)) ⟨vp_in_nI hg (by decide), ?_⟩)))
  rw [← c] at k
  exact k
/-- a part's outcome -/
theorem pg_xoT {post : Int32 → Prop} (htk : tk ≤ 40) (R : pg_RX tk co T o) {n p : Nat} {x : Int32} (P : pg_P tk co n x) (hp : p ≤ 20) (k : post (pg_ov (T n p))) : wpX_outcomeOf post (nI len, nI (pg_g co tk), nI tk, nI h, tx, xc, xa, xf, xs, xst, xr, o) x (nI p) := by
  obtain ⟨p1, p2, p3⟩ := P
  rw [p3]
  have hg := pg_g_le co n
  refine pg_xo (by omega) ?_
  rw [R n p p1 p2 hp]
  exact k
/-- a rule's outcome -/
theorem pg_xan {post : Int32 → Prop} (htk : tk ≤ 40) (R : pg_RX tk co T o) {r p : Nat} (hr : (ru r = 0 ∧ xr r = -1) ∨ ∃ n, ru r = n + 1 ∧ pg_P tk co n (xr r)) (hp : p ≤ 20) (k : post (pg_ov (pg_an ru T r p))) : wpX_outcomeOf post (nI len, nI (pg_g co tk), nI tk, nI h, tx, xc, xa, xf, xs, xst, xr, o) (xr r) (nI p) := by
  unfold pg_an at k
  rcases hr with ⟨a, b⟩ | ⟨n, n1, n2⟩
  · rw [if_pos a] at k
    rw [b]
    exact pg_xo1 _ k
  · rw [if_neg (by omega), n1] at k
    exact pg_xoT htk R n2 hp k
theorem pg_xj {post : Int32 → Prop} {a b : Nat} (ha : 2 ≤ a) (hb : b < 24) (k : post (pg_ov (pg_j a b))) : wpX_joined post (pg_ov a) (pg_ov b) := by
  unfold pg_j at k
  by_cases z : b < 2
  · rw [if_pos z] at k
    exact br_t ((pg_ov_neg b hb).mpr z) k
  · rw [if_neg z] at k
    refine br_f (fun c => z ((pg_ov_neg b hb).mp c)) ?_
    rw [pg_ov_add ha (by omega)]
    exact k
theorem pg_xsim {post : Int32 → Prop} (Q : pg_R tk h co ar fi la st ru xc xa xf xs xst xr) (hlen : len ≤ 20) (R : pg_RX tk co T o) {t p : Nat} (ht : t < tk) (hc : co t ≤ 3) (hp : p ≤ len) (k : post (pg_ov (pg_F co fi la (pg_ca ar ru) (pg_li tx ar len) len T t p))) : wpX_outcomeOfSimple post (nI len, nI (pg_g co tk), nI tk, nI h, tx, xc, xa, xf, xs, xst, xr, o) (nI (pg_g co t)) (nI p) := by
  obtain ⟨r1, r2, r3, r4, r5, r6, r7, r8⟩ := Q
  obtain ⟨e1, e2, e3, e4⟩ := r6 t ht (by omega)
  have hg := pg_g_le co t
  have cg : (nI (pg_g co t)).toNatClampNeg = pg_g co t := nI_clamp (by omega)
  have cp : (nI p).toNatClampNeg = p := nI_clamp (by omega)
  have ig : vp_in (nI (pg_g co t)) 40 := vp_in_nI (by omega) (by omega)
  have ha := r4 t
  have ca : (nI (ar t)).toNatClampNeg = ar t := nI_clamp (by omega)
  unfold wpX_outcomeOfSimple
  dsimp only
  rw [cg, cp, e2, ca]
  have hcs : co t = 0 ∨ co t = 1 ∨ co t = 2 ∨ co t = 3 := by omega
  rcases hcs with c | c | c | c
  · refine ⟨ig, nm_r (e' := nI 0) (e1.trans (congrArg nI c)) (br_f (by decide) (br_f (by decide) (br_t (by decide) ?_)))⟩
    rw [pg_F_0 c] at k
    unfold pg_li at k
    by_cases z : p < len
    · refine br_f (nI_ge z (by omega)) ⟨vp_in_nI (by omega) (by omega), ig, ?_⟩
      by_cases w : tx p = nI (ar t)
      · rw [if_pos ⟨z, w⟩] at k
        exact br_t w k
      · rw [if_neg (fun c => w c.2)] at k
        exact br_f w k
    · rw [if_neg (fun c => z c.1)] at k
      exact br_t (nI_le (by omega) (by omega)) k
  · refine ⟨ig, nm_r (e' := nI 1) (e1.trans (congrArg nI c)) (br_f (by decide) (br_f (by decide) (br_f (by decide) (br_t (by decide) ?_))))⟩
    rw [pg_F_1 c] at k
    by_cases z : p < len
    · rw [if_pos z] at k
      exact br_f (nI_ge z (by omega)) k
    · rw [if_neg z] at k
      exact br_t (nI_le (by omega) (by omega)) k
  · refine ⟨ig, nm_r (e' := nI 2) (e1.trans (congrArg nI c)) (br_f (by decide) (br_f (by decide) (br_f (by decide) (br_f (by decide) (br_t (by decide) ?_)))))⟩
    rw [pg_F_2 c] at k
    exact k
  · refine ⟨ig, nm_r (e' := nI 3) (e1.trans (congrArg nI c)) (br_f (by decide) (br_t (by decide) ⟨ig, vp_in_nI ha (by omega), ?_⟩))⟩
    rw [pg_F_3 c] at k
    exact pg_xan r1 R (r8 _ ha) (by omega) k
theorem pg_x31 {post : Int32 → Prop} (Q : pg_R tk h co ar fi la st ru xc xa xf xs xst xr) (hlen : len ≤ 20) (R : pg_RX tk co T o) (hB : pg_B tk len T) {t p n1 : Nat} (ht : t < tk) (h10 : co t ≠ 10) (hp : p ≤ len)
    (hn : ((co t = 4 ∨ co t = 5) ∧ n1 = fi t) ∨ (6 ≤ co t ∧ n1 = la t)) (z : T n1 p ≠ 0) {z0 : Int32} (hz : (T n1 p = 1 ∧ z0 = 1) ∨ (2 ≤ T n1 p ∧ z0 = 0)) (k : post (pg_ov (pg_F co fi la (pg_ca ar ru) (pg_li tx ar len) len T t p))) :
    wX_outcomeOfCompound_31 post (nI (pg_g co t)) (nI p) (pg_ov (T n1 p)) z0 (nI len) (nI (pg_g co tk)) (nI tk) (nI h) tx xc xa xf xs xst xr o := by
  obtain ⟨r1, r2, r3, r4, r5, r6, r7, r8⟩ := Q
  obtain ⟨e1, e2, e3, e4⟩ := r6 t ht h10
  have hg := pg_g_le co t
  have hc := r5 t ht
  have cg : (nI (pg_g co t)).toNatClampNeg = pg_g co t := nI_clamp (by omega)
  have ig : vp_in (nI (pg_g co t)) 40 := vp_in_nI (by omega) (by omega)
  have b1 := pg_B_p hB (t := n1) hp
  have es : 2 ≤ T n1 p → nI p + pg_ov (T n1 p) = nI (p + (T n1 p - 2)) := fun y => by rw [pg_ov_num y, nI_add]
  have hcs : co t = 4 ∨ co t = 5 ∨ co t = 6 ∨ co t = 7 ∨ co t = 8 ∨ co t = 9 := by
    rcases hn with a | a
    · omega
    · omega
  unfold wX_outcomeOfCompound_31
  rw [cg]
  rcases hcs with c | c | c | c | c | c
  · obtain ⟨a1, a2, a3, a4, a5, a6⟩ := e3 (Or.inl c)
    have en : n1 = fi t := by
      rcases hn with a | a
      · exact a.2
      · omega
    subst en
    have b2 := pg_B_le hB (la t) (p + (T (fi t) p - 2))
    refine ⟨ig, nm_r (e' := nI 4) (e1.trans (congrArg nI c)) (br_f (by decide) (br_f (by decide) (br_t (by decide) ?_)))⟩
    rw [pg_F_4 c] at k
    unfold pg_th at k
    rcases hz with ⟨y, rfl⟩ | ⟨y, rfl⟩
    · rw [if_pos (by omega), y] at k
      exact br_f (by decide) (br_t (by decide) k)
    · rw [if_neg (by omega)] at k
      refine br_t rfl ⟨ig, ?_⟩
      rw [es y]
      refine pg_xoT r1 R ⟨a3, a4, a6⟩ (by omega) ?_
      exact pg_xj y (by omega) k
  · obtain ⟨a1, a2, a3, a4, a5, a6⟩ := e3 (Or.inr c)
    have en : n1 = fi t := by
      rcases hn with a | a
      · exact a.2
      · omega
    subst en
    refine ⟨ig, nm_r (e' := nI 5) (e1.trans (congrArg nI c)) (br_f (by decide) (br_f (by decide) (br_f (by decide) (br_t (by decide) ?_))))⟩
    rw [pg_F_5 c] at k
    unfold pg_el at k
    rcases hz with ⟨y, rfl⟩ | ⟨y, rfl⟩
    · rw [if_pos y] at k
      refine br_f (by decide) ⟨ig, ?_⟩
      exact pg_xoT r1 R ⟨a3, a4, a6⟩ (by omega) k
    · rw [if_neg (by omega)] at k
      exact br_t rfl k
  all_goals obtain ⟨a1, a2, a3⟩ := e4 (by omega)
  all_goals have en : n1 = la t := by omega
  all_goals subst en
  · refine ⟨ig, nm_r (e' := nI 6) (e1.trans (congrArg nI c)) (br_f (by decide) (br_f (by decide) (br_f (by decide) (br_f (by decide) (br_t (by decide) ?_)))))⟩
    have b2 := pg_B_le hB t (p + (T (la t) p - 2))
    rcases hz with ⟨y, rfl⟩ | ⟨y, rfl⟩
    · rw [pg_F_6a c z (by omega)] at k
      exact br_f (by decide) k
    · refine br_t rfl ?_
      by_cases w : T (la t) p = 2
      · rw [pg_F_6a c z (by omega)] at k
        exact br_t ((pg_ov_0 _ (by omega)).mpr w) k
      · rw [pg_F_6b c (by omega)] at k
        unfold pg_th at k
        rw [if_neg (by omega)] at k
        refine br_f (fun q => w ((pg_ov_0 _ (by omega)).mp q)) ?_
        rw [es y]
        refine pg_xoT r1 R ⟨ht, h10, rfl⟩ (by omega) ?_
        exact pg_xj y (by omega) k
  · refine ⟨ig, nm_r (e' := nI 7) (e1.trans (congrArg nI c)) (br_f (by decide) (br_f (by decide) (br_f (by decide) (br_f (by decide) (br_f (by decide) (br_t (by decide) ?_))))))⟩
    rw [pg_F_7 c z] at k
    rcases hz with ⟨y, rfl⟩ | ⟨y, rfl⟩
    · rw [if_pos (by omega)] at k
      exact br_f (by decide) k
    · rw [if_neg (by omega)] at k
      exact br_t rfl k
  · refine ⟨ig, nm_r (e' := nI 8) (e1.trans (congrArg nI c)) (br_f (by decide) (br_f (by decide) (br_f (by decide) (br_f (by decide) (br_f (by decide) (br_f (by decide) (br_t (by decide) ?_)))))))⟩
    rw [pg_F_8 c z] at k
    rcases hz with ⟨y, rfl⟩ | ⟨y, rfl⟩
    · rw [if_pos (by omega)] at k
      exact br_f (by decide) k
    · rw [if_neg (by omega)] at k
      exact br_t rfl k
  · refine ⟨ig, nm_r (e' := nI 9) (e1.trans (congrArg nI c)) (br_f (by decide) (br_t (by decide) ?_))⟩
    rw [pg_F_9 c z] at k
    rcases hz with ⟨y, rfl⟩ | ⟨y, rfl⟩
    · rw [if_pos (by omega)] at k
      exact br_f (by decide) k
    · rw [if_neg (by omega)] at k
      exact br_t rfl k
theorem pg_xcom {post : Int32 → Prop} (Q : pg_R tk h co ar fi la st ru xc xa xf xs xst xr) (hlen : len ≤ 20) (R : pg_RX tk co T o) (hB : pg_B tk len T) {t p : Nat} (ht : t < tk) (h4 : 3 < co t) (h10 : co t ≠ 10) (hp : p ≤ len) (k : post (pg_ov (pg_F co fi la (pg_ca ar ru) (pg_li tx ar len) len T t p))) : wpX_outcomeOfCompound post (nI len, nI (pg_g co tk), nI tk, nI h, tx, xc, xa, xf, xs, xst, xr, o) (nI (pg_g co t)) (nI p) := by
  have Q' := Q
  obtain ⟨r1, r2, r3, r4, r5, r6, r7, r8⟩ := Q
  obtain ⟨e1, e2, e3, e4⟩ := r6 t ht h10
  have hg := pg_g_le co t
  have hc := r5 t ht
  have cg : (nI (pg_g co t)).toNatClampNeg = pg_g co t := nI_clamp (by omega)
  have ig : vp_in (nI (pg_g co t)) 40 := vp_in_nI (by omega) (by omega)
  obtain ⟨n1, P1, hn⟩ : ∃ n1, pg_P tk co n1 (xf (pg_g co t)) ∧ (((co t = 4 ∨ co t = 5) ∧ n1 = fi t) ∨ (6 ≤ co t ∧ n1 = la t)) := by
    by_cases c : co t = 4 ∨ co t = 5
    · obtain ⟨a1, a2, a3, a4, a5, a6⟩ := e3 c
      exact ⟨fi t, ⟨a1, a2, a5⟩, Or.inl ⟨c, rfl⟩⟩
    · obtain ⟨a1, a2, a3⟩ := e4 (by omega)
      exact ⟨la t, ⟨a1, a2, a3⟩, Or.inr ⟨by omega, rfl⟩⟩
  have b1 := pg_B_p hB (t := n1) hp
  unfold wpX_outcomeOfCompound
  dsimp only
  rw [cg]
  refine ⟨ig, pg_xoT r1 R P1 (by omega) ?_⟩
  by_cases z : T n1 p = 0
  · have hF : pg_F co fi la (pg_ca ar ru) (pg_li tx ar len) len T t p = 0 := by
      rcases hn with ⟨c | c, en⟩ | ⟨c, en⟩
      · rw [pg_F_4 c]
        rw [en] at z
        unfold pg_th
        rw [z]; rfl
      · rw [pg_F_5 c]
        rw [en] at z
        unfold pg_el
        rw [z]; rfl
      · rw [en] at z
        exact pg_F_s c z
    rw [hF] at k
    exact br_t ((pg_ov_st _ (by omega)).mpr z) k
  · refine br_f (fun q => z ((pg_ov_st _ (by omega)).mp q)) ?_
    by_cases y : T n1 p = 1
    · exact br_t ((pg_ov_fa _ (by omega)).mpr y) (pg_x31 Q' hlen R hB ht h10 hp hn z (Or.inl ⟨y, rfl⟩) k)
    · exact br_f (fun q => y ((pg_ov_fa _ (by omega)).mp q)) (pg_x31 Q' hlen R hB ht h10 hp hn z (Or.inr ⟨by omega, rfl⟩) k)
theorem pg_xsw {post : Int32 → SX → Prop} (Q : pg_R tk h co ar fi la st ru xc xa xf xs xst xr) (hlen : len ≤ 20) {T0 : Nat → Nat → Nat} (I : pg_Inv co fi la (pg_ca ar ru) (pg_li tx ar len) len tk T0) (R : pg_RX tk co T0 o) {p : Nat} (hp : p ≤ len)
    (k : ∀ x T o', pg_SW co fi la (pg_ca ar ru) (pg_li tx ar len) len tk T0 T (fun t q => q = p ∧ pg_g co t < pg_g co tk) x → pg_RX tk co T o' → (∀ t q, q ≠ p → T t q = T0 t q) → post x (nI len, nI (pg_g co tk), nI tk, nI h, tx, xc, xa, xf, xs, xst, xr, o')) : wpX_sweepPlace post (nI len, nI (pg_g co tk), nI tk, nI h, tx, xc, xa, xf, xs, xst, xr, o) (nI p) := by
  have Q' := Q
  obtain ⟨r1, r2, r3, r4, r5, r6, r7, r8⟩ := Q
  have hgm := pg_g_le co tk
  refine ⟨pg_g co tk + 1, ?_⟩
  refine pg_Xin (J := fun x o' => post x (nI len, nI (pg_g co tk), nI tk, nI h, tx, xc, xa, xf, xs, xst, xr, o')) (W := fun n e x o' => wX_sweepPlace_4 post (nI p) (nI len) (nI (pg_g co tk)) (nI tk) (nI h) n x (nI e) tx xc xa xf xs xst xr o') hp hlen (pg_li_ok tx ar len) ?_ ?_ k (pg_g co tk + 1) 0 0 T0 o (Nat.zero_le _) (by omega) (pg_sw0 I (fun t q d => absurd d.2 (Nat.not_lt_zero _))) R (fun _ _ _ => rfl)
  · intro n x o' hx hJ
    refine br_t (nI_le (Nat.le_refl _) (by omega)) ⟨?_, hJ⟩
    rcases hx with rfl | rfl
    · rfl
    · rfl
  · intro n t x o' T ht hc hg I' R' hx h1 h2 h3
    have hgt := pg_g_le co t
    obtain ⟨e1, e2, e3, e4⟩ := r6 t ht hc
    have ex := pg_ix' (pg_g co t) p
    have b := pg_B_p I'.1 (t := t) hp
    have bF := pg_F_B (co := co) (fi := fi) (la := la) (ca := pg_ca ar ru) (pg_li_ok tx ar len) I'.1 t hp
    have cg : (nI (pg_g co t)).toNatClampNeg = pg_g co t := nI_clamp (by omega)
    have cc : (nI (pg_g co t * 21 + p)).toNatClampNeg = pg_g co t * 21 + p := nI_clamp (by omega)
    have ic : vp_in (nI (pg_g co t * 21 + p)) 840 := vp_in_nI (by omega) (by omega)
    have oc : o' (nI (pg_g co t * 21 + p)).toNatClampNeg = pg_ov (T t p) := by
      rw [cc]; exact R' t p ht hc (by omega)
    have ec : xc (nI (pg_g co t)).toNatClampNeg = nI (co t) := by
      rw [cg]; exact e1
    have hco := r5 t ht
    refine br_f (nI_ge hg (by omega)) (nm_r ex ⟨ic, ?_⟩)
    by_cases z : T t p = 0
    · refine br_t (oc.trans (by rw [z]; rfl)) ⟨vp_in_nI (by omega) (by omega), ?_⟩
      have hj : wX_sweepPlace_63 post (wX_sweepPlace_4 post (nI p) (nI len) (nI (pg_g co tk)) (nI tk) (nI h) n) (nI p) x (nI (pg_g co t)) (nI (pg_g co t * 21 + p)) (pg_ov (pg_F co fi la (pg_ca ar ru) (pg_li tx ar len) len T t p)) (nI (pg_g co t * 21 + p)) (nI len) (nI (pg_g co tk)) (nI tk) (nI h) tx xc xa xf xs xst xr o' := by
        refine ⟨ic, nm_r (e' := upd o' (pg_g co t * 21 + p) (pg_ov (pg_F co fi la (pg_ca ar ru) (pg_li tx ar len) len T t p))) (by rw [cc]) ?_⟩
        have us : upd o' (pg_g co t * 21 + p) (pg_ov (pg_F co fi la (pg_ca ar ru) (pg_li tx ar len) len T t p)) (nI (pg_g co t * 21 + p)).toNatClampNeg = pg_ov (pg_F co fi la (pg_ca ar ru) (pg_li tx ar len) len T t p) := by
          rw [cc]; exact if_pos rfl
        by_cases f : pg_F co fi la (pg_ca ar ru) (pg_li tx ar len) len T t p = 0
        · rcases hx with rfl | rfl
          · exact br_t rfl ⟨ic, br_t (us.trans (by rw [f]; rfl)) (nm_r (nI_1 _) (h2 z f))⟩
          · exact br_f (by decide) (nm_r (nI_1 _) (h2 z f))
        · rcases hx with rfl | rfl
          · exact br_t rfl ⟨ic, br_f (fun q => f ((pg_ov_st _ (by omega)).mp (us.symm.trans q))) (nm_r (nI_1 _) (h3 z f))⟩
          · exact br_f (by decide) (nm_r (nI_1 _) (h3 z f))
      by_cases c3 : 3 < co t
      · exact br_t (by rw [ec]; exact nI_lt (a := 3) c3 (by omega)) (pg_xcom Q' hlen R' I'.1 ht c3 hc hp hj)
      · exact br_f (by rw [ec]; exact nI_nlt (a := 3) (by omega) (by decide)) (pg_xsim Q' hlen R' ht (by omega) hp hj)
    · exact br_f (fun q => z ((pg_ov_st _ (by omega)).mp (oc.symm.trans q))) (nm_r (nI_1 _) (h1 z))
theorem pg_xfo {post : SX → Prop} (k : ∀ o', (∀ j, j < 840 → o' j = -2) → post (nI len, nI (pg_g co tk), nI tk, nI h, tx, xc, xa, xf, xs, xst, xr, o')) : wpX_forgetOutcomes post (nI len, nI (pg_g co tk), nI tk, nI h, tx, xc, xa, xf, xs, xst, xr, o) :=
  loop_0 (fun n i s => wX_forgetOutcomes_2 post (nI len) (nI (pg_g co tk)) (nI tk) (nI h) n (nI i) tx xc xa xf xs xst xr s) (fun i s => ∀ j, j < i → s j = -2) 840 o (fun j hj => absurd hj (by omega)) (fun n s hI => br_t (nI_le (Nat.le_refl 840) (by decide)) (k s hI)) (fun n i s hi hI hn => br_f (nI_ge (b := 840) hi (by decide)) ⟨vp_in_nI hi (by decide), nm_r (e' := upd s i (-2)) (by rw [nI_clamp (by omega)]) (nm_r (nI_1 i) (hn _ (pg_fl hI)))⟩)
theorem pg_xfill {post : SX → Prop} (Q : pg_R tk h co ar fi la st ru xc xa xf xs xst xr) (hlen : len ≤ 20) (k : ∀ T o', pg_Inv co fi la (pg_ca ar ru) (pg_li tx ar len) len tk T → pg_Fix co fi la (pg_ca ar ru) (pg_li tx ar len) len tk T → pg_RX tk co T o' → post (nI len, nI (pg_g co tk), nI tk, nI h, tx, xc, xa, xf, xs, xst, xr, o')) : wpX_fillOutcomes post (nI len, nI (pg_g co tk), nI tk, nI h, tx, xc, xa, xf, xs, xst, xr, o) := by
  have hgm := pg_g_le co tk
  have r1 := Q.1
  unfold wpX_fillOutcomes
  dsimp only
  refine pg_xfo (fun o1 h1 => ?_)
  have R0 : pg_RX tk co (fun _ _ => 0) o1 := fun t p ht hc hp => by
    have := pg_g_le co t
    exact h1 _ (by omega)
  refine ⟨len + 2, ?_⟩
  refine pg_Xout (K := fun o' => post (nI len, nI (pg_g co tk), nI tk, nI h, tx, xc, xa, xf, xs, xst, xr, o')) (W := fun n i o' => wX_fillOutcomes_9 post n (pg_dn i) (nI len) (nI (pg_g co tk)) (nI tk) (nI h) tx xc xa xf xs xst xr o') ?_ ?_ k (len + 1) (len + 2) (fun _ _ => 0) o1 (Nat.le_refl _) (by omega) pg_Inv0 R0 (fun q a b => absurd a (by omega))
  · intro n o' hK
    exact br_t (by decide) hK
  · intro n p o' T hp I R hq hn
    refine br_f (nI_pos (n := p) (by omega)) ⟨pg_g co tk + 1, ?_⟩
    refine pg_Xsw (p := p) (K := fun o'' => wX_fillOutcomes_9 post n (pg_dn p) (nI len) (nI (pg_g co tk)) (nI tk) (nI h) tx xc xa xf xs xst xr o'') (W := fun m s x o'' => wX_fillOutcomes_17 post (wX_fillOutcomes_9 post n) (nI p) m x (nI s) (nI len) (nI (pg_g co tk)) (nI tk) (nI h) tx xc xa xf xs xst xr o'') hp ?_ ?_ ?_ hn (pg_g co tk + 1) 0 1 T o' (Nat.zero_le _) (by omega) I R hq (Or.inr ⟨rfl, Nat.zero_le _⟩)
    · intro m x o'' hK
      exact br_t (nI_le (Nat.le_refl _) (by omega)) (nm_r (pg_dn_s p) hK)
    · intro m s o'' hs hK
      exact br_f (nI_ge hs (by omega)) (br_t rfl (nm_r (pg_dn_s p) hK))
    · intro m s o'' T'' hs I'' R'' hc
      refine br_f (nI_ge hs (by omega)) (br_f (by decide) ?_)
      refine pg_xsw Q hlen I'' R'' hp (fun x T' o3 S R3 hq3 => ?_)
      exact nm_r (nI_1 s) (hc x T' o3 S R3 hq3)
end
