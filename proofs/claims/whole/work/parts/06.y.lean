/-! the reference's methods over a table -/
section
theorem pg_ov_gt : ∀ n, n < 24 → (0 < pg_ov n ↔ 2 < n) := by decide +kernel
theorem pg_fl {s : Nat → Int32} {i : Nat} {v : Int32} (h : ∀ j, j < i → s j = v) : ∀ j, j < i + 1 → upd s i v j = v := by
  intro j hj
  by_cases e : j = i
  · rw [e]; exact if_pos rfl
  · exact (if_neg e).trans (h j (by omega))
theorem pg_ix (x p : Nat) : (21 : Int32) * nI x + nI p = nI (21 * x + p) := by
  have e : (21 : Int32) = nI 21 := by decide
  rw [e, pk_mul, nI_add]
theorem pg_ix' (x p : Nat) : nI x * (21 : Int32) + nI p = nI (x * 21 + p) := by
  have e : (21 : Int32) = nI 21 := by decide
  rw [e, pk_mul, nI_add]
/-- what the reference's walks need of the relation -/
def pg_YV (tk len : Nat) (co ar fi la ru : Nat → Nat) (yr : Nat → Int32) : Prop :=
  tk ≤ 40 ∧ len ≤ 20 ∧ (∀ t, la t < 40) ∧ (∀ t, ar t < 4) ∧ (∀ t, t < tk → co t ≤ 10) ∧ (∀ t, t < tk → co t = 4 ∨ co t = 5 → fi t < tk) ∧ (∀ r, r < 4 → ru r ≤ tk ∧ yr r = pg_rv (ru r))
theorem pg_YV_of {tk h len : Nat} {co ar fi la st ru : Nat → Nat} {xc xa xf xs xst xr yr : Nat → Int32} (R : pg_R tk h co ar fi la st ru xc xa xf xs xst xr) (hlen : len ≤ 20) (hy : ∀ r, r < 4 → yr r = pg_rv (ru r)) : pg_YV tk len co ar fi la ru yr := by
  obtain ⟨r1, r2, r3, r4, r5, r6, r7, r8⟩ := R
  refine ⟨r1, hlen, r3, r4, r5, fun t ht hc => ?_, fun r hr => ⟨?_, hy r hr⟩⟩
  · exact ((r6 t ht (by omega)).2.2.1 hc).1
  · rcases r8 r hr with a | ⟨n, n1, n2⟩
    · rw [a.1]; omega
    · have := n2.1
      omega
variable {tk h len : Nat} {co ar fi la st ru : Nat → Nat} {tx yr o : Nat → Int32} {T : Nat → Nat → Nat}
theorem pg_yc {post : Int32 → Prop} (V : pg_YV tk len co ar fi la ru yr) (R : pg_RY T o) {r p : Nat} (hr : r < 4) (hp : p ≤ 20) (k : post (pg_ov (pg_an ru T r p))) : wpY_called post (nI tk, nI h, nI len, (fun t => nI (co t)), (fun t => nI (ar t)), (fun t => nI (fi t)), (fun t => nI (la t)), (fun t => nI (st t)), yr, tx, o) (nI r) (nI p) := by
  have hy := (V.2.2.2.2.2.2 r hr)
  have h40 := V.1
  have e0 : (nI r).toNatClampNeg = r := nI_clamp (by omega)
  unfold wpY_called
  dsimp only
  rw [e0, hy.2]
  unfold pg_an at k
  by_cases z : ru r = 0
  · rw [if_pos z] at k
    rw [z]
    exact ⟨vp_in_nI hr (by omega), br_f (by decide) k⟩
  · obtain ⟨n, hn⟩ : ∃ n, ru r = n + 1 := ⟨ru r - 1, by omega⟩
    rw [if_neg z, hn] at k
    rw [hn]
    have e1 : (21 : Int32) * pg_rv (n + 1) + nI p = nI (21 * n + p) := pg_ix n p
    have e2 : o ((21 : Int32) * pg_rv (n + 1) + nI p).toNatClampNeg = pg_ov (T n p) := by
      rw [e1, nI_clamp (by omega)]; exact R n p (by omega) hp
    rw [e2]
    exact ⟨vp_in_nI hr (by omega), br_t (nI_pos' (by omega)) ⟨vp_in_nI hr (by omega), pk_in (21 * n + p) 840 (by omega) e1, k⟩⟩
theorem pg_yj {post : Int32 → Prop} (hlen : len ≤ 20) (R : pg_RY T o) (hB : pg_B tk len T) {x y p : Nat} (hx : x < 40) (hy : y < 40) (hp : p ≤ len) (k : post (pg_ov (pg_th T x y p))) : wpY_joined post (nI tk, nI h, nI len, (fun t => nI (co t)), (fun t => nI (ar t)), (fun t => nI (fi t)), (fun t => nI (la t)), (fun t => nI (st t)), yr, tx, o) (nI x) (nI y) (nI p) := by
  have b1 := pg_B_p hB (t := x) hp
  have e1 := pg_ix x p
  have o1 : o ((21 : Int32) * nI x + nI p).toNatClampNeg = pg_ov (T x p) := by
    rw [e1, nI_clamp (by omega)]; exact R x p hx (by omega)
  refine ⟨pk_in (21 * x + p) 840 (by omega) e1, nm_r (e' := pg_ov (T x p)) o1 ?_⟩
  unfold pg_th at k
  by_cases z : T x p < 2
  · rw [if_pos z] at k
    exact br_f (fun c => by have := (pg_ov_ge _ (by omega)).mp c; omega) k
  · rw [if_neg z] at k
    have e2 : (21 : Int32) * nI y + nI p + pg_ov (T x p) = nI (21 * y + (p + (T x p - 2))) := by
      rw [pg_ix, pg_ov_num (by omega), nI_add]
      congr 1; omega
    have b2 := pg_B_p hB (t := y) (p := p + (T x p - 2)) (by omega)
    have o2 : o ((21 : Int32) * nI y + nI p + pg_ov (T x p)).toNatClampNeg = pg_ov (T y (p + (T x p - 2))) := by
      rw [e2, nI_clamp (by omega)]; exact R y _ hy (by omega)
    refine br_t ((pg_ov_ge _ (by omega)).mpr (by omega)) ⟨pk_in (21 * y + (p + (T x p - 2))) 840 (by omega) e2, nm_r (e' := pg_ov (T y (p + (T x p - 2)))) o2 ?_⟩
    unfold pg_j at k
    by_cases w : T y (p + (T x p - 2)) < 2
    · rw [if_pos w] at k
      exact br_f (fun c => by have := (pg_ov_ge _ (by omega)).mp c; omega) k
    · rw [if_neg w] at k
      refine br_t ((pg_ov_ge _ (by omega)).mpr (by omega)) ?_
      rw [pg_ov_add (by omega) (by omega)]
      exact k
theorem pg_yf {post : Int32 → Prop} (V : pg_YV tk len co ar fi la ru yr) (R : pg_RY T o) (hB : pg_B tk len T) {t p : Nat} (ht : t < tk) (hp : p ≤ len) (k : post (pg_ov (pg_F co fi la (pg_ca ar ru) (pg_li tx ar len) len T t p))) : wpY_follows post (nI tk, nI h, nI len, (fun t => nI (co t)), (fun t => nI (ar t)), (fun t => nI (fi t)), (fun t => nI (la t)), (fun t => nI (st t)), yr, tx, o) (nI t) (nI p) := by
  obtain ⟨v1, v2, v3, v4, v5, v6, v7⟩ := id V
  have hL := v3 t
  have hc := v5 t ht
  have ex := pg_ix (la t) p
  have ct : (nI t).toNatClampNeg = t := nI_clamp (by omega)
  have cp : (nI p).toNatClampNeg = p := nI_clamp (by omega)
  have it : vp_in (nI t) 40 := vp_in_nI (by omega) (by omega)
  have bx := pg_B_p hB (t := la t) hp
  have ox : o ((21 : Int32) * nI (la t) + nI p).toNatClampNeg = pg_ov (T (la t) p) := by
    rw [ex, nI_clamp (by omega)]; exact R (la t) p hL (by omega)
  have ix : vp_in ((21 : Int32) * nI (la t) + nI p) 840 := pk_in (21 * la t + p) 840 (by omega) ex
  unfold wpY_follows
  dsimp only
  rw [ct]
  have hcs : co t = 0 ∨ co t = 1 ∨ co t = 2 ∨ co t = 3 ∨ co t = 4 ∨ co t = 5 ∨ co t = 6 ∨ co t = 7 ∨ co t = 8 ∨ co t = 9 ∨ co t = 10 := by omega
  rcases hcs with c | c | c | c | c | c | c | c | c | c | c
  · -- LETTER
    refine ⟨it, nm_r (e' := nI 0) (congrArg nI c) ⟨it, ix, nm_r (e' := pg_ov (T (la t) p)) ox ?_⟩⟩
    refine br_t (by decide) ?_
    rw [pg_F_0 c] at k
    unfold pg_li at k
    rw [cp]
    by_cases z : p < len
    · refine br_f (nI_ge z (by omega)) ⟨vp_in_nI (by omega) (by omega), it, ?_⟩
      by_cases w : tx p = nI (ar t)
      · rw [if_pos ⟨z, w⟩] at k
        exact br_t w k
      · rw [if_neg (fun c => w c.2)] at k
        exact br_f w k
    · rw [if_neg (fun c => z c.1)] at k
      exact br_t (nI_le (by omega) (by omega)) k
  · -- ANY
    refine ⟨it, nm_r (e' := nI 1) (congrArg nI c) ⟨it, ix, nm_r (e' := pg_ov (T (la t) p)) ox ?_⟩⟩
    refine br_f (by decide) (br_t (by decide) ?_)
    rw [pg_F_1 c] at k
    by_cases z : p < len
    · rw [if_pos z] at k
      exact br_f (nI_ge z (by omega)) k
    · rw [if_neg z] at k
      exact br_t (nI_le (by omega) (by omega)) k
  · -- NOTHING
    refine ⟨it, nm_r (e' := nI 2) (congrArg nI c) ⟨it, ix, nm_r (e' := pg_ov (T (la t) p)) ox ?_⟩⟩
    refine br_f (by decide) (br_f (by decide) (br_t (by decide) ?_))
    rw [pg_F_2 c] at k
    exact k
  · -- CALL
    refine ⟨it, nm_r (e' := nI 3) (congrArg nI c) ⟨it, ix, nm_r (e' := pg_ov (T (la t) p)) ox ?_⟩⟩
    refine br_f (by decide) (br_f (by decide) (br_f (by decide) (br_t (by decide) ⟨it, ?_⟩)))
    rw [pg_F_3 c] at k
    exact pg_yc V R (v4 t) (by omega) k
  · -- THEN
    refine ⟨it, nm_r (e' := nI 4) (congrArg nI c) ⟨it, ix, nm_r (e' := pg_ov (T (la t) p)) ox ?_⟩⟩
    refine br_f (by decide) (br_f (by decide) (br_f (by decide) (br_f (by decide) (br_t (by decide) ⟨it, it, ?_⟩))))
    rw [pg_F_4 c] at k
    have := v6 t ht (Or.inl c)
    exact pg_yj v2 R hB (by omega) hL hp k
  · -- ELSE
    refine ⟨it, nm_r (e' := nI 5) (congrArg nI c) ⟨it, ix, nm_r (e' := pg_ov (T (la t) p)) ox ?_⟩⟩
    have hf := v6 t ht (Or.inr c)
    have ef := pg_ix (fi t) p
    have bf := pg_B_p hB (t := fi t) hp
    have of : o ((21 : Int32) * nI (fi t) + nI p).toNatClampNeg = pg_ov (T (fi t) p) := by
      rw [ef, nI_clamp (by omega)]; exact R (fi t) p (by omega) (by omega)
    refine br_f (by decide) (br_f (by decide) (br_f (by decide) (br_f (by decide) (br_f (by decide) (br_t (by decide) ⟨it, pk_in (21 * fi t + p) 840 (by omega) ef, nm_r (e' := pg_ov (T (fi t) p)) of ?_⟩)))))
    rw [pg_F_5 c] at k
    unfold pg_el at k
    by_cases z : T (fi t) p = 1
    · rw [if_pos z] at k
      exact br_t ((pg_ov_fa _ (by omega)).mpr z) k
    · rw [if_neg z] at k
      exact br_f (fun c => z ((pg_ov_fa _ (by omega)).mp c)) k
  all_goals by_cases z : T (la t) p = 0
  · -- STAR
    refine ⟨it, nm_r (e' := nI 6) (congrArg nI c) ⟨it, ix, nm_r (e' := pg_ov (T (la t) p)) ox ?_⟩⟩
    rw [pg_F_s (by omega) z] at k
    exact br_f (by decide) (br_f (by decide) (br_f (by decide) (br_f (by decide) (br_f (by decide) (br_f (by decide) (br_t ((pg_ov_st _ (by omega)).mpr z) k))))))
  · refine ⟨it, nm_r (e' := nI 6) (congrArg nI c) ⟨it, ix, nm_r (e' := pg_ov (T (la t) p)) ox ?_⟩⟩
    refine br_f (by decide) (br_f (by decide) (br_f (by decide) (br_f (by decide) (br_f (by decide) (br_f (by decide) (br_f (fun c => z ((pg_ov_st _ (by omega)).mp c)) (br_t (by decide) ?_)))))))
    by_cases y : T (la t) p ≤ 2
    · rw [pg_F_6a c z y] at k
      exact br_f (fun c => by have := (pg_ov_gt _ (by omega)).mp c; omega) k
    · rw [pg_F_6b c y] at k
      exact br_t ((pg_ov_gt _ (by omega)).mpr (by omega)) ⟨it, pg_yj v2 R hB hL (by omega) hp k⟩
  · -- MAYBE
    refine ⟨it, nm_r (e' := nI 7) (congrArg nI c) ⟨it, ix, nm_r (e' := pg_ov (T (la t) p)) ox ?_⟩⟩
    rw [pg_F_s (by omega) z] at k
    exact br_f (by decide) (br_f (by decide) (br_f (by decide) (br_f (by decide) (br_f (by decide) (br_f (by decide) (br_t ((pg_ov_st _ (by omega)).mpr z) k))))))
  · refine ⟨it, nm_r (e' := nI 7) (congrArg nI c) ⟨it, ix, nm_r (e' := pg_ov (T (la t) p)) ox ?_⟩⟩
    refine br_f (by decide) (br_f (by decide) (br_f (by decide) (br_f (by decide) (br_f (by decide) (br_f (by decide) (br_f (fun c => z ((pg_ov_st _ (by omega)).mp c)) (br_f (by decide) (br_t (by decide) ?_))))))))
    rw [pg_F_7 c z] at k
    by_cases y : T (la t) p < 2
    · rw [if_pos y] at k
      exact br_f (fun c => by have := (pg_ov_ge _ (by omega)).mp c; omega) k
    · rw [if_neg y] at k
      exact br_t ((pg_ov_ge _ (by omega)).mpr (by omega)) k
  · -- AHEAD
    refine ⟨it, nm_r (e' := nI 8) (congrArg nI c) ⟨it, ix, nm_r (e' := pg_ov (T (la t) p)) ox ?_⟩⟩
    rw [pg_F_s (by omega) z] at k
    exact br_f (by decide) (br_f (by decide) (br_f (by decide) (br_f (by decide) (br_f (by decide) (br_f (by decide) (br_t ((pg_ov_st _ (by omega)).mpr z) k))))))
  · refine ⟨it, nm_r (e' := nI 8) (congrArg nI c) ⟨it, ix, nm_r (e' := pg_ov (T (la t) p)) ox ?_⟩⟩
    refine br_f (by decide) (br_f (by decide) (br_f (by decide) (br_f (by decide) (br_f (by decide) (br_f (by decide) (br_f (fun c => z ((pg_ov_st _ (by omega)).mp c)) (br_f (by decide) (br_f (by decide) (br_t (by decide) ?_)))))))))
    rw [pg_F_8 c z] at k
    by_cases y : T (la t) p < 2
    · rw [if_pos y] at k
      exact br_f (fun c => by have := (pg_ov_ge _ (by omega)).mp c; omega) k
    · rw [if_neg y] at k
      exact br_t ((pg_ov_ge _ (by omega)).mpr (by omega)) k
  · -- NOT
    refine ⟨it, nm_r (e' := nI 9) (congrArg nI c) ⟨it, ix, nm_r (e' := pg_ov (T (la t) p)) ox ?_⟩⟩
    rw [pg_F_s (by omega) z] at k
    exact br_f (by decide) (br_f (by decide) (br_f (by decide) (br_f (by decide) (br_f (by decide) (br_f (by decide) (br_t ((pg_ov_st _ (by omega)).mpr z) k))))))
  · refine ⟨it, nm_r (e' := nI 9) (congrArg nI c) ⟨it, ix, nm_r (e' := pg_ov (T (la t) p)) ox ?_⟩⟩
    refine br_f (by decide) (br_f (by decide) (br_f (by decide) (br_f (by decide) (br_f (by decide) (br_f (by decide) (br_f (fun c => z ((pg_ov_st _ (by omega)).mp c)) (br_f (by decide) (br_f (by decide) (br_f (by decide) (br_t (by decide) ?_))))))))))
    rw [pg_F_9 c z] at k
    by_cases y : T (la t) p < 2
    · rw [if_pos y] at k
      exact br_f (fun c => by have := (pg_ov_ge _ (by omega)).mp c; omega) k
    · rw [if_neg y] at k
      exact br_t ((pg_ov_ge _ (by omega)).mpr (by omega)) k
  · -- DEFINE
    refine ⟨it, nm_r (e' := nI 10) (congrArg nI c) ⟨it, ix, nm_r (e' := pg_ov (T (la t) p)) ox ?_⟩⟩
    rw [pg_F_10 c] at k
    exact br_f (by decide) (br_f (by decide) (br_f (by decide) (br_f (by decide) (br_f (by decide) (br_f (by decide) (br_t ((pg_ov_st _ (by omega)).mpr z) k))))))
  · refine ⟨it, nm_r (e' := nI 10) (congrArg nI c) ⟨it, ix, nm_r (e' := pg_ov (T (la t) p)) ox ?_⟩⟩
    rw [pg_F_10 c] at k
    exact br_f (by decide) (br_f (by decide) (br_f (by decide) (br_f (by decide) (br_f (by decide) (br_f (by decide) (br_f (fun c => z ((pg_ov_st _ (by omega)).mp c)) (br_f (by decide) (br_f (by decide) (br_f (by decide) (br_f (by decide) k))))))))))
theorem pg_ywk {post : SY → Prop} (V : pg_YV tk len co ar fi la ru yr) (k : ∀ T o', pg_Inv co fi la (pg_ca ar ru) (pg_li tx ar len) len tk T → pg_Fix co fi la (pg_ca ar ru) (pg_li tx ar len) len tk T → pg_RY T o' → post (nI tk, nI h, nI len, (fun t => nI (co t)), (fun t => nI (ar t)), (fun t => nI (fi t)), (fun t => nI (la t)), (fun t => nI (st t)), yr, tx, o')) : wpY_work post (nI tk, nI h, nI len, (fun t => nI (co t)), (fun t => nI (ar t)), (fun t => nI (fi t)), (fun t => nI (la t)), (fun t => nI (st t)), yr, tx, o) := by
  obtain ⟨v1, v2, v3, v4, v5, v6, v7⟩ := id V
  have e21 : (21 : Int32) * nI tk = nI (21 * tk) := pk_mul 21 tk
  refine loop_0 (fun n i s => wY_work_2 post (nI tk) (nI h) (nI len) n (nI i) (fun t => nI (co t)) (fun t => nI (ar t)) (fun t => nI (fi t)) (fun t => nI (la t)) (fun t => nI (st t)) yr tx s) (fun i s => ∀ j, j < i → s j = -2) 840 o (fun j hj => absurd hj (by omega)) (fun n s hI => br_t (nI_le (Nat.le_refl 840) (by decide)) ?_) (fun n i s hi hI hn => br_f (nI_ge (b := 840) hi (by decide)) ⟨vp_in_nI hi (by decide), nm_r (e' := upd s i (-2)) (by rw [nI_clamp (by omega)]) (nm_r (nI_1 i) (hn _ (pg_fl hI)))⟩)
  have R0 : pg_RY (fun _ _ => 0) s := fun t p ht hp => hI _ (by omega)
  refine ⟨842, pg_Ywh (K := fun o' => post (nI tk, nI h, nI len, (fun t => nI (co t)), (fun t => nI (ar t)), (fun t => nI (fi t)), (fun t => nI (la t)), (fun t => nI (st t)), yr, tx, o')) (W := fun n x o' => wY_work_25 post (nI tk) (nI h) (nI len) n x (fun t => nI (co t)) (fun t => nI (ar t)) (fun t => nI (fi t)) (fun t => nI (la t)) (fun t => nI (st t)) yr tx o') v1 v2 ?_ ?_ k 842 1 (fun _ _ => 0) s (Or.inr ⟨rfl, by omega⟩) pg_Inv0 R0⟩
  · intro n o' hK
    exact br_t rfl hK
  · intro n o' T I R hc
    refine br_f (by decide) ⟨21 * tk + 1, ?_⟩
    refine pg_Yin (J := fun x o'' => wY_work_25 post (nI tk) (nI h) (nI len) n x (fun t => nI (co t)) (fun t => nI (ar t)) (fun t => nI (fi t)) (fun t => nI (la t)) (fun t => nI (st t)) yr tx o'') (W := fun m i x o'' => wY_work_33 post (wY_work_25 post (nI tk) (nI h) (nI len) n) (nI tk) (nI h) (nI len) m x (nI i) (fun t => nI (co t)) (fun t => nI (ar t)) (fun t => nI (fi t)) (fun t => nI (la t)) (fun t => nI (st t)) yr tx o'') v2 (pg_li_ok tx ar len) ?_ ?_ hc (21 * tk + 1) 0 0 T o' (Nat.zero_le _) (by omega) (pg_sw0 I (fun t p d => absurd d (Nat.not_lt_zero _))) R
    · intro m x o'' hJ
      exact br_t (by rw [e21]; exact nI_le (Nat.le_refl _) (by omega)) hJ
    · intro m t p x o'' T' ht hp I' R' h1 h2
      have er : nI (21 * t + p) - nI (21 * t + p) / (21 : Int32) * (21 : Int32) = nI p := (pk_rem (a := 21 * t + p) (d := 21) (by omega) (by omega) (by omega)).trans (congrArg nI (by omega))
      have ed : nI (21 * t + p) / (21 : Int32) = nI t := (pk_div (a := 21 * t + p) (d := 21) (by omega) (by omega) (by omega)).trans (congrArg nI (by omega))
      have cc : (nI (21 * t + p)).toNatClampNeg = 21 * t + p := nI_clamp (by omega)
      have ic : vp_in (nI (21 * t + p)) 840 := vp_in_nI (by omega) (by omega)
      have oc : o'' (nI (21 * t + p)).toNatClampNeg = pg_ov (T' t p) := by
        rw [cc]; exact R' t p (by omega) hp
      have bt := pg_B_le I'.1 t p
      refine br_f (by rw [e21]; exact nI_ge (by omega) (by omega)) ⟨by decide, nm_r er ⟨ic, ?_⟩⟩
      by_cases z : T' t p = 0
      · refine br_t (oc.trans (by rw [z]; rfl)) ?_
        by_cases hpl : p ≤ len
        · refine br_f (nI_nlt hpl (by omega)) ⟨by decide, ?_⟩
          rw [ed]
          refine pg_yf V R' I'.1 ht hpl ?_
          have bF := pg_F_B (co := co) (fi := fi) (la := la) (ca := pg_ca ar ru) (pg_li_ok tx ar len) I'.1 t hpl
          by_cases f : pg_F co fi la (pg_ca ar ru) (pg_li tx ar len) len T' t p = 0
          · exact br_t (by rw [f]; rfl) (nm_r (nI_1 _) (h1 (Or.inr (Or.inr f))))
          · exact br_f (fun q => f ((pg_ov_st _ (by omega)).mp q)) ⟨ic, nm_r (e' := upd o'' (21 * t + p) (pg_ov (pg_F co fi la (pg_ca ar ru) (pg_li tx ar len) len T' t p))) (by rw [cc]) (nm_r (nI_1 _) (h2 z hpl f))⟩
        · exact br_t (nI_lt (by omega) (by omega)) (br_t rfl (nm_r (nI_1 _) (h1 (Or.inr (Or.inl (by omega))))))
      · exact br_f (fun q => z ((pg_ov_st _ (by omega)).mp (oc.symm.trans q))) (br_t rfl (nm_r (nI_1 _) (h1 (Or.inl z))))
end
