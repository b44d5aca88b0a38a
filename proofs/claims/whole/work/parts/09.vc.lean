/-! the relation, and what is owed -/
section
variable {LN : Int32} {c a tk h : Nat} {yc ya yf yl yst yr tx o : Nat → Int32}
theorem pg_y109 {post : Int32 → SY → Prop} {A : Int32} (hc : c ≤ 9) (htk : tk < 40) (hh : pg_tk c ≤ h) (hht : h ≤ tk)
    (k : post (nI (h - pg_tk c + 1)) (nI (tk + 1), nI (h - pg_tk c + 1), LN, yc, ya, yf, yl, upd yst (h - pg_tk c) (nI tk), yr, tx, o)) :
    wY_token_109 post (nI c) A (nI tk) (nI h) LN yc ya yf yl yst yr tx o := by
  unfold wY_token_109
  refine pg_yp (by omega) ?_
  exact nm_r (pk_sub hh) (br_f (fun e => absurd ((nI_eq (b := 10) (by omega) (by decide)).mp e) (by omega)) ⟨vp_in_nI (by omega) (by decide), nm_r (e' := upd yst (h - pg_tk c) (nI tk)) (by rw [nI_clamp (by omega)]) (nm_r (nI_1 _) (nm_r (nI_1 tk) k))⟩)
theorem pg_y109d {post : Int32 → SY → Prop} {A W : Int32} (htk : tk < 40) (hh : 1 ≤ h) (hA : A &&& 3 = nI a) (ha : a < 4) (hW : yl tk = W)
    (k : post (nI (h - 1)) (nI (tk + 1), nI (h - 1), LN, yc, ya, yf, yl, yst, upd yr a W, tx, o)) :
    wY_token_109 post (nI 10) A (nI tk) (nI h) LN yc ya yf yl yst yr tx o := by
  unfold wY_token_109
  refine pg_yp (by omega) ?_
  refine nm_r (pk_sub (b := 1) hh) (br_t (by decide) ⟨vp_in_nI htk (by decide), ?_⟩)
  rw [hA]
  exact ⟨vp_in_nI ha (by decide), nm_r (e' := upd yr a W) (by rw [nI_clamp (show a < 2 ^ 31 by omega), nI_clamp (show tk < 2 ^ 31 by omega), hW]) (nm_r (nI_1 tk) k)⟩
theorem pg_y81 {post : Int32 → SY → Prop} {A : Int32} {YF : Nat → Int32} (hc : c ≤ 10) (htk : tk < 40) (hh : pg_tk c ≤ h) (hht : h ≤ tk) (hY : YF = if pg_tk c = 2 then upd yf tk (yst (h - 2)) else yf)
    (k : wY_token_109 post (nI c) A (nI tk) (nI h) LN yc ya YF yl yst yr tx o) : wY_token_81 post (nI c) A (nI tk) (nI h) LN yc ya yf yl yst yr tx o := by
  have hk := pg_tk_le c
  unfold wY_token_81
  refine pg_yp hc ?_
  by_cases d : pg_tk c = 2
  · rw [if_pos d] at hY
    have e2 : nI h - 2 = nI (h - 2) := pk_sub (b := 2) (by omega)
    rw [e2]
    exact br_t (by rw [d]; rfl) ⟨vp_in_nI (by omega) (by decide), vp_in_nI htk (by decide), nm_r (e' := YF) (by rw [hY, nI_clamp (show h - 2 < 2 ^ 31 by omega), nI_clamp (show tk < 2 ^ 31 by omega)]) k⟩
  · rw [if_neg d] at hY
    rw [hY] at k
    exact br_f (fun e => d ((nI_eq (b := 2) (by omega) (by decide)).mp e)) k
theorem pg_ytk {post : Int32 → SY → Prop} {A : Int32} {YL : Nat → Int32} (hc : c ≤ 10) (htk : tk < 40) (hh : pg_tk c ≤ h) (hht : h ≤ tk) (hA : A &&& 3 = nI a) (hY : YL = if pg_tk c ≤ 0 then yl else upd yl tk (yst (h - 1)))
    (k : wY_token_81 post (nI c) A (nI tk) (nI h) LN (upd yc tk (nI c)) (upd ya tk (nI a)) yf YL yst yr tx o) : wpY_token post (nI tk, nI h, LN, yc, ya, yf, yl, yst, yr, tx, o) (nI c) A := by
  have hk := pg_tk_le c
  have ct : (nI tk).toNatClampNeg = tk := nI_clamp (by omega)
  have it : vp_in (nI tk) 40 := vp_in_nI htk (by decide)
  unfold wpY_token
  dsimp only
  refine br_f (nI_pos (by omega)) (br_f (nI_nlt (a := 10) hc (by decide)) ?_)
  refine pg_yp hc ?_
  refine br_f (nI_nlt hh (by omega)) (br_f (fun e => absurd ((nI_eq (b := 40) (by omega) (by decide)).mp e) (by omega)) ⟨it, nm_r (e' := upd yc tk (nI c)) (by rw [ct]) ⟨it, nm_r (e' := upd ya tk (nI a)) (by rw [ct, hA]) ?_⟩⟩)
  refine pg_yp hc ?_
  by_cases d : pg_tk c ≤ 0
  · rw [if_pos d] at hY
    rw [hY] at k
    exact br_t (nI_le (b := 0) d (by decide)) k
  · rw [if_neg d] at hY
    have e1 : nI h - 1 = nI (h - 1) := pk_sub (b := 1) (by omega)
    rw [e1]
    exact br_f (nI_ge (a := 0) (by omega) (by omega)) ⟨vp_in_nI (by omega) (by decide), it, nm_r (e' := YL) (by rw [hY, ct, nI_clamp (show h - 1 < 2 ^ 31 by omega)]) k⟩
end
def i_Rel (_ : Nat) (u : SX) (v : SY) : Prop := ∃ (tk h len : Nat) (co ar fi la st ru : Nat → Nat) (tx xc xa xf xs xst xr xo yr yo : Nat → Int32),
  len ≤ 20 ∧ (∀ r, r < 4 → yr r = pg_rv (ru r)) ∧ pg_R tk h co ar fi la st ru xc xa xf xs xst xr ∧ u = (nI len, nI (pg_g co tk), nI tk, nI h, tx, xc, xa, xf, xs, xst, xr, xo) ∧ v = (nI tk, nI h, nI len, (fun t => nI (co t)), (fun t => nI (ar t)), (fun t => nI (fi t)), (fun t => nI (la t)), (fun t => nI (st t)), yr, tx, yo)
theorem i_up {k : Nat} {u : SX} {v : SY} (h : i_Rel k u v) : i_Rel (k + 3) u v := h
section
variable {tk h len : Nat} {co ar fi la st ru : Nat → Nat} {tx xc xa xf xs xst xr xo yr yo : Nat → Int32}
theorem pg_mk {k : Nat} (hlen : len ≤ 20) (hyr : ∀ r, r < 4 → yr r = pg_rv (ru r)) (R : pg_R tk h co ar fi la st ru xc xa xf xs xst xr) : i_Rel k (nI len, nI (pg_g co tk), nI tk, nI h, tx, xc, xa, xf, xs, xst, xr, xo) (nI tk, nI h, nI len, (fun t => nI (co t)), (fun t => nI (ar t)), (fun t => nI (fi t)), (fun t => nI (la t)), (fun t => nI (st t)), yr, tx, yo) :=
  ⟨tk, h, len, co, ar, fi, la, st, ru, tx, xc, xa, xf, xs, xst, xr, xo, yr, yo, hlen, hyr, R, rfl, rfl⟩
/-- nothing made yet -/
theorem pg_R0 (hla : ∀ t, la t < 40) (har : ∀ t, ar t < 4) (hr : ∀ r, r < 4 → ru r = 0 ∧ xr r = -1) : pg_R 0 0 co ar fi la st ru xc xa xf xs xst xr :=
  ⟨by omega, by omega, hla, har, fun t ht => absurd ht (by omega), fun t ht => absurd ht (by omega), fun i hi => absurd hi (by omega), fun r hr' => Or.inl (hr r hr')⟩
theorem pg_clo {k H c a q : Nat} {fi' la' : Nat → Nat} {XC XA XF XS XT : Nat → Int32} (hlen : len ≤ 20) (hyr : ∀ r, r < 4 → yr r = pg_rv (ru r)) (hc : c ≠ 10)
    (R : pg_R (tk + 1) H (pg_upN co tk c) (pg_upN ar tk a) fi' la' (pg_upN st q tk) ru XC XA XF XS XT xr) :
    i_Rel k (nI len, nI (pg_g co tk + 1), nI (tk + 1), nI H, tx, XC, XA, XF, XS, XT, xr, xo)
      (nI (tk + 1), nI H, nI len, upd (fun t => nI (co t)) tk (nI c), upd (fun t => nI (ar t)) tk (nI a), (fun t => nI (fi' t)), (fun t => nI (la' t)), upd (fun t => nI (st t)) q (nI tk), yr, tx, yo) := by
  rw [pg_upI, pg_upI, pg_upI, ← pg_g_new (co := co) (k := tk) hc]
  exact pg_mk hlen hyr R
theorem pg_clod {k H a L1 : Nat} {la' : Nat → Nat} {XR : Nat → Int32} (hlen : len ≤ 20) (hyr : ∀ r, r < 4 → yr r = pg_rv (ru r))
    (R : pg_R (tk + 1) H (pg_upN co tk 10) (pg_upN ar tk a) fi la' st (pg_upN ru a (L1 + 1)) xc xa xf xs xst XR) :
    i_Rel k (nI len, nI (pg_g co tk), nI (tk + 1), nI H, tx, xc, xa, xf, xs, xst, XR, xo)
      (nI (tk + 1), nI H, nI len, upd (fun t => nI (co t)) tk (nI 10), upd (fun t => nI (ar t)) tk (nI a), (fun t => nI (fi t)), (fun t => nI (la' t)), (fun t => nI (st t)), upd yr a (nI L1), tx, yo) := by
  rw [pg_upI, pg_upI, ← pg_g_new0 (co := co) (k := tk)]
  refine pg_mk hlen (fun r hr => ?_) R
  by_cases e : r = a
  · rw [e, pg_upN_s]
    exact if_pos rfl
  · rw [pg_upN_n e]
    exact (if_neg e).trans (hyr r hr)
end
section
theorem pg_xfg {post : SX → Prop} {L M K H : Int32} {tx xc xa xf xs xst xr o : Nat → Int32} (k : ∀ s, (∀ r, r < 4 → s r = -1) → post (L, 0, 0, 0, tx, xc, xa, xf, xs, xst, s, o)) : wpX_forgetGrammar post (L, M, K, H, tx, xc, xa, xf, xs, xst, xr, o) :=
  loop_0 (fun n i s => wX_forgetGrammar_17 post L 0 0 0 n (nI i) tx xc xa xf xs xst s o) (fun i s => ∀ j, j < i → s j = -1) 4 xr (fun j hj => absurd hj (by omega)) (fun n s hI => br_t (nI_le (Nat.le_refl 4) (by decide)) (k s hI)) (fun n i s hi hI hn => br_f (nI_ge (b := 4) hi (by decide)) ⟨vp_in_nI hi (by decide), nm_r (e' := upd s i (-1)) (by rw [nI_clamp (by omega)]) (nm_r (nI_1 i) (hn _ (pg_fl hI)))⟩)
theorem pg_yin0 {post : SY → Prop} (k : ∀ s, (∀ r, r < 4 → s r = -1) → post (0, 0, 0, (fun _ => 0), (fun _ => 0), (fun _ => 0), (fun _ => 0), (fun _ => 0), s, (fun _ => 0), (fun _ => 0))) : wpY_init post :=
  loop_0 (fun n i s => wY_init_70 post 0 0 0 n (nI i) (fun _ => 0) (fun _ => 0) (fun _ => 0) (fun _ => 0) (fun _ => 0) s (fun _ => 0) (fun _ => 0)) (fun i s => ∀ j, j < i → s j = -1) 4 (fun _ => 0) (fun j hj => absurd hj (by omega)) (fun n s hI => br_t (nI_le (Nat.le_refl 4) (by decide)) (k s hI)) (fun n i s hi hI hn => br_f (nI_ge (b := 4) hi (by decide)) ⟨vp_in_nI hi (by decide), nm_r (e' := upd s i (-1)) (by rw [nI_clamp (by omega)]) (nm_r (nI_1 i) (hn _ (pg_fl hI)))⟩)
theorem pg_ycl {post : SY → Prop} {K H L : Int32} {yc ya yf yl yst yr tx o : Nat → Int32} (k : ∀ s, (∀ r, r < 4 → s r = -1) → post (0, 0, L, yc, ya, yf, yl, yst, s, tx, o)) : wpY_clear post (K, H, L, yc, ya, yf, yl, yst, yr, tx, o) :=
  loop_0 (fun n i s => wY_clear_12 post 0 0 L n (nI i) yc ya yf yl yst s tx o) (fun i s => ∀ j, j < i → s j = -1) 4 yr (fun j hj => absurd hj (by omega)) (fun n s hI => br_t (nI_le (Nat.le_refl 4) (by decide)) (k s hI)) (fun n i s hi hI hn => br_f (nI_ge (b := 4) hi (by decide)) ⟨vp_in_nI hi (by decide), nm_r (e' := upd s i (-1)) (by rw [nI_clamp (by omega)]) (nm_r (nI_1 i) (hn _ (pg_fl hI)))⟩)
end
theorem i_vc0 : wpX_init (fun u => wpY_init (fun v => i_Rel 0 u v)) := by
  unfold wpX_init
  refine pg_xfg (fun s hs => ?_)
  dsimp only
  refine pg_yin0 (fun s' hs' => ?_)
  exact ⟨0, 0, 0, fun _ => 0, fun _ => 0, fun _ => 0, fun _ => 0, fun _ => 0, fun _ => 0, fun _ => 0, fun _ => 0, fun _ => 0, fun _ => 0, fun _ => 0, fun _ => 0, s, fun _ => 0, s', fun _ => 0, by omega, hs', pg_R0 (fun _ => by omega) (fun _ => by omega) (fun r hr => ⟨rfl, hs r hr⟩), rfl, rfl⟩
theorem i_vc_token {k : Nat} {u : SX} {v : SY} (I : i_Rel k u v) (hk : k + 3 ≤ 1536) (v1 : Int32) (v2 : Int32) : wpX_token (fun r u' => wpY_token (fun r' v' => r' = r ∧ i_Rel (k + 3) u' v') v v1 v2) u v1 v2 := by
  obtain ⟨tk, h, len, co, ar, fi, la, st, ru, tx, xc, xa, xf, xs, xst, xr, xo, yr, yo, hlen, hyr, R, rfl, rfl⟩ := I
  have hrel : i_Rel (k + 3) (nI len, nI (pg_g co tk), nI tk, nI h, tx, xc, xa, xf, xs, xst, xr, xo) (nI tk, nI h, nI len, (fun t => nI (co t)), (fun t => nI (ar t)), (fun t => nI (fi t)), (fun t => nI (la t)), (fun t => nI (st t)), yr, tx, yo) := pg_mk hlen hyr R
  obtain ⟨r1, r2, r3, r4, r5, r6, r7, r8⟩ := id R
  by_cases h0 : v1 < 0
  · exact br_t h0 (br_t h0 ⟨rfl, hrel⟩)
  obtain ⟨c, hc, rfl⟩ := nI_of h0
  by_cases h10 : c ≤ 10
  rotate_left
  · exact br_f h0 (br_t (nI_lt (a := 10) (by omega) hc) (br_f h0 (br_t (nI_lt (a := 10) (by omega) hc) ⟨rfl, hrel⟩)))
  have n10 : ¬ (10 : Int32) < nI c := nI_nlt (a := 10) h10 (by decide)
  have hkc := pg_tk_le c
  by_cases htk : tk < 40
  rotate_left
  · have e40 : tk = 40 := by omega
    refine br_f h0 (br_f n10 (br_f (nI_nlt (b := 40) (by omega) (by omega)) ?_))
    refine br_f h0 (br_f n10 ?_)
    refine pg_yp h10 ?_
    by_cases hh : h < pg_tk c
    · exact br_t (nI_lt hh (by omega)) ⟨rfl, hrel⟩
    · exact br_f (nI_nlt (by omega) (by omega)) (br_t (by rw [e40]; rfl) ⟨rfl, hrel⟩)
  by_cases hh : pg_tk c ≤ h
  rotate_left
  · refine br_f h0 (br_f n10 (br_t (nI_lt (b := 40) htk (by decide)) ?_))
    refine pg_xp h10 ?_
    refine br_f (nI_ge (by omega) (by omega)) ?_
    refine br_f h0 (br_f n10 ?_)
    refine pg_yp h10 ?_
    exact br_t (nI_lt (by omega) (by omega)) ⟨rfl, hrel⟩
  obtain ⟨a, ha, hA⟩ := pk_andE v2 (m := 3) 2 (by decide)
  have ha : a < 4 := ha
  have hm : pg_g co tk < 40 := by
    have := pg_g_le co tk
    omega
  by_cases c10 : c = 10
  · have hk1 : pg_tk c = 1 := pg_tk1 (by omega)
    have hs := (r7 (h - 1) (by omega)).1
    subst c10
    refine pg_xd htk (by omega) r2 hA ha ?_
    refine pg_ytk h10 htk hh r2 hA (YL := fun t => nI (pg_upN la tk (st (h - 1)) t)) (by rw [if_neg (by omega)]; exact (pg_upI la tk (st (h - 1))).symm) ?_
    refine pg_y81 h10 htk hh r2 (YF := fun t => nI (fi t)) (by rw [if_neg (by omega)]) ?_
    refine pg_y109d (W := nI (st (h - 1))) htk (by omega) hA ha (congrArg nI pg_upN_s) ?_
    exact ⟨rfl, pg_clod hlen hyr (pg_R_def R htk (q := h - 1) (by omega) ha (fun t e => pg_upN_n e) pg_upN_s rfl)⟩
  have c9 : c ≤ 9 := by omega
  by_cases c3 : c ≤ 3
  · have hk0 : pg_tk c = 0 := pg_tk0 c3
    refine pg_xt (F := -1) (S := -1) c9 hm htk hh r2 hA (by rw [if_pos (by omega)]) (by rw [if_neg (by omega)]) ?_
    refine pg_ytk h10 htk hh r2 hA (YL := fun t => nI (la t)) (by rw [if_pos (by omega)]) ?_
    refine pg_y81 h10 htk hh r2 (YF := fun t => nI (fi t)) (by rw [if_neg (by omega)]) ?_
    refine pg_y109 c9 htk hh r2 ?_
    exact ⟨rfl, pg_clo hlen hyr c10 (pg_R_tok R htk hh c9 ha (fun _ _ => rfl) (fun _ _ => rfl) (r3 tk) rfl rfl (fun z => absurd z (by omega)) (fun z => absurd z (by omega)))⟩
  by_cases c5 : c ≤ 5
  · have hk2 : pg_tk c = 2 := pg_tk2 (by omega)
    have hs := (r7 (h - 1) (by omega)).1
    refine pg_xt (F := xst (h - 2)) (S := xst (h - 1)) c9 hm htk hh r2 hA (by rw [if_neg (by omega), hk2]) (by rw [if_pos hk2, hk2]; exact congrArg xst (by omega)) ?_
    refine pg_ytk h10 htk hh r2 hA (YL := fun t => nI (pg_upN la tk (st (h - 1)) t)) (by rw [if_neg (by omega)]; exact (pg_upI la tk (st (h - 1))).symm) ?_
    refine pg_y81 h10 htk hh r2 (YF := fun t => nI (pg_upN fi tk (st (h - 2)) t)) (by rw [if_pos hk2]; exact (pg_upI fi tk (st (h - 2))).symm) ?_
    refine pg_y109 c9 htk hh r2 ?_
    exact ⟨rfl, pg_clo hlen hyr c10 (pg_R_tok R htk hh c9 ha (fun t e => pg_upN_n e) (fun t e => pg_upN_n e) (by rw [pg_upN_s]; omega) pg_upN_s pg_upN_s (fun _ => ⟨r7 (h - 2) (by omega), r7 (h - 1) (by omega)⟩) (fun z => absurd z (by omega)))⟩
  · have hk1 : pg_tk c = 1 := pg_tk1 (by omega)
    have hs := (r7 (h - 1) (by omega)).1
    refine pg_xt (F := xst (h - 1)) (S := -1) c9 hm htk hh r2 hA (by rw [if_neg (by omega), hk1]) (by rw [if_neg (by omega)]) ?_
    refine pg_ytk h10 htk hh r2 hA (YL := fun t => nI (pg_upN la tk (st (h - 1)) t)) (by rw [if_neg (by omega)]; exact (pg_upI la tk (st (h - 1))).symm) ?_
    refine pg_y81 h10 htk hh r2 (YF := fun t => nI (fi t)) (by rw [if_neg (by omega)]) ?_
    refine pg_y109 c9 htk hh r2 ?_
    exact ⟨rfl, pg_clo hlen hyr c10 (pg_R_tok R htk hh c9 ha (fun _ _ => rfl) (fun t e => pg_upN_n e) (by rw [pg_upN_s]; omega) rfl pg_upN_s (fun z => absurd z (by omega)) (fun _ => r7 (h - 1) (by omega)))⟩
theorem i_vc_clear {k : Nat} {u : SX} {v : SY} (I : i_Rel k u v) (hk : k + 3 ≤ 1536) : wpX_clear (fun u' => wpY_clear (fun v' => i_Rel (k + 3) u' v') v) u := by
  obtain ⟨tk, h, len, co, ar, fi, la, st, ru, tx, xc, xa, xf, xs, xst, xr, xo, yr, yo, hlen, hyr, R, rfl, rfl⟩ := I
  unfold wpX_clear
  dsimp only
  refine pg_xfg (fun s hs => ?_)
  dsimp only
  refine pg_ycl (fun s' hs' => ?_)
  exact ⟨0, 0, len, co, ar, fi, la, st, fun _ => 0, tx, xc, xa, xf, xs, xst, s, xo, s', yo, hlen, hs', pg_R0 R.2.2.1 R.2.2.2.1 (fun r hr => ⟨rfl, hs r hr⟩), rfl, rfl⟩
theorem i_vc_type {k : Nat} {u : SX} {v : SY} (I : i_Rel k u v) (hk : k + 3 ≤ 1536) (v1 : Int32) : wpX_type (fun r u' => wpY_type (fun r' v' => r' = r ∧ i_Rel (k + 3) u' v') v v1) u v1 := by
  obtain ⟨tk, h, len, co, ar, fi, la, st, ru, tx, xc, xa, xf, xs, xst, xr, xo, yr, yo, hlen, hyr, R, rfl, rfl⟩ := I
  by_cases hl : len < 20
  · have cl : (nI len).toNatClampNeg = len := nI_clamp (by omega)
    have il : vp_in (nI len) 20 := vp_in_nI hl (by decide)
    refine br_t (nI_lt (b := 20) hl (by decide)) ⟨il, nm_r (e' := upd tx len (v1 &&& 3)) (by rw [cl]) (nm_r (nI_1 len) ?_)⟩
    refine br_f (fun e => absurd ((nI_eq (b := 20) (by omega) (by decide)).mp e) (by omega)) ⟨il, nm_r (e' := upd tx len (v1 &&& 3)) (by rw [cl]) (nm_r (nI_1 len) ?_)⟩
    exact ⟨rfl, pg_mk (by omega) hyr R⟩
  · have e : len = 20 := by omega
    exact br_f (nI_nlt (b := 20) (by omega) (by omega)) (br_t (by rw [e]; rfl) ⟨rfl, pg_mk hlen hyr R⟩)
theorem i_vc_erase {k : Nat} {u : SX} {v : SY} (I : i_Rel k u v) (hk : k + 3 ≤ 1536) : wpX_erase (fun u' => wpY_erase (fun v' => i_Rel (k + 3) u' v') v) u := by
  obtain ⟨tk, h, len, co, ar, fi, la, st, ru, tx, xc, xa, xf, xs, xst, xr, xo, yr, yo, hlen, hyr, R, rfl, rfl⟩ := I
  exact pg_mk (k := k + 3) (len := 0) (by omega) hyr R
theorem i_vc_match {k : Nat} {u : SX} {v : SY} (I : i_Rel k u v) (hk : k + 3 ≤ 1536) (v1 : Int32) (v2 : Int32) : wpX_match (fun r u' => wpY_match (fun r' v' => r' = r ∧ i_Rel (k + 3) u' v') v v1 v2) u v1 v2 := by
  obtain ⟨tk, h, len, co, ar, fi, la, st, ru, tx, xc, xa, xf, xs, xst, xr, xo, yr, yo, hlen, hyr, R, rfl, rfl⟩ := I
  have hrel : i_Rel (k + 3) (nI len, nI (pg_g co tk), nI tk, nI h, tx, xc, xa, xf, xs, xst, xr, xo) (nI tk, nI h, nI len, (fun t => nI (co t)), (fun t => nI (ar t)), (fun t => nI (fi t)), (fun t => nI (la t)), (fun t => nI (st t)), yr, tx, yo) := pg_mk hlen hyr R
  have V := pg_YV_of R hlen hyr
  have r1 := R.1
  have r8 := R.2.2.2.2.2.2.2
  by_cases hx : v1 < 0 ∨ nI 4 ≤ v1
  · unfold wpX_match
    dsimp only
    refine pg_xir0 hx (br_t rfl ?_)
    unfold wpY_match
    dsimp only
    exact pg_yb1 hx (br_f (by decide) ⟨rfl, hrel⟩)
  obtain ⟨r, hr, rfl⟩ : ∃ r, r < 4 ∧ v1 = nI r := by
    rcases pk_ix v1 (n := 4) (by omega) with a | a | a
    · exact absurd (Or.inl a) hx
    · exact absurd (Or.inr a) hx
    · exact a
  have cr : (nI r).toNatClampNeg = r := nI_clamp (by omega)
  unfold wpX_match
  dsimp only
  refine pg_xir1 hr (br_f (by decide) ?_)
  by_cases p0 : v2 < 0
  · refine br_t p0 ?_
    unfold wpY_match
    dsimp only
    exact pg_yb0 hr (br_t rfl (br_t p0 ⟨rfl, hrel⟩))
  obtain ⟨p, hp, rfl⟩ := nI_of p0
  by_cases hpl : p ≤ len
  · refine br_f p0 (br_t (nI_le hpl (by omega)) ?_)
    refine pg_xfill R hlen (fun T o1 I1 F1 R1 => ?_)
    dsimp only
    rw [cr]
    refine ⟨vp_in_nI hr (by decide), pg_xan r1 R1 (r8 r hr) (by omega) ?_⟩
    unfold wpY_match
    dsimp only
    refine pg_yb0 hr (br_t rfl (br_f p0 (br_t (nI_le hpl (by omega)) ?_)))
    refine pg_ywk V (fun T' o2 I2 F2 R2 => ?_)
    have e : T' = T := funext fun t => funext fun q => pg_uniq I2 F2 I1 F1 t q
    subst e
    refine pg_yc V R2 hr (by omega) ?_
    exact ⟨rfl, pg_mk hlen hyr R⟩
  · refine br_f p0 (br_f (nI_ge (by omega) (by omega)) ?_)
    unfold wpY_match
    dsimp only
    exact pg_yb0 hr (br_t rfl (br_f p0 (br_f (nI_ge (by omega) (by omega)) ⟨rfl, hrel⟩)))
theorem i_vc_matches {k : Nat} {u : SX} {v : SY} (I : i_Rel k u v) (hk : k + 3 ≤ 1536) (v1 : Int32) : wpX_matches (fun r u' => wpY_matches (fun r' v' => r' = r ∧ i_Rel (k + 3) u' v') v v1) u v1 := by
  obtain ⟨tk, h, len, co, ar, fi, la, st, ru, tx, xc, xa, xf, xs, xst, xr, xo, yr, yo, hlen, hyr, R, rfl, rfl⟩ := I
  have hrel : i_Rel (k + 3) (nI len, nI (pg_g co tk), nI tk, nI h, tx, xc, xa, xf, xs, xst, xr, xo) (nI tk, nI h, nI len, (fun t => nI (co t)), (fun t => nI (ar t)), (fun t => nI (fi t)), (fun t => nI (la t)), (fun t => nI (st t)), yr, tx, yo) := pg_mk hlen hyr R
  have V := pg_YV_of R hlen hyr
  have r1 := R.1
  have r8 := R.2.2.2.2.2.2.2
  by_cases hx : v1 < 0 ∨ nI 4 ≤ v1
  · unfold wpX_matches
    dsimp only
    refine pg_xir0 hx (br_t rfl ?_)
    unfold wpY_matches
    dsimp only
    exact pg_yb1 hx (br_f (by decide) ⟨rfl, hrel⟩)
  obtain ⟨r, hr, rfl⟩ : ∃ r, r < 4 ∧ v1 = nI r := by
    rcases pk_ix v1 (n := 4) (by omega) with a | a | a
    · exact absurd (Or.inl a) hx
    · exact absurd (Or.inr a) hx
    · exact a
  have cr : (nI r).toNatClampNeg = r := nI_clamp (by omega)
  unfold wpX_matches
  dsimp only
  refine pg_xir1 hr (br_f (by decide) ?_)
  refine pg_xfill R hlen (fun T o1 I1 F1 R1 => ?_)
  refine pg_xm R hlen R1 I1.1 hr ?_
  unfold wpY_matches
  dsimp only
  refine pg_yb0 hr (br_t rfl ?_)
  refine pg_ywk V (fun T' o2 I2 F2 R2 => ?_)
  have e : T' = T := funext fun t => funext fun q => pg_uniq I2 F2 I1 F1 t q
  subst e
  refine pg_ym V R2 I2.1 hr ?_
  exact ⟨rfl, pg_mk hlen hyr R⟩
theorem i_vc_find {k : Nat} {u : SX} {v : SY} (I : i_Rel k u v) (hk : k + 3 ≤ 1536) (v1 : Int32) (v2 : Int32) : wpX_find (fun r u' => wpY_find (fun r' v' => r' = r ∧ i_Rel (k + 3) u' v') v v1 v2) u v1 v2 := by
  obtain ⟨tk, h, len, co, ar, fi, la, st, ru, tx, xc, xa, xf, xs, xst, xr, xo, yr, yo, hlen, hyr, R, rfl, rfl⟩ := I
  have hrel : i_Rel (k + 3) (nI len, nI (pg_g co tk), nI tk, nI h, tx, xc, xa, xf, xs, xst, xr, xo) (nI tk, nI h, nI len, (fun t => nI (co t)), (fun t => nI (ar t)), (fun t => nI (fi t)), (fun t => nI (la t)), (fun t => nI (st t)), yr, tx, yo) := pg_mk hlen hyr R
  have V := pg_YV_of R hlen hyr
  have r1 := R.1
  have r8 := R.2.2.2.2.2.2.2
  by_cases hx : v1 < 0 ∨ nI 4 ≤ v1
  · unfold wpX_find
    dsimp only
    refine pg_xir0 hx (br_t rfl ?_)
    unfold wpY_find
    dsimp only
    exact pg_yb1 hx (br_f (by decide) ⟨rfl, hrel⟩)
  obtain ⟨r, hr, rfl⟩ : ∃ r, r < 4 ∧ v1 = nI r := by
    rcases pk_ix v1 (n := 4) (by omega) with a | a | a
    · exact absurd (Or.inl a) hx
    · exact absurd (Or.inr a) hx
    · exact a
  have cr : (nI r).toNatClampNeg = r := nI_clamp (by omega)
  unfold wpX_find
  dsimp only
  refine pg_xir1 hr (br_f (by decide) ?_)
  refine pg_xfill R hlen (fun T o1 I1 F1 R1 => ?_)
  refine pg_xf R hlen R1 I1.1 hr v2 ?_
  unfold wpY_find
  dsimp only
  refine pg_yb0 hr (br_t rfl ?_)
  refine pg_ywk V (fun T' o2 I2 F2 R2 => ?_)
  have e : T' = T := funext fun t => funext fun q => pg_uniq I2 F2 I1 F1 t q
  subst e
  refine pg_yfi V R2 I2.1 hr v2 ?_
  exact ⟨rfl, pg_mk hlen hyr R⟩
theorem i_vc_whole {k : Nat} {u : SX} {v : SY} (I : i_Rel k u v) (hk : k + 3 ≤ 1536) (v1 : Int32) : wpX_whole (fun r u' => wpY_whole (fun r' v' => r' = r ∧ i_Rel (k + 3) u' v') v v1) u v1 := by
  obtain ⟨tk, h, len, co, ar, fi, la, st, ru, tx, xc, xa, xf, xs, xst, xr, xo, yr, yo, hlen, hyr, R, rfl, rfl⟩ := I
  have hrel : i_Rel (k + 3) (nI len, nI (pg_g co tk), nI tk, nI h, tx, xc, xa, xf, xs, xst, xr, xo) (nI tk, nI h, nI len, (fun t => nI (co t)), (fun t => nI (ar t)), (fun t => nI (fi t)), (fun t => nI (la t)), (fun t => nI (st t)), yr, tx, yo) := pg_mk hlen hyr R
  have V := pg_YV_of R hlen hyr
  have r1 := R.1
  have r8 := R.2.2.2.2.2.2.2
  by_cases hx : v1 < 0 ∨ nI 4 ≤ v1
  · unfold wpX_whole
    dsimp only
    refine pg_xir0 hx (br_t rfl ?_)
    unfold wpY_whole
    dsimp only
    exact pg_yb1 hx (br_f (by decide) ⟨rfl, hrel⟩)
  obtain ⟨r, hr, rfl⟩ : ∃ r, r < 4 ∧ v1 = nI r := by
    rcases pk_ix v1 (n := 4) (by omega) with a | a | a
    · exact absurd (Or.inl a) hx
    · exact absurd (Or.inr a) hx
    · exact a
  have cr : (nI r).toNatClampNeg = r := nI_clamp (by omega)
  unfold wpX_whole
  dsimp only
  refine pg_xir1 hr (br_f (by decide) ?_)
  refine pg_xfill R hlen (fun T o1 I1 F1 R1 => ?_)
  dsimp only
  rw [cr]
  refine ⟨vp_in_nI hr (by decide), pg_xan (p := 0) r1 R1 (r8 r hr) (by omega) ?_⟩
  by_cases z : pg_ov (pg_an ru T r 0) = nI len
  · refine br_t z ?_
    unfold wpY_whole
    dsimp only
    refine pg_yb0 hr (br_t rfl ?_)
    refine pg_ywk V (fun T' o2 I2 F2 R2 => ?_)
    have e : T' = T := funext fun t => funext fun q => pg_uniq I2 F2 I1 F1 t q
    subst e
    refine pg_yc (p := 0) V R2 hr (by omega) ?_
    exact br_t z ⟨rfl, pg_mk hlen hyr R⟩
  · refine br_f z ?_
    unfold wpY_whole
    dsimp only
    refine pg_yb0 hr (br_t rfl ?_)
    refine pg_ywk V (fun T' o2 I2 F2 R2 => ?_)
    have e : T' = T := funext fun t => funext fun q => pg_uniq I2 F2 I1 F1 t q
    subst e
    refine pg_yc (p := 0) V R2 hr (by omega) ?_
    exact br_f z ⟨rfl, pg_mk hlen hyr R⟩
theorem i_vc_stuck {k : Nat} {u : SX} {v : SY} (I : i_Rel k u v) (hk : k + 3 ≤ 1536) (v1 : Int32) : wpX_stuck (fun r u' => wpY_stuck (fun r' v' => r' = r ∧ i_Rel (k + 3) u' v') v v1) u v1 := by
  obtain ⟨tk, h, len, co, ar, fi, la, st, ru, tx, xc, xa, xf, xs, xst, xr, xo, yr, yo, hlen, hyr, R, rfl, rfl⟩ := I
  have hrel : i_Rel (k + 3) (nI len, nI (pg_g co tk), nI tk, nI h, tx, xc, xa, xf, xs, xst, xr, xo) (nI tk, nI h, nI len, (fun t => nI (co t)), (fun t => nI (ar t)), (fun t => nI (fi t)), (fun t => nI (la t)), (fun t => nI (st t)), yr, tx, yo) := pg_mk hlen hyr R
  have V := pg_YV_of R hlen hyr
  have r1 := R.1
  have r8 := R.2.2.2.2.2.2.2
  by_cases hx : v1 < 0 ∨ nI 4 ≤ v1
  · unfold wpX_stuck
    dsimp only
    refine pg_xir0 hx (br_t rfl ?_)
    unfold wpY_stuck
    dsimp only
    exact pg_yb1 hx (br_f (by decide) ⟨rfl, hrel⟩)
  obtain ⟨r, hr, rfl⟩ : ∃ r, r < 4 ∧ v1 = nI r := by
    rcases pk_ix v1 (n := 4) (by omega) with a | a | a
    · exact absurd (Or.inl a) hx
    · exact absurd (Or.inr a) hx
    · exact a
  have cr : (nI r).toNatClampNeg = r := nI_clamp (by omega)
  unfold wpX_stuck
  dsimp only
  refine pg_xir1 hr (br_f (by decide) ?_)
  refine pg_xfill R hlen (fun T o1 I1 F1 R1 => ?_)
  refine pg_xs R hlen R1 I1.1 hr ?_
  unfold wpY_stuck
  dsimp only
  refine pg_yb0 hr (br_t rfl ?_)
  refine pg_ywk V (fun T' o2 I2 F2 R2 => ?_)
  have e : T' = T := funext fun t => funext fun q => pg_uniq I2 F2 I1 F1 t q
  subst e
  refine pg_ys V R2 I2.1 hr ?_
  exact ⟨rfl, pg_mk hlen hyr R⟩
