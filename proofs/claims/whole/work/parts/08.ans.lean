/-! the answers out of a table; rules that are none -/
section
theorem pg_xir1 {post : Int32 → Prop} {r : Nat} (hr : r < 4) (k : post 1) : wpX_isRule post (nI r) := br_f (nI_pos (by omega)) (br_f (nI_ge (b := 4) hr (by decide)) k)
theorem pg_xir0 {post : Int32 → Prop} {x : Int32} (hx : x < 0 ∨ nI 4 ≤ x) (k : post 0) : wpX_isRule post x := by
  by_cases h0 : x < 0
  · exact br_t h0 k
  · exact br_f h0 (br_t (hx.resolve_left h0) k)
theorem pg_yb0 {post : Int32 → Prop} {r : Nat} (hr : r < 4) (k : post 0) : wpY_bad post (nI r) := br_f (nI_pos (by omega)) (br_t (nI_le (b := 3) (by omega) (by decide)) k)
theorem pg_yb1 {post : Int32 → Prop} {x : Int32} (hx : x < 0 ∨ nI 4 ≤ x) (k : post 1) : wpY_bad post x := by
  by_cases h0 : x < 0
  · exact br_t h0 k
  · obtain ⟨j, hj, rfl⟩ := nI_of h0
    have h4 : 4 ≤ j := (nI_leI (by decide) hj).mp (hx.resolve_left h0)
    exact br_f h0 (br_f (nI_ge (a := 3) (by omega) hj) k)
variable {tk h len : Nat} {co ar fi la st ru : Nat → Nat} {tx xc xa xf xs xst xr yr o : Nat → Int32} {T : Nat → Nat → Nat}
theorem pg_an_le (hB : pg_B tk len T) (r p : Nat) : pg_an ru T r p ≤ len + 2 := by
  unfold pg_an
  by_cases z : ru r = 0
  · rw [if_pos z]; omega
  · rw [if_neg z]; exact pg_B_le hB _ _
/-- what is counted -/
def pg_qm (ru : Nat → Nat) (T : Nat → Nat → Nat) (r p : Nat) : Nat := if 2 ≤ pg_an ru T r p then 1 else 0
def pg_qs (ru : Nat → Nat) (T : Nat → Nat → Nat) (r p : Nat) : Nat := if pg_an ru T r p = 0 then 1 else 0
theorem pg_xm {post : Int32 → SX → Prop} (Q : pg_R tk h co ar fi la st ru xc xa xf xs xst xr) (hlen : len ≤ 20) (R : pg_RX tk co T o) (hB : pg_B tk len T) {r : Nat} (hr : r < 4) (k : post (nI (pg_cn (pg_qm ru T r) (len + 1))) (nI len, nI (pg_g co tk), nI tk, nI h, tx, xc, xa, xf, xs, xst, xr, o)) : ∃ n, wX_matches_18 post (nI r) (nI len) (nI (pg_g co tk)) (nI tk) (nI h) tx xc xa xf xs xst xr o n 0 0 := by
  obtain ⟨r1, r2, r3, r4, r5, r6, r7, r8⟩ := Q
  have cr : (nI r).toNatClampNeg = r := nI_clamp (by omega)
  refine ⟨len + 2, pg_cnt (K := fun c => post c (nI len, nI (pg_g co tk), nI tk, nI h, tx, xc, xa, xf, xs, xst, xr, o)) (W := fun n i c => wX_matches_18 post (nI r) (nI len) (nI (pg_g co tk)) (nI tk) (nI h) tx xc xa xf xs xst xr o n c (nI i)) (q := pg_qm ru T r) (len := len) ?_ ?_ k (len + 2) 0 (by omega) (by omega)⟩
  · intro n c hK
    exact br_t (nI_lt (by omega) (by omega)) hK
  · intro n i c hi h0 h1
    have b := pg_an_le (ru := ru) hB r i
    refine br_f (nI_nlt hi (by omega)) ⟨vp_in_nI hr (by decide), ?_⟩
    rw [cr]
    refine pg_xan r1 R (r8 r hr) (by omega) ?_
    by_cases z : 2 ≤ pg_an ru T r i
    · exact br_f (fun q => by have := (pg_ov_neg _ (by omega)).mp q; omega) (nm_r (nI_1 c) (nm_r (nI_1 i) (h1 (by unfold pg_qm; rw [if_pos z]; omega))))
    · exact br_t ((pg_ov_neg _ (by omega)).mpr (by omega)) (nm_r (nI_1 i) (h0 (by unfold pg_qm; rw [if_neg z])))
theorem pg_xs {post : Int32 → SX → Prop} (Q : pg_R tk h co ar fi la st ru xc xa xf xs xst xr) (hlen : len ≤ 20) (R : pg_RX tk co T o) (hB : pg_B tk len T) {r : Nat} (hr : r < 4) (k : post (nI (pg_cn (pg_qs ru T r) (len + 1))) (nI len, nI (pg_g co tk), nI tk, nI h, tx, xc, xa, xf, xs, xst, xr, o)) : ∃ n, wX_stuck_18 post (nI r) (nI len) (nI (pg_g co tk)) (nI tk) (nI h) tx xc xa xf xs xst xr o n 0 0 := by
  obtain ⟨r1, r2, r3, r4, r5, r6, r7, r8⟩ := Q
  have cr : (nI r).toNatClampNeg = r := nI_clamp (by omega)
  refine ⟨len + 2, pg_cnt (K := fun c => post c (nI len, nI (pg_g co tk), nI tk, nI h, tx, xc, xa, xf, xs, xst, xr, o)) (W := fun n i c => wX_stuck_18 post (nI r) (nI len) (nI (pg_g co tk)) (nI tk) (nI h) tx xc xa xf xs xst xr o n c (nI i)) (q := pg_qs ru T r) (len := len) ?_ ?_ k (len + 2) 0 (by omega) (by omega)⟩
  · intro n c hK
    exact br_t (nI_lt (by omega) (by omega)) hK
  · intro n i c hi h0 h1
    have b := pg_an_le (ru := ru) hB r i
    refine br_f (nI_nlt hi (by omega)) ⟨vp_in_nI hr (by decide), ?_⟩
    rw [cr]
    refine pg_xan r1 R (r8 r hr) (by omega) ?_
    by_cases z : pg_an ru T r i = 0
    · exact br_t ((pg_ov_st _ (by omega)).mpr z) (nm_r (nI_1 c) (nm_r (nI_1 i) (h1 (by unfold pg_qs; rw [if_pos z]; omega))))
    · exact br_f (fun q => z ((pg_ov_st _ (by omega)).mp q)) (nm_r (nI_1 i) (h0 (by unfold pg_qs; rw [if_neg z])))
theorem pg_xf {post : Int32 → SX → Prop} (Q : pg_R tk h co ar fi la st ru xc xa xf xs xst xr) (hlen : len ≤ 20) (R : pg_RX tk co T o) (hB : pg_B tk len T) {r : Nat} (hr : r < 4) (fr : Int32) (k : post (pg_fd (pg_an ru T r) fr (len + 1) 0) (nI len, nI (pg_g co tk), nI tk, nI h, tx, xc, xa, xf, xs, xst, xr, o)) : ∃ n, wX_find_16 post (nI r) fr (nI len) (nI (pg_g co tk)) (nI tk) (nI h) tx xc xa xf xs xst xr o n 0 := by
  obtain ⟨r1, r2, r3, r4, r5, r6, r7, r8⟩ := Q
  have cr : (nI r).toNatClampNeg = r := nI_clamp (by omega)
  refine ⟨len + 2, pg_fnd (K := fun c => post c (nI len, nI (pg_g co tk), nI tk, nI h, tx, xc, xa, xf, xs, xst, xr, o)) (W := fun n i => wX_find_16 post (nI r) fr (nI len) (nI (pg_g co tk)) (nI tk) (nI h) tx xc xa xf xs xst xr o n (nI i)) (f := pg_an ru T r) (fr := fr) (len := len) ?_ ?_ (len + 1) 0 (len + 2) (by omega) (by omega) k⟩
  · intro n hK
    exact br_t (nI_lt (by omega) (by omega)) hK
  · intro n i hi h1 h2
    have b := pg_an_le (ru := ru) hB r i
    refine br_f (nI_nlt hi (by omega)) ?_
    by_cases z : nI i < fr
    · exact br_t z (nm_r (nI_1 i) (h2 (fun c => absurd z (Int32.not_lt.mpr c.1))))
    · refine br_f z ⟨vp_in_nI hr (by decide), ?_⟩
      rw [cr]
      refine pg_xan r1 R (r8 r hr) (by omega) ?_
      by_cases y : 2 ≤ pg_an ru T r i
      · exact br_f (fun q => by have := (pg_ov_neg _ (by omega)).mp q; omega) (h1 (Int32.not_lt.mp z) y)
      · exact br_t ((pg_ov_neg _ (by omega)).mpr (by omega)) (nm_r (nI_1 i) (h2 (fun c => y c.2)))
theorem pg_ym {post : Int32 → SY → Prop} (V : pg_YV tk len co ar fi la ru yr) (R : pg_RY T o) (hB : pg_B tk len T) {r : Nat} (hr : r < 4) (k : post (nI (pg_cn (pg_qm ru T r) (len + 1))) (nI tk, nI h, nI len, (fun t => nI (co t)), (fun t => nI (ar t)), (fun t => nI (fi t)), (fun t => nI (la t)), (fun t => nI (st t)), yr, tx, o)) : ∃ n, wY_matches_18 post (nI r) (nI tk) (nI h) (nI len) (fun t => nI (co t)) (fun t => nI (ar t)) (fun t => nI (fi t)) (fun t => nI (la t)) (fun t => nI (st t)) yr tx o n 0 0 := by
  have hlen := V.2.1
  refine ⟨len + 2, pg_cnt (K := fun c => post c (nI tk, nI h, nI len, (fun t => nI (co t)), (fun t => nI (ar t)), (fun t => nI (fi t)), (fun t => nI (la t)), (fun t => nI (st t)), yr, tx, o)) (W := fun n i c => wY_matches_18 post (nI r) (nI tk) (nI h) (nI len) (fun t => nI (co t)) (fun t => nI (ar t)) (fun t => nI (fi t)) (fun t => nI (la t)) (fun t => nI (st t)) yr tx o n c (nI i)) (q := pg_qm ru T r) (len := len) ?_ ?_ k (len + 2) 0 (by omega) (by omega)⟩
  · intro n c hK
    exact br_t (nI_lt (by omega) (by omega)) hK
  · intro n i c hi h0 h1
    have b := pg_an_le (ru := ru) hB r i
    refine br_f (nI_nlt hi (by omega)) ?_
    refine pg_yc V R hr (by omega) ?_
    by_cases z : 2 ≤ pg_an ru T r i
    · exact br_f (fun q => by have := (pg_ov_neg _ (by omega)).mp q; omega) (nm_r (nI_1 c) (nm_r (nI_1 i) (h1 (by unfold pg_qm; rw [if_pos z]; omega))))
    · exact br_t ((pg_ov_neg _ (by omega)).mpr (by omega)) (nm_r (nI_1 i) (h0 (by unfold pg_qm; rw [if_neg z])))
theorem pg_ys {post : Int32 → SY → Prop} (V : pg_YV tk len co ar fi la ru yr) (R : pg_RY T o) (hB : pg_B tk len T) {r : Nat} (hr : r < 4) (k : post (nI (pg_cn (pg_qs ru T r) (len + 1))) (nI tk, nI h, nI len, (fun t => nI (co t)), (fun t => nI (ar t)), (fun t => nI (fi t)), (fun t => nI (la t)), (fun t => nI (st t)), yr, tx, o)) : ∃ n, wY_stuck_18 post (nI r) (nI tk) (nI h) (nI len) (fun t => nI (co t)) (fun t => nI (ar t)) (fun t => nI (fi t)) (fun t => nI (la t)) (fun t => nI (st t)) yr tx o n 0 0 := by
  have hlen := V.2.1
  refine ⟨len + 2, pg_cnt (K := fun c => post c (nI tk, nI h, nI len, (fun t => nI (co t)), (fun t => nI (ar t)), (fun t => nI (fi t)), (fun t => nI (la t)), (fun t => nI (st t)), yr, tx, o)) (W := fun n i c => wY_stuck_18 post (nI r) (nI tk) (nI h) (nI len) (fun t => nI (co t)) (fun t => nI (ar t)) (fun t => nI (fi t)) (fun t => nI (la t)) (fun t => nI (st t)) yr tx o n c (nI i)) (q := pg_qs ru T r) (len := len) ?_ ?_ k (len + 2) 0 (by omega) (by omega)⟩
  · intro n c hK
    exact br_t (nI_lt (by omega) (by omega)) hK
  · intro n i c hi h0 h1
    have b := pg_an_le (ru := ru) hB r i
    refine br_f (nI_nlt hi (by omega)) ?_
    refine pg_yc V R hr (by omega) ?_
    by_cases z : pg_an ru T r i = 0
    · exact br_t ((pg_ov_st _ (by omega)).mpr z) (nm_r (nI_1 c) (nm_r (nI_1 i) (h1 (by unfold pg_qs; rw [if_pos z]; omega))))
    · exact br_f (fun q => z ((pg_ov_st _ (by omega)).mp q)) (nm_r (nI_1 i) (h0 (by unfold pg_qs; rw [if_neg z])))
theorem pg_yfi {post : Int32 → Prop} (V : pg_YV tk len co ar fi la ru yr) (R : pg_RY T o) (hB : pg_B tk len T) {r : Nat} (hr : r < 4) (fr : Int32) (k : post (pg_fd (pg_an ru T r) fr (len + 1) 0)) : wpY_first post (nI tk, nI h, nI len, (fun t => nI (co t)), (fun t => nI (ar t)), (fun t => nI (fi t)), (fun t => nI (la t)), (fun t => nI (st t)), yr, tx, o) (nI r) fr := by
  have hlen := V.2.1
  refine ⟨len + 2, pg_fnd (K := post) (W := fun n i => wY_first_2 post (nI r) fr (nI tk) (nI h) (nI len) (fun t => nI (co t)) (fun t => nI (ar t)) (fun t => nI (fi t)) (fun t => nI (la t)) (fun t => nI (st t)) yr tx o n (nI i)) (f := pg_an ru T r) (fr := fr) (len := len) ?_ ?_ (len + 1) 0 (len + 2) (by omega) (by omega) k⟩
  · intro n hK
    exact br_t (nI_lt (by omega) (by omega)) hK
  · intro n i hi h1 h2
    have b := pg_an_le (ru := ru) hB r i
    refine br_f (nI_nlt hi (by omega)) ?_
    by_cases z : nI i < fr
    · exact br_t z (nm_r (nI_1 i) (h2 (fun c => absurd z (Int32.not_lt.mpr c.1))))
    · refine br_f z ?_
      refine pg_yc V R hr (by omega) ?_
      by_cases y : 2 ≤ pg_an ru T r i
      · exact br_f (fun q => by have := (pg_ov_neg _ (by omega)).mp q; omega) (h1 (Int32.not_lt.mp z) y)
      · exact br_t ((pg_ov_neg _ (by omega)).mpr (by omega)) (nm_r (nI_1 i) (h2 (fun c => y c.2)))
end
section
/-! tokens -/
def pg_tk (c : Nat) : Nat := if c ≤ 3 then 0 else if c ≤ 5 then 2 else 1
theorem pg_tk0 {c : Nat} (h : c ≤ 3) : pg_tk c = 0 := if_pos h
theorem pg_tk2 {c : Nat} (h : c = 4 ∨ c = 5) : pg_tk c = 2 := by
  unfold pg_tk
  rw [if_neg (by omega), if_pos (by omega)]
theorem pg_tk1 {c : Nat} (h : 6 ≤ c) : pg_tk c = 1 := by
  unfold pg_tk
  rw [if_neg (by omega), if_neg (by omega)]
theorem pg_tk_le (c : Nat) : pg_tk c ≤ 2 := by
  unfold pg_tk
  split
  · omega
  · split <;> omega
theorem pg_xp {post : Int32 → Prop} {c : Nat} (hc : c ≤ 10) (k : post (nI (pg_tk c))) : wpX_partsOf post (nI c) := by
  by_cases c3 : c ≤ 3
  · rw [pg_tk0 c3] at k
    exact br_f (nI_nlt (a := 3) c3 (by decide)) k
  · refine br_t (nI_lt (a := 3) (by omega) (by omega)) ?_
    by_cases c4 : c = 4
    · rw [pg_tk2 (Or.inl c4)] at k
      rw [c4]
      exact br_t rfl k
    · refine br_f (fun q => c4 ((nI_eq (b := 4) (by omega) (by decide)).mp q)) ?_
      by_cases c5 : c = 5
      · rw [pg_tk2 (Or.inr c5)] at k
        rw [c5]
        exact br_t rfl k
      · rw [pg_tk1 (by omega)] at k
        exact br_f (fun q => c5 ((nI_eq (b := 5) (by omega) (by decide)).mp q)) k
theorem pg_yp {post : Int32 → Prop} {c : Nat} (hc : c ≤ 10) (k : post (nI (pg_tk c))) : wpY_takes post (nI c) := by
  by_cases c3 : c ≤ 3
  · rw [pg_tk0 c3] at k
    exact br_f (nI_nlt (a := 3) c3 (by decide)) k
  · refine br_t (nI_lt (a := 3) (by omega) (by omega)) ?_
    by_cases c5 : c ≤ 5
    · rw [pg_tk2 (by omega)] at k
      exact br_f (nI_nlt (a := 5) c5 (by decide)) k
    · rw [pg_tk1 (by omega)] at k
      exact br_t (nI_lt (a := 5) (by omega) (by omega)) k
variable {L TK : Int32} {m q c a tk h : Nat} {tx xc xa xf xs xst xr o : Nat → Int32}
theorem pg_xme {post : SX → Prop} {F S : Int32} (hm : m < 40) (hq : q < 40) (hq2 : pg_tk c = 2 → q + 1 < 40) (hc : c ≤ 10) (hF : F = if pg_tk c < 1 then -1 else xst q) (hS : S = if pg_tk c = 2 then xst (q + 1) else -1)
    (k : post (L, nI (m + 1), TK, nI (q + 1), tx, upd xc m (nI c), upd xa m (nI a), upd xf m F, upd xs m S, upd xst q (nI m), xr, o)) :
    wpX_makeExpression post (L, nI m, TK, nI q, tx, xc, xa, xf, xs, xst, xr, o) (nI c) (nI a) := by
  have cm : (nI m).toNatClampNeg = m := nI_clamp (by omega)
  have cq : (nI q).toNatClampNeg = q := nI_clamp (by omega)
  have im : vp_in (nI m) 40 := vp_in_nI hm (by decide)
  have iq : vp_in (nI q) 40 := vp_in_nI hq (by decide)
  have hk := pg_tk_le c
  have h80 : wX_makeExpression_80 post S (nI m) L (nI m) TK (nI q) tx (upd xc m (nI c)) (upd xa m (nI a)) (upd xf m F) xs xst xr o :=
    ⟨im, nm_r (e' := upd xs m S) (by rw [cm]) ⟨iq, nm_r (e' := upd xst q (nI m)) (by rw [cq]) (nm_r (nI_1 q) (nm_r (nI_1 m) k))⟩⟩
  have h51 : wX_makeExpression_51 post (nI (pg_tk c)) F (nI m) L (nI m) TK (nI q) tx (upd xc m (nI c)) (upd xa m (nI a)) xf xs xst xr o := by
    refine ⟨im, nm_r (e' := upd xf m F) (by rw [cm]) ?_⟩
    by_cases d : pg_tk c = 2
    · rw [if_pos d] at hS
      rw [hS] at h80
      rw [nI_1, nI_clamp (show q + 1 < 2 ^ 31 by omega)]
      exact br_t (by rw [d]; rfl) ⟨vp_in_nI (hq2 d) (by decide), h80⟩
    · rw [if_neg d] at hS
      rw [hS] at h80
      exact br_f (fun e => d ((nI_eq (b := 2) (by omega) (by decide)).mp e)) h80
  unfold wpX_makeExpression
  dsimp only
  refine pg_xp hc ?_
  refine ⟨im, nm_r (e' := upd xc m (nI c)) (by rw [cm]) ⟨im, nm_r (e' := upd xa m (nI a)) (by rw [cm]) ?_⟩⟩
  by_cases d : pg_tk c < 1
  · rw [if_pos d] at hF
    rw [hF] at h51
    exact br_t (nI_lt (b := 1) d (by decide)) h51
  · rw [if_neg d] at hF
    rw [hF] at h51
    rw [cq]
    exact br_f (nI_nlt (b := 1) (by omega) (by omega)) ⟨iq, h51⟩
theorem pg_xt {post : Int32 → SX → Prop} {A F S : Int32} (hc : c ≤ 9) (hm : m < 40) (htk : tk < 40) (hh : pg_tk c ≤ h) (hht : h ≤ tk) (hA : A &&& 3 = nI a) (hF : F = if pg_tk c < 1 then -1 else xst (h - pg_tk c)) (hS : S = if pg_tk c = 2 then xst (h - pg_tk c + 1) else -1)
    (k : post (nI (h - pg_tk c + 1)) (L, nI (m + 1), nI (tk + 1), nI (h - pg_tk c + 1), tx, upd xc m (nI c), upd xa m (nI a), upd xf m F, upd xs m S, upd xst (h - pg_tk c) (nI m), xr, o)) :
    wpX_token post (L, nI m, nI tk, nI h, tx, xc, xa, xf, xs, xst, xr, o) (nI c) A := by
  unfold wpX_token
  dsimp only
  rw [hA]
  refine br_f (nI_pos (by omega)) (br_f (nI_nlt (a := 10) (by omega) (by decide)) (br_t (nI_lt (b := 40) htk (by decide)) ?_))
  refine pg_xp (by omega) ?_
  refine br_t (nI_le hh (by omega)) (nm_r (nI_1 tk) (nm_r (pk_sub hh) (br_f (fun e => absurd ((nI_eq (b := 10) (by omega) (by decide)).mp e) (by omega)) ?_)))
  exact pg_xme hm (by omega) (fun e => by omega) (by omega) hF hS k
theorem pg_xd {post : Int32 → SX → Prop} {A : Int32} {M : Int32} (htk : tk < 40) (hh : 1 ≤ h) (hht : h ≤ tk) (hA : A &&& 3 = nI a) (ha : a < 4)
    (k : post (nI (h - 1)) (L, M, nI (tk + 1), nI (h - 1), tx, xc, xa, xf, xs, xst, upd xr a (xst (h - 1)), o)) :
    wpX_token post (L, M, nI tk, nI h, tx, xc, xa, xf, xs, xst, xr, o) (nI 10) A := by
  have ch : (nI (h - 1)).toNatClampNeg = h - 1 := nI_clamp (by omega)
  have ca : (nI a).toNatClampNeg = a := nI_clamp (by omega)
  unfold wpX_token
  dsimp only
  rw [hA]
  refine br_f (by decide) (br_f (by decide) (br_t (nI_lt (b := 40) htk (by decide)) ?_))
  refine pg_xp (by omega) ?_
  refine br_t (nI_le (a := 1) hh (by omega)) (nm_r (nI_1 tk) (nm_r (pk_sub (b := 1) hh) (br_t (by decide) ⟨vp_in_nI (by omega) (by decide), vp_in_nI ha (by decide), nm_r (e' := upd xr a (xst (h - 1))) ?_ k⟩)))
  rw [ch, ca]
end
