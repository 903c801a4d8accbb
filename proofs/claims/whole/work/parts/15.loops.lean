/-! LOOPs under way: turnLoops against again, and a bound on the steps -/
section
variable {eN sN oL fC oC : Int32} {wt cK cO cR : Nat → Int32} {rg : Nat → Int64} {oP oX oY oZ lS lT lL : Nat → Int32} {va : Nat → Int64} {iu sz ke : Nat → Int32} {en : Nat → Int64} {fd : Nat → Int32} {ou : Nat → Int64} {yE yN yC dp tp fl lo : Int32} {kd ex ey yW yP yX yY yZ vs vn zy yK es eu tk sn : Nat → Int32} {yO : Nat → Int64} {wk sg so nu la tu lz : Nat → Int32}
theorem xt_nil {post : Int32 → SX → Prop} {n : Nat} {x1 : Int32} (h : post x1 (eN, sN, nI 0, fC, oC, wt, cK, cO, cR, rg, oP, oX, oY, oZ, lS, lT, lL, va, iu, sz, ke, en, fd, ou)) : wX_turnLoops_7 post x1 eN sN fC oC wt cK cO cR rg oP oX oY oZ lS lT lL va iu sz ke en fd ou (n + 1) (nI 0 - 1) (nI 0) := br_t (by decide) h
theorem xt_stay {post : Int32 → SX → Prop} {E L l n at' : Nat} (hl : l < 2) (hS : lS l = nI L) (hL : L < 14) (hst : tm_st E (oP L) (oX L) (oY L) (oZ L)) (ha : at' ≤ tm_nm oP oY oZ L) (h : post (nI at') (eN, sN, nI (l + 1), fC, oC, wt, cK, cO, cR, rg, oP, oX, oY, oZ, lS, lT, lL, va, iu, sz, ke, en, fd, ou)) : wX_turnLoops_7 post (nI at') eN sN fC oC wt cK cO cR rg oP oX oY oZ lS lT lL va iu sz ke en fd ou (n + 1) (nI (l + 1) - 1) (nI (l + 1)) := by
  have hb := tm_nm_b hst
  rw [nI_pred]
  have cl : (nI l).toNatClampNeg = l := nI_clamp (by omega)
  exact br_f (nI_pos (by omega)) ⟨vp_in_nI hl (by decide), nm_r (by rw [cl, hS]) (xn_named hL hst (br_f (nI_nlt (by omega) (by omega)) h))⟩
theorem xt_turn {post : Int32 → SX → Prop} {E L l n v at' : Nat} {tv : Int32} (hl : l < 2) (hS : lS l = nI L) (hL : L < 14) (hst : tm_st E (oP L) (oX L) (oY L) (oZ L)) (ha : tm_nm oP oY oZ L < at') (ha2 : at' < 100) (hlt : ¬ lL l ≤ lT l) (htv : lT l + 1 = tv) (hv : v < 6) (hx : oX L = nI v) (h : post (nI (L + 1)) (eN, sN, nI (l + 1), fC, oC, wt, cK, cO, cR, rg, oP, oX, oY, oZ, lS, upd lT l tv, lL, vp_updL va v (cv_e 1 tv), iu, sz, ke, en, fd, ou)) : wX_turnLoops_7 post (nI at') eN sN fC oC wt cK cO cR rg oP oX oY oZ lS lT lL va iu sz ke en fd ou (n + 1) (nI (l + 1) - 1) (nI (l + 1)) := by
  have hb := tm_nm_b hst
  rw [nI_pred]
  have cl : (nI l).toNatClampNeg = l := nI_clamp (by omega)
  have vl : vp_in (nI l) 2 := vp_in_nI hl (by decide)
  have cL : (nI L).toNatClampNeg = L := nI_clamp (by omega)
  refine br_f (nI_pos (by omega)) ⟨vl, nm_r (by rw [cl, hS]) (xn_named hL hst (br_t (nI_lt (by omega) (by omega)) ⟨vl, vl, br_f (by rw [cl]; exact hlt) ⟨vl, vl, nm_r (by rw [cl, htv]) ⟨vp_in_nI hL (by decide), vl, ?_⟩⟩⟩))⟩
  rw [cl, pk_us, cL, hx, nI_1]
  exact xv_val ⟨vp_in_nI hv (by decide), nm_r (by rw [nI_clamp (by omega)]) h⟩
theorem xt_pop {post : Int32 → SX → Prop} {E L l n at' : Nat} (hl : l < 2) (hS : lS l = nI L) (hL : L < 14) (hst : tm_st E (oP L) (oX L) (oY L) (oZ L)) (ha : tm_nm oP oY oZ L < at') (ha2 : at' < 100) (hlt : lL l ≤ lT l) (h : wX_turnLoops_7 post (nI at') eN sN fC oC wt cK cO cR rg oP oX oY oZ lS lT lL va iu sz ke en fd ou n (nI l - 1) (nI l)) : wX_turnLoops_7 post (nI at') eN sN fC oC wt cK cO cR rg oP oX oY oZ lS lT lL va iu sz ke en fd ou (n + 1) (nI (l + 1) - 1) (nI (l + 1)) := by
  have hb := tm_nm_b hst
  rw [nI_pred]
  have cl : (nI l).toNatClampNeg = l := nI_clamp (by omega)
  have vl : vp_in (nI l) 2 := vp_in_nI hl (by decide)
  have e : nI l + (-1) = nI l - 1 := by rw [Int32.sub_eq_add_neg]
  exact br_f (nI_pos (by omega)) ⟨vl, nm_r (by rw [cl, hS]) (xn_named hL hst (br_t (nI_lt (by omega) (by omega)) ⟨vl, vl, br_t (by rw [cl]; exact hlt) (nm_r e h)⟩))⟩
theorem yt_nil {post : Int32 → SY → Prop} {n k : Nat} {x1 : Int32} (hk : k < 1000) (h : wY_run_94 post (wY_run_50 post n) x1 (nI k) yE yN yC dp tp fl (nI 0) kd ex ey yW yP yX yY yZ vs vn zy yK es eu tk sn yO wk sg so nu la tu lz) : wY_run_50 post (n + 1) x1 (nI k) yE yN yC dp tp fl (nI 0) kd ex ey yW yP yX yY yZ vs vn zy yK es eu tk sn yO wk sg so nu la tu lz :=
  br_f (nI_ge (b := 1000) hk (by decide)) (br_t (by decide) h)
theorem yt_stay {post : Int32 → SY → Prop} {E L l n k at' : Nat} (hk : k < 1000) (hl : l < 2) (hS : la l = nI L) (hL : L < 14) (hst : tm_st E (yP L) (yX L) (yY L) (yZ L)) (ha : at' ≤ tm_nm yP yY yZ L) (h : wY_run_94 post (wY_run_50 post n) (nI at') (nI k) yE yN yC dp tp fl (nI (l + 1)) kd ex ey yW yP yX yY yZ vs vn zy yK es eu tk sn yO wk sg so nu la tu lz) : wY_run_50 post (n + 1) (nI at') (nI k) yE yN yC dp tp fl (nI (l + 1)) kd ex ey yW yP yX yY yZ vs vn zy yK es eu tk sn yO wk sg so nu la tu lz := by
  have hb := tm_nm_b hst
  refine br_f (nI_ge (b := 1000) hk (by decide)) (br_f (nI_nle (by omega) (by omega)) ⟨by rw [nI_pred]; exact vp_in_nI hl (by decide), ?_⟩)
  rw [nI_pred, nI_clamp (n := l) (by omega), hS]
  refine yn_named hL hst (br_f ?_ h)
  rw [nI_1]
  intro z
  have := (nI_eq (by omega) (by omega)).mp z
  omega
theorem ya_pre {post : Int32 → SY → Prop} {E L l n k : Nat} (hk : k < 1000) (hl : l < 2) (hS : la l = nI L) (hL : L < 14) (hst : tm_st E (yP L) (yX L) (yY L) (yZ L)) (h : wpY_again (fun r u => match u with | (yE, yN, yC, dp, tp, fl, lo, kd, ex, ey, yW, yP, yX, yY, yZ, vs, vn, zy, yK, es, eu, tk, sn, yO, wk, sg, so, nu, la, tu, lz) => ∀ x : Int32, x = nI k + 1 → wY_run_50 post n r x yE yN yC dp tp fl lo kd ex ey yW yP yX yY yZ vs vn zy yK es eu tk sn yO wk sg so nu la tu lz) (yE, yN, yC, dp, tp, fl, nI (l + 1), kd, ex, ey, yW, yP, yX, yY, yZ, vs, vn, zy, yK, es, eu, tk, sn, yO, wk, sg, so, nu, la, tu, lz) (nI (tm_nm yP yY yZ L + 1))) : wY_run_50 post (n + 1) (nI (tm_nm yP yY yZ L + 1)) (nI k) yE yN yC dp tp fl (nI (l + 1)) kd ex ey yW yP yX yY yZ vs vn zy yK es eu tk sn yO wk sg so nu la tu lz := by
  have hb := tm_nm_b hst
  refine br_f (nI_ge (b := 1000) hk (by decide)) (br_f (nI_nle (by omega) (by omega)) ⟨by rw [nI_pred]; exact vp_in_nI hl (by decide), ?_⟩)
  rw [nI_pred, nI_clamp (n := l) (by omega), hS]
  exact yn_named hL hst (br_t (nI_1 _).symm h)
theorem yt_turn {post : Int32 → SY → Prop} {E L l n k v : Nat} {tv : Int32} (hk : k < 1000) (hl : l < 2) (hS : la l = nI L) (hL : L < 14) (hst : tm_st E (yP L) (yX L) (yY L) (yZ L)) (hlt : ¬ tu l = lz l) (htv : tu l + 1 = tv) (hv : v < 6) (hx : yX L = nI v) (h : wY_run_50 post n (nI (L + 1)) (nI (k + 1)) yE yN yC dp tp fl (nI (l + 1)) kd ex ey yW yP yX yY yZ (upd vs v 1) (upd vn v tv) zy yK es eu tk sn yO wk sg so nu la (upd tu l tv) lz) : wY_run_50 post (n + 1) (nI (tm_nm yP yY yZ L + 1)) (nI k) yE yN yC dp tp fl (nI (l + 1)) kd ex ey yW yP yX yY yZ vs vn zy yK es eu tk sn yO wk sg so nu la tu lz := by
  refine ya_pre hk hl hS hL hst ?_
  unfold wpY_again
  have vl : vp_in (nI (l + 1) - 1) 2 := by rw [nI_pred]; exact vp_in_nI hl (by decide)
  have cl : (nI (l + 1) - 1).toNatClampNeg = l := by rw [nI_pred]; exact nI_clamp (by omega)
  refine ⟨vl, nm_r (by rw [cl, hS]) ⟨vl, vl, br_f (by rw [cl]; exact hlt) ⟨vl, vl, nm_r (by rw [cl, htv]) ⟨vp_in_nI hL (by decide), vl, ?_⟩⟩⟩⟩
  rw [cl, pk_us, nI_clamp (n := L) (by omega), hx, nI_1 L]
  exact y_set hv (nm_r (nI_1 k) h)
theorem yt_pop {post : Int32 → SY → Prop} {E L l n k : Nat} (hk : k < 1000) (hl : l < 2) (hS : la l = nI L) (hL : L < 14) (hst : tm_st E (yP L) (yX L) (yY L) (yZ L)) (hlt : tu l = lz l) (h : wY_run_50 post n (nI (tm_nm yP yY yZ L + 1)) (nI (k + 1)) yE yN yC dp tp fl (nI l) kd ex ey yW yP yX yY yZ vs vn zy yK es eu tk sn yO wk sg so nu la tu lz) : wY_run_50 post (n + 1) (nI (tm_nm yP yY yZ L + 1)) (nI k) yE yN yC dp tp fl (nI (l + 1)) kd ex ey yW yP yX yY yZ vs vn zy yK es eu tk sn yO wk sg so nu la tu lz := by
  refine ya_pre hk hl hS hL hst ?_
  unfold wpY_again
  have vl : vp_in (nI (l + 1) - 1) 2 := by rw [nI_pred]; exact vp_in_nI hl (by decide)
  have cl : (nI (l + 1) - 1).toNatClampNeg = l := by rw [nI_pred]; exact nI_clamp (by omega)
  exact ⟨vl, nm_r (by rw [cl, hS]) ⟨vl, vl, br_t (by rw [cl]; exact hlt) (nm_r (nI_pred l) (nm_r (nI_1 k) h))⟩⟩
end
/-- a LOOP under way as both sides hold it at place i -/
def sk_o (lS lT lL la tu lz : Nat → Int32) (i L t m : Nat) : Prop :=
  lS i = nI L ∧ la i = nI L ∧ lT i = nI t ∧ tu i = nI t ∧ lL i = nI m ∧ lz i = nI m ∧ 1 ≤ t ∧ t ≤ m ∧ m ≤ 5
/-- the LOOPs under way with statement a next; F bounds the steps to come; with p = 1 the innermost may be over -/
def sk_S (p N : Nat) (oP oY oZ : Nat → Int32) (l a F : Nat) (lS lT lL la tu lz : Nat → Int32) : Prop :=
  (l = 0 ∧ a ≤ N ∧ F = 30 * (N - a)) ∨
  (l = 1 ∧ ∃ L t m, sk_o lS lT lL la tu lz 0 L t m ∧ oP L = 3 ∧ L < N ∧ L < a ∧ a ≤ tm_nm oP oY oZ L + p ∧ F = 30 * (N - (tm_nm oP oY oZ L + 1)) + (m - t) * (6 * (tm_nm oP oY oZ L - L) + 1) + 6 * (tm_nm oP oY oZ L + 1 - a) + 1) ∨
  (l = 2 ∧ ∃ L t m L' t' m', sk_o lS lT lL la tu lz 0 L t m ∧ sk_o lS lT lL la tu lz 1 L' t' m' ∧ oP L = 3 ∧ oP L' = 3 ∧ L < N ∧ L < L' ∧ L' < N ∧ tm_nm oP oY oZ L' ≤ tm_nm oP oY oZ L ∧ L' < a ∧ a ≤ tm_nm oP oY oZ L' + p ∧
    F = 30 * (N - (tm_nm oP oY oZ L + 1)) + (m - t) * (6 * (tm_nm oP oY oZ L - L) + 1) + 6 * (tm_nm oP oY oZ L - tm_nm oP oY oZ L') + 1 + (m' - t') * (tm_nm oP oY oZ L' - L' + 1) + (tm_nm oP oY oZ L' + 1 - a) + 1)
theorem sk_mul {m t c : Nat} (h : t < m) : (m - t) * c = (m - (t + 1)) * c + c := by
  rw [show m - t = (m - (t + 1)) + 1 by omega, Nat.succ_mul]
theorem sk_nm3 {E : Nat} {oP oX oY oZ : Nat → Int32} {s : Nat} (h : tm_st E (oP s) (oX s) (oY s) (oZ s)) (h3 : oP s = 3) : s + 1 ≤ tm_nm oP oY oZ s ∧ ∃ v, v < 6 ∧ oX s = nI v := by
  rw [h3] at h
  obtain ⟨hv, _, m, h1, h2, hz⟩ := st_3 h
  refine ⟨?_, hv⟩
  unfold tm_nm
  rw [h3, if_neg (by decide), if_pos rfl, hz, nI_clamp (by omega)]
  omega
/-- only the places of LOOPs under way matter -/
theorem sk_ext {p N l a F : Nat} {oP oY oZ lS lT lL la tu lz lS' lT' lL' la' tu' lz' : Nat → Int32} (h : sk_S p N oP oY oZ l a F lS lT lL la tu lz) (e : ∀ i, i < l → lS' i = lS i ∧ lT' i = lT i ∧ lL' i = lL i ∧ la' i = la i ∧ tu' i = tu i ∧ lz' i = lz i) : sk_S p N oP oY oZ l a F lS' lT' lL' la' tu' lz' := by
  have g : ∀ {i L t m}, i < l → sk_o lS lT lL la tu lz i L t m → sk_o lS' lT' lL' la' tu' lz' i L t m := by
    intro i L t m hi h
    obtain ⟨a, b, c, d, f, g⟩ := e i hi
    unfold sk_o
    rw [a, b, c, d, f, g]; exact h
  rcases h with h | ⟨h, L, t, m, o, r⟩ | ⟨h, L, t, m, L', t', m', o, o', r⟩
  · exact Or.inl h
  · exact Or.inr (Or.inl ⟨h, L, t, m, g (by omega) o, r⟩)
  · exact Or.inr (Or.inr ⟨h, L, t, m, L', t', m', g (by omega) o, g (by omega) o', r⟩)
theorem sk_N {N l a F E : Nat} {oP oX oY oZ lS lT lL la tu lz : Nat → Int32} (hV : tm_VS E N oP oX oY oZ) (hs : tm_snd N oP oY oZ) (h : sk_S 0 N oP oY oZ l a F lS lT lL la tu lz) : a ≤ N ∧ (a = N → l = 0) ∧ l ≤ 2 := by
  rcases h with ⟨h, ha, _⟩ | ⟨h, L, t, m, o, h3, hL, hLa, ha, _⟩ | ⟨h, L, t, m, L', t', m', o, o', h3, h3', hL, hLL, hL', hn, hLa, ha, _⟩
  · exact ⟨ha, fun _ => h, by omega⟩
  · have := (hs L hL).1
    exact ⟨by omega, fun z => by omega, by omega⟩
  · have := (hs L' hL').1
    exact ⟨by omega, fun z => by omega, by omega⟩
theorem sk_go {N l a F E nx : Nat} {oP oX oY oZ lS lT lL la tu lz : Nat → Int32} (hV : tm_VS E N oP oX oY oZ) (hs : tm_snd N oP oY oZ) (h : sk_S 0 N oP oY oZ l a F lS lT lL la tu lz) (ha : a < N) (hn : nx = a + 1 ∨ nx = tm_nm oP oY oZ a + 1) : ∃ F', F' + 1 ≤ F ∧ sk_S 1 N oP oY oZ l nx F' lS lT lL la tu lz := by
  have hb := tm_nm_b (hV a ha)
  have hna := (hs a ha).1
  have hgt : a < nx ∧ nx ≤ tm_nm oP oY oZ a + 1 := by rcases hn with h | h <;> omega
  rcases h with ⟨h, h1, hF⟩ | ⟨h, L, t, m, o, h3, hL, hLa, h1, hF⟩ | ⟨h, L, t, m, L', t', m', o, o', h3, h3', hL, hLL, hL', hnn, hLa, h1, hF⟩
  · exact ⟨30 * (N - nx), by omega, Or.inl ⟨h, by omega, rfl⟩⟩
  · have hle := (hs L hL).2.1 a hLa (by omega)
    refine ⟨_, ?_, Or.inr (Or.inl ⟨h, L, t, m, o, h3, hL, by omega, by omega, rfl⟩)⟩
    rw [hF]
    generalize (m - t) * (6 * (tm_nm oP oY oZ L - L) + 1) = P
    omega
  · have hle := (hs L' hL').2.1 a hLa (by omega)
    refine ⟨_, ?_, Or.inr (Or.inr ⟨h, L, t, m, L', t', m', o, o', h3, h3', hL, hLL, hL', hnn, by omega, by omega, rfl⟩)⟩
    rw [hF]
    generalize (m - t) * (6 * (tm_nm oP oY oZ L - L) + 1) = P
    generalize (m' - t') * (tm_nm oP oY oZ L' - L' + 1) = Q
    omega
theorem sk_l2 {N l a F E : Nat} {oP oX oY oZ lS lT lL la tu lz : Nat → Int32} (hV : tm_VS E N oP oX oY oZ) (hs : tm_snd N oP oY oZ) (h : sk_S 0 N oP oY oZ l a F lS lT lL la tu lz) (ha : a < N) (h3a : oP a = 3) : l < 2 := by
  rcases h with ⟨h, _⟩ | ⟨h, _⟩ | ⟨h, L, t, m, L', t', m', o, o', h3, h3', hL, hLL, hL', hnn, hLa, h1, hF⟩
  · omega
  · omega
  · exfalso
    have hz := (sk_nm3 (hV a ha) h3a).1
    have hna := (hs a ha).1
    have hle := (hs L' hL').2.1 a hLa (by omega)
    have hc := (hs (a + 1) (by omega)).2.2
    have e1 := tm_lo_hit (oP := oP) (oY := oY) (oZ := oZ) (s := a + 1) (c := a) h3a (by omega)
    have e2 := tm_lo_hit (oP := oP) (oY := oY) (oZ := oZ) (s := a + 1) (c := L') h3' (by omega)
    have e3 := tm_lo_hit (oP := oP) (oY := oY) (oZ := oZ) (s := a + 1) (c := L) h3 (by omega)
    have m1 := tm_lo_mono oP oY oZ (a + 1) (c := L' + 1) (d := a) (by omega)
    have m2 := tm_lo_mono oP oY oZ (a + 1) (c := L + 1) (d := L') (by omega)
    omega
theorem sk_open {N l a F E M : Nat} {oP oX oY oZ lS lT lL la tu lz lS' lT' lL' la' tu' lz' : Nat → Int32} (hV : tm_VS E N oP oX oY oZ) (hs : tm_snd N oP oY oZ) (h : sk_S 0 N oP oY oZ l a F lS lT lL la tu lz) (ha : a < N) (h3a : oP a = 3) (hM : 1 ≤ M) (hM5 : M ≤ 5) (e : ∀ i, i < l → lS' i = lS i ∧ lT' i = lT i ∧ lL' i = lL i ∧ la' i = la i ∧ tu' i = tu i ∧ lz' i = lz i) (o1 : sk_o lS' lT' lL' la' tu' lz' l a 1 M) : ∃ F', F' + 1 ≤ F ∧ sk_S 0 N oP oY oZ (l + 1) (a + 1) F' lS' lT' lL' la' tu' lz' := by
  have hz := (sk_nm3 (hV a ha) h3a).1
  have hna := (hs a ha).1
  have hl2 := sk_l2 hV hs h ha h3a
  have h' := sk_ext h e
  rcases h' with ⟨h, h1, hF⟩ | ⟨h, L, t, m, o, h3, hL, hLa, h1, hF⟩ | ⟨h, _⟩
  · subst h
    refine ⟨_, ?_, Or.inr (Or.inl ⟨rfl, a, 1, M, o1, h3a, ha, by omega, by omega, rfl⟩)⟩
    have hle : (M - 1) * (6 * (tm_nm oP oY oZ a - a) + 1) ≤ 4 * (6 * (tm_nm oP oY oZ a - a) + 1) := Nat.mul_le_mul_right _ (by omega)
    rw [hF]
    generalize (M - 1) * (6 * (tm_nm oP oY oZ a - a) + 1) = P at hle ⊢
    omega
  · subst h
    have hle2 := (hs L hL).2.1 a hLa (by omega)
    refine ⟨_, ?_, Or.inr (Or.inr ⟨rfl, L, t, m, a, 1, M, o, o1, h3, h3a, hL, hLa, ha, hle2, by omega, by omega, rfl⟩)⟩
    have hle : (M - 1) * (tm_nm oP oY oZ a - a + 1) ≤ 4 * (tm_nm oP oY oZ a - a + 1) := Nat.mul_le_mul_right _ (by omega)
    rw [hF]
    generalize (m - t) * (6 * (tm_nm oP oY oZ L - L) + 1) = Q
    generalize (M - 1) * (tm_nm oP oY oZ a - a + 1) = P at hle ⊢
    omega
  · omega
