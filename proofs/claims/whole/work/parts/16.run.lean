/-! run -/
section
variable {eN sN oL fC oC : Int32} {wt cK cO cR : Nat → Int32} {rg : Nat → Int64} {oP oX oY oZ lS lT lL : Nat → Int32} {va : Nat → Int64} {iu sz ke : Nat → Int32} {en : Nat → Int64} {fd : Nat → Int32} {ou : Nat → Int64} {yE yN yC dp tp fl lo : Int32} {kd ex ey yW yP yX yY yZ vs vn zy yK es eu tk sn : Nat → Int32} {yO : Nat → Int64} {wk sg so nu la tu lz : Nat → Int32}
/-- what turnLoops does in one call, the reference does in some turns of its loop -/
theorem tl_all {E N l q a k F : Nat} {U : Nat → Int32} (hN : N ≤ 14) (hV : tm_VS E N oP oX oY oZ) (hsn : tm_snd N oP oY oZ) (H : tm_HO U sz zy vs vn es eu) (hS : sk_S 1 N oP oY oZ l a F lS lT lL la tu lz) (hk : k + F ≤ 500) :
    ∃ (a' l' F' k' : Nat) (lT' tu' vs' vn' : Nat → Int32), sk_S 0 N oP oY oZ l' a' F' lS lT' lL la tu' lz ∧ k ≤ k' ∧ k' + F' ≤ k + F ∧ tm_HO U sz zy vs' vn' es eu ∧
      (∀ post : Int32 → SX → Prop, post (nI a') (nI E, nI N, nI l', fC, oC, wt, cK, cO, cR, rg, oP, oX, oY, oZ, lS, lT', lL, cv_f vs' vn', iu, sz, ke, en, fd, ou) → wX_turnLoops_7 post (nI a) (nI E) (nI N) fC oC wt cK cO cR rg oP oX oY oZ lS lT lL (cv_f vs vn) iu sz ke en fd ou (l + 1) (nI l - 1) (nI l)) ∧
      (∀ (post : Int32 → SY → Prop) (m : Nat), wY_run_50 post m (nI a') (nI k') (nI E) (nI N) yC dp tp fl (nI l') kd ex ey wt oP oX oY oZ vs' vn' zy yK es eu tk sn yO wk sg so nu la tu' lz → wY_run_50 post (m + (k' - k)) (nI a) (nI k) (nI E) (nI N) yC dp tp fl (nI l) kd ex ey wt oP oX oY oZ vs vn zy yK es eu tk sn yO wk sg so nu la tu lz) := by
  have t0 : ∀ {a k F : Nat}, a ≤ N → F = 30 * (N - a) → 
    ∃ (a' l' F' k' : Nat) (lT' tu' vs' vn' : Nat → Int32), sk_S 0 N oP oY oZ l' a' F' lS lT' lL la tu' lz ∧ k ≤ k' ∧ k' + F' ≤ k + F ∧ tm_HO U sz zy vs' vn' es eu ∧
      (∀ post : Int32 → SX → Prop, post (nI a') (nI E, nI N, nI l', fC, oC, wt, cK, cO, cR, rg, oP, oX, oY, oZ, lS, lT', lL, cv_f vs' vn', iu, sz, ke, en, fd, ou) → wX_turnLoops_7 post (nI a) (nI E) (nI N) fC oC wt cK cO cR rg oP oX oY oZ lS lT lL (cv_f vs vn) iu sz ke en fd ou (0 + 1) (nI 0 - 1) (nI 0)) ∧
      (∀ (post : Int32 → SY → Prop) (m : Nat), wY_run_50 post m (nI a') (nI k') (nI E) (nI N) yC dp tp fl (nI l') kd ex ey wt oP oX oY oZ vs' vn' zy yK es eu tk sn yO wk sg so nu la tu' lz → wY_run_50 post (m + (k' - k)) (nI a) (nI k) (nI E) (nI N) yC dp tp fl (nI 0) kd ex ey wt oP oX oY oZ vs vn zy yK es eu tk sn yO wk sg so nu la tu lz) := by
    intro a k F ha hF
    refine ⟨a, 0, F, k, lT, tu, vs, vn, Or.inl ⟨rfl, ha, hF⟩, Nat.le_refl k, Nat.le_refl _, H, fun post hp => xt_nil hp, fun post m hp => ?_⟩
    rw [Nat.sub_self]; exact hp
  have t1 : ∀ {a k F L t m : Nat}, sk_o lS lT lL la tu lz 0 L t m → oP L = 3 → L < N → L < a → a ≤ tm_nm oP oY oZ L + 1 → F = 30 * (N - (tm_nm oP oY oZ L + 1)) + (m - t) * (6 * (tm_nm oP oY oZ L - L) + 1) + 6 * (tm_nm oP oY oZ L + 1 - a) + 1 → k + F ≤ 500 →
    ∃ (a' l' F' k' : Nat) (lT' tu' vs' vn' : Nat → Int32), sk_S 0 N oP oY oZ l' a' F' lS lT' lL la tu' lz ∧ k ≤ k' ∧ k' + F' ≤ k + F ∧ tm_HO U sz zy vs' vn' es eu ∧
      (∀ post : Int32 → SX → Prop, post (nI a') (nI E, nI N, nI l', fC, oC, wt, cK, cO, cR, rg, oP, oX, oY, oZ, lS, lT', lL, cv_f vs' vn', iu, sz, ke, en, fd, ou) → wX_turnLoops_7 post (nI a) (nI E) (nI N) fC oC wt cK cO cR rg oP oX oY oZ lS lT lL (cv_f vs vn) iu sz ke en fd ou (1 + 1) (nI 1 - 1) (nI 1)) ∧
      (∀ (post : Int32 → SY → Prop) (m : Nat), wY_run_50 post m (nI a') (nI k') (nI E) (nI N) yC dp tp fl (nI l') kd ex ey wt oP oX oY oZ vs' vn' zy yK es eu tk sn yO wk sg so nu la tu' lz → wY_run_50 post (m + (k' - k)) (nI a) (nI k) (nI E) (nI N) yC dp tp fl (nI 1) kd ex ey wt oP oX oY oZ vs vn zy yK es eu tk sn yO wk sg so nu la tu lz) := by
    intro a k F L t m o h3 hL hLa ha hF hk
    obtain ⟨o1, o2, o3, o4, o5, o6, ht, htm, hm⟩ := o
    have hst := hV L hL
    obtain ⟨hz, v, hv, hx⟩ := sk_nm3 hst h3
    have hnN := (hsn L hL).1
    by_cases hp : a ≤ tm_nm oP oY oZ L
    · refine ⟨a, 1, F, k, lT, tu, vs, vn, Or.inr (Or.inl ⟨rfl, L, t, m, ⟨o1, o2, o3, o4, o5, o6, ht, htm, hm⟩, h3, hL, hLa, hp, hF⟩), Nat.le_refl k, Nat.le_refl _, H, fun post hq => xt_stay (l := 0) (by decide) o1 (by omega) hst hp hq, fun post n hq => ?_⟩
      rw [Nat.sub_self]; exact hq
    · obtain rfl : a = tm_nm oP oY oZ L + 1 := by omega
      by_cases htl : t < m
      · refine ⟨L + 1, 1, F - 1, k + 1, upd lT 0 (nI (t + 1)), upd tu 0 (nI (t + 1)), upd vs v 1, upd vn v (nI (t + 1)), Or.inr (Or.inl ⟨rfl, L, t + 1, m, ⟨o1, o2, pk_us, pk_us, o5, o6, by omega, by omega, hm⟩, h3, hL, by omega, by omega, ?_⟩), by omega, by omega, tm_let H v (Or.inr (Or.inl rfl)), fun post hq => ?_, fun post n hq => ?_⟩
        · rw [hF, sk_mul htl]
          generalize (m - (t + 1)) * (6 * (tm_nm oP oY oZ L - L) + 1) = P
          omega
        · refine xt_turn (l := 0) (by decide) o1 (by omega) hst (by omega) (by omega) (by rw [o3, o5]; exact nI_ge (by omega) (by omega)) (by rw [o3, nI_1]) hv hx ?_
          rw [cv_fu]; exact hq
        · rw [show n + (k + 1 - k) = n + 1 by omega]
          refine yt_turn (l := 0) (by omega) (by decide) o2 (by omega) hst (by rw [o4, o6]; intro z; have := (nI_eq (by omega) (by omega)).mp z; omega) (by rw [o4, nI_1]) hv hx hq
      · have etm : t = m := by omega
        subst etm
        have hF2 : F = 30 * (N - (tm_nm oP oY oZ L + 1)) + 1 := by
          rw [hF, Nat.sub_self, Nat.zero_mul]; omega
        obtain ⟨a', l', F', k', lT', tu', vs', vn', s0, hkk, hkF, H', fX, fY⟩ := t0 (a := tm_nm oP oY oZ L + 1) (k := k + 1) (by omega) rfl
        refine ⟨a', l', F', k', lT', tu', vs', vn', s0, by omega, by omega, H', fun post hq => xt_pop (l := 0) (by decide) o1 (by omega) hst (by omega) (by omega) (by rw [o3, o5]; exact nI_le (Nat.le_refl _) (by omega)) (fX post hq), fun post n hq => ?_⟩
        rw [show n + (k' - k) = (n + (k' - (k + 1))) + 1 by omega]
        exact yt_pop (l := 0) (by omega) (by decide) o2 (by omega) hst (by rw [o4, o6]) (fY post n hq)
  rcases hS with ⟨rfl, ha, hF⟩ | ⟨rfl, L, t, m, o, h3, hL, hLa, ha, hF⟩ | ⟨rfl, L, t, m, L', t', m', o, o', h3, h3', hL, hLL, hL', hnn, hLa, ha, hF⟩
  · exact t0 ha hF
  · exact t1 o h3 hL hLa ha hF hk
  · obtain ⟨o1, o2, o3, o4, o5, o6, ht, htm, hm⟩ := o'
    have hst := hV L' hL'
    obtain ⟨hz, v, hv, hx⟩ := sk_nm3 hst h3'
    have hnN := (hsn L' hL').1
    by_cases hp : a ≤ tm_nm oP oY oZ L'
    · refine ⟨a, 2, F, k, lT, tu, vs, vn, Or.inr (Or.inr ⟨rfl, L, t, m, L', t', m', o, ⟨o1, o2, o3, o4, o5, o6, ht, htm, hm⟩, h3, h3', hL, hLL, hL', hnn, hLa, hp, hF⟩), Nat.le_refl k, Nat.le_refl _, H, fun post hq => xt_stay (l := 1) (by decide) o1 (by omega) hst hp hq, fun post n hq => ?_⟩
      rw [Nat.sub_self]; exact hq
    · obtain rfl : a = tm_nm oP oY oZ L' + 1 := by omega
      by_cases htl : t' < m'
      · obtain ⟨p1, p2, p3, p4, p5, p6, p7⟩ := o
        refine ⟨L' + 1, 2, F - 1, k + 1, upd lT 1 (nI (t' + 1)), upd tu 1 (nI (t' + 1)), upd vs v 1, upd vn v (nI (t' + 1)), Or.inr (Or.inr ⟨rfl, L, t, m, L', t' + 1, m', ⟨p1, p2, (pk_un (by decide)).trans p3, (pk_un (by decide)).trans p4, p5, p6, p7⟩, ⟨o1, o2, pk_us, pk_us, o5, o6, by omega, by omega, hm⟩, h3, h3', hL, hLL, hL', hnn, by omega, by omega, ?_⟩), by omega, by omega, tm_let H v (Or.inr (Or.inl rfl)), fun post hq => ?_, fun post n hq => ?_⟩
        · rw [hF, sk_mul htl]
          generalize (m - t) * (6 * (tm_nm oP oY oZ L - L) + 1) = Q
          generalize (m' - (t' + 1)) * (tm_nm oP oY oZ L' - L' + 1) = P
          omega
        · refine xt_turn (l := 1) (by decide) o1 (by omega) hst (by omega) (by omega) (by rw [o3, o5]; exact nI_ge (by omega) (by omega)) (by rw [o3, nI_1]) hv hx ?_
          rw [cv_fu]; exact hq
        · rw [show n + (k + 1 - k) = n + 1 by omega]
          refine yt_turn (l := 1) (by omega) (by decide) o2 (by omega) hst (by rw [o4, o6]; intro z; have := (nI_eq (by omega) (by omega)).mp z; omega) (by rw [o4, nI_1]) hv hx hq
      · have etm : t' = m' := by omega
        subst etm
        have hF2 : F = 30 * (N - (tm_nm oP oY oZ L + 1)) + (m - t) * (6 * (tm_nm oP oY oZ L - L) + 1) + 6 * (tm_nm oP oY oZ L - tm_nm oP oY oZ L') + 1 + 1 := by
          rw [hF, Nat.sub_self t', Nat.zero_mul]; omega
        have hF3 : 30 * (N - (tm_nm oP oY oZ L + 1)) + (m - t) * (6 * (tm_nm oP oY oZ L - L) + 1) + 6 * (tm_nm oP oY oZ L + 1 - (tm_nm oP oY oZ L' + 1)) + 1 + 1 = F := by
          rw [hF2, show tm_nm oP oY oZ L + 1 - (tm_nm oP oY oZ L' + 1) = tm_nm oP oY oZ L - tm_nm oP oY oZ L' by omega]
        obtain ⟨a', l', F', k', lT', tu', vs', vn', s0, hkk, hkF, H', fX, fY⟩ := t1 (a := tm_nm oP oY oZ L' + 1) (k := k + 1) o h3 hL (by omega) (by omega) rfl (by omega)
        refine ⟨a', l', F', k', lT', tu', vs', vn', s0, by omega, by omega, H', fun post hq => xt_pop (l := 1) (by decide) o1 (by omega) hst (by omega) (by omega) (by rw [o3, o5]; exact nI_le (Nat.le_refl _) (by omega)) (fX post hq), fun post n hq => ?_⟩
        rw [show n + (k' - k) = (n + (k' - (k + 1))) + 1 by omega]
        exact yt_pop (l := 1) (by omega) (by decide) o2 (by omega) hst (by rw [o4, o6]) (fY post n hq)
/-- the reference's head of a turn, where no LOOP is over -/
theorem yt_head {post : Int32 → SY → Prop} {E N l a F n k : Nat} {lS lT lL : Nat → Int32} (hN : N ≤ 14) (hV : tm_VS E N yP yX yY yZ) (hS : sk_S 0 N yP yY yZ l a F lS lT lL la tu lz) (hk : k < 1000) (h : wY_run_94 post (wY_run_50 post n) (nI a) (nI k) yE yN yC dp tp fl (nI l) kd ex ey yW yP yX yY yZ vs vn zy yK es eu tk sn yO wk sg so nu la tu lz) : wY_run_50 post (n + 1) (nI a) (nI k) yE yN yC dp tp fl (nI l) kd ex ey yW yP yX yY yZ vs vn zy yK es eu tk sn yO wk sg so nu la tu lz := by
  rcases hS with ⟨rfl, ha, hF⟩ | ⟨rfl, L, t, m, o, h3, hL, hLa, ha, hF⟩ | ⟨rfl, L, t, m, L', t', m', o, o', h3, h3', hL, hLL, hL', hnn, hLa, ha, hF⟩
  · exact yt_nil hk h
  · exact yt_stay (l := 0) hk (by decide) o.2.1 (by omega) (hV L hL) ha h
  · exact yt_stay (l := 1) hk (by decide) o'.2.1 (by omega) (hV L' hL') ha h
theorem rn_rel {E N : Nat} {oC' : Int32} (hE : E ≤ 30) (hN : N ≤ 14) (hVE : tm_VE E kd ex ey wt cK cO cR) (hVS : tm_VS E N oP oX oY oZ) (hU : ∃ U, tm_HO U sz zy vs vn es eu) (hiu : ∀ t, 20 ≤ t → iu t = 0) (htk : ∀ t, 24 ≤ t → tk t = 0) :
    i_Rel 0 (nI E, nI N, oL, fC, oC, wt, cK, cO, cR, rg, oP, oX, oY, oZ, lS, lT, lL, cv_f vs vn, iu, sz, ke, cv_f es eu, fd, ou) (nI E, nI N, oC, dp, tp, fl, lo, kd, ex, ey, wt, oP, oX, oY, oZ, vs, vn, zy, ke, es, eu, tk, sn, ou, wk, sg, so, nu, la, tu, lz) := by
  obtain ⟨U, H⟩ := hU
  exact ⟨E, N, oL, fC, oC, wt, cK, cO, cR, rg, oP, oX, oY, oZ, lS, lT, lL, iu, sz, ke, fd, ou, dp, tp, fl, lo, kd, ex, ey, vs, vn, zy, es, eu, tk, sn, wk, sg, so, nu, la, tu, lz, rfl, rfl, hE, hN, hVE, hVS, hiu, htk, U, H⟩
theorem rn_end {E N a k j l q F : Nat} (hE : E ≤ 30) (hN : N ≤ 14) (hVE : tm_VE E kd ex ey wt cK cO cR) (hVS : tm_VS E N oP oX oY oZ) (hU : ∃ U, tm_HO U sz zy vs vn es eu) (hiu : ∀ t, 20 ≤ t → iu t = 0) (htk : ∀ t, 24 ≤ t → tk t = 0) (hS : sk_S 0 N oP oY oZ l a F lS lT lL la tu lz) (ha : a = N) (hk : k ≤ 500) (hj : j ≤ k) :
    ∃ (r : Int32) (u' : SX) (v' : SY) (n m : Nat), i_Rel 0 u' v' ∧ (∀ post : Int32 → SX → Prop, post r u' → wX_run_45 post n (nI a) (nI j) (nI E) (nI N) (nI l) fC (nI q) wt cK cO cR rg oP oX oY oZ lS lT lL (cv_f vs vn) iu sz ke (cv_f es eu) fd ou) ∧ (∀ post : Int32 → SY → Prop, post r v' → wY_run_50 post m (nI a) (nI k) (nI E) (nI N) (nI q) dp tp 0 (nI l) kd ex ey wt oP oX oY oZ vs vn zy ke es eu tk sn ou wk sg so nu la tu lz) := by
  refine ⟨-4, (nI E, nI N, nI l, fC, nI q, wt, cK, cO, cR, rg, oP, oX, oY, oZ, lS, lT, lL, cv_f vs vn, iu, sz, ke, cv_f es eu, fd, ou), (nI E, nI N, nI q, dp, tp, 0, nI l, kd, ex, ey, wt, oP, oX, oY, oZ, vs, vn, zy, ke, es, eu, tk, sn, ou, wk, sg, so, nu, la, tu, lz), 1, 1, rn_rel (oC' := nI q) hE hN hVE hVS hU hiu htk, fun post hp => ?_, fun post hp => ?_⟩
  · exact br_f (nI_ge (b := 100000) (by omega) (by decide)) (br_t (nI_le (by omega) (by omega)) hp)
  · refine yt_head hN hVS hS (by omega) ?_
    unfold wY_run_94
    exact br_f (nI_nlt (by omega) (by omega)) hp
theorem rn_m1 {a : Nat} (ha : a < 100) : ¬ nI a = -1 := by
  intro z
  have := congrArg Int32.toInt z
  rw [nI_toInt (by omega), show (-1 : Int32).toInt = -1 from by decide] at this
  omega
theorem rn_all {E N : Nat} (hE : E ≤ 30) (hN : N ≤ 14) (hVE : tm_VE E kd ex ey wt cK cO cR) (hVS : tm_VS E N oP oX oY oZ) (hsn : tm_snd N oP oY oZ) : ∀ B F : Nat, F ≤ B → ∀ (a k j l q : Nat) (fC : Int32) (rg : Nat → Int64) (lS lT lL iu sz ke fd : Nat → Int32) (ou : Nat → Int64) (dp tp : Int32) (vs vn zy es eu tk sn wk sg so nu la tu lz : Nat → Int32),
    (∃ U, tm_HO U sz zy vs vn es eu) → (∀ t, 20 ≤ t → iu t = 0) → (∀ t, 24 ≤ t → tk t = 0) → sk_S 0 N oP oY oZ l a F lS lT lL la tu lz → k + F ≤ 500 → j ≤ k → q ≤ k →
    ∃ (r : Int32) (u' : SX) (v' : SY) (n m : Nat), i_Rel 0 u' v' ∧ (∀ post : Int32 → SX → Prop, post r u' → wX_run_45 post n (nI a) (nI j) (nI E) (nI N) (nI l) fC (nI q) wt cK cO cR rg oP oX oY oZ lS lT lL (cv_f vs vn) iu sz ke (cv_f es eu) fd ou) ∧ (∀ post : Int32 → SY → Prop, post r v' → wY_run_50 post m (nI a) (nI k) (nI E) (nI N) (nI q) dp tp 0 (nI l) kd ex ey wt oP oX oY oZ vs vn zy ke es eu tk sn ou wk sg so nu la tu lz) := by
  intro B
  induction B with
  | zero =>
    intro F hF a k j l q fC rg lS lT lL iu sz ke fd ou dp tp vs vn zy es eu tk sn wk sg so nu la tu lz hU hiu htk hS hk hj hq
    have haN := sk_N hVS hsn hS
    have hx : a = N := by
      by_cases q : a = N
      · exact q
      · obtain ⟨F', h1, _⟩ := sk_go hVS hsn hS (by omega) (Or.inl rfl)
        omega
    exact rn_end hE hN hVE hVS hU hiu htk hS hx (by omega) hj
  | succ B ih =>
    intro F hF a k j l q fC rg lS lT lL iu sz ke fd ou dp tp vs vn zy es eu tk sn wk sg so nu la tu lz hU hiu htk hS hk hj hq
    have haN := sk_N hVS hsn hS
    by_cases hx : a = N
    · exact rn_end hE hN hVE hVS hU hiu htk hS hx (by omega) hj
    have ha : a < N := by omega
    have hst := hVS a ha
    have hna := (hsn a ha).1
    have hb := tm_nm_b hst
    have hl2 : oP a = 3 → l < 2 := sk_l2 hVS hsn hS ha
    obtain ⟨U, H⟩ := hU
    have j5 : ¬ (100000 : Int32) ≤ nI j := nI_ge (b := 100000) (by omega) (by decide)
    have aN : ¬ nI N ≤ nI a := nI_ge ha (by omega)
    obtain ⟨fC', rg', iu', sz', ke', fd', q', ou', dp', tp', fl', vs', vn', zy', es', eu', tk', sn', wk', sg', so', nu', hU', hiu', htk', hq', hc⟩ := sl_all (fC := fC) (wt := wt) (cK := cK) (cO := cO) (cR := cR) (rg := rg) (oP := oP) (oX := oX) (oY := oY) (oZ := oZ) (lS := lS) (lT := lT) (lL := lL) (iu := iu) (sz := sz) (ke := ke) (fd := fd) (ou := ou) (dp := dp) (tp := tp) (kd := kd) (ex := ex) (ey := ey) (vs := vs) (vn := vn) (zy := zy) (es := es) (eu := eu) (tk := tk) (sn := sn) (wk := wk) (sg := sg) (so := so) (nu := nu) (la := la) (tu := tu) (lz := lz) (l := l) (q := q) hE hN hVE hVS hiu htk H ha hl2 (by omega)
    rcases hc with ⟨hX, hY⟩ | ⟨nx, hn, rfl, hX, hY⟩ | ⟨h3, rfl, n, lim, v, hv, hxv, hlim, hX, hY⟩
    · refine ⟨nI a, (nI E, nI N, nI l, fC', nI q', wt, cK, cO, cR, rg', oP, oX, oY, oZ, lS, lT, lL, cv_f vs' vn', iu', sz', ke', cv_f es' eu', fd', ou'), (nI E, nI N, nI q', dp', tp', fl', nI l, kd, ex, ey, wt, oP, oX, oY, oZ, vs', vn', zy', ke', es', eu', tk', sn', ou', wk', sg', so', nu', la, tu, lz), 1, 1, ?_, fun post hp => ?_, fun post hp => ?_⟩
      rotate_left
      · exact br_f j5 (br_f aN (hX _ (br_t rfl hp)))
      · exact yt_head hN hVS hS (by omega) (hY post _ k hp)
      · exact rn_rel (oC' := nI q') hE hN hVE hVS hU' hiu' htk'
    · obtain ⟨F1, hF1, S1⟩ := sk_go hVS hsn hS ha hn
      obtain ⟨U', H'⟩ := hU'
      obtain ⟨a2, l2, F2, k2, lT2, tu2, vs2, vn2, S2, hk2, hkF, H2, tX, tY⟩ := tl_all (fC := fC') (oC := nI q') (wt := wt) (cK := cK) (cO := cO) (cR := cR) (rg := rg') (oP := oP) (oX := oX) (oY := oY) (oZ := oZ) (lS := lS) (lT := lT) (lL := lL) (iu := iu') (sz := sz') (ke := ke') (en := cv_f es' eu') (fd := fd') (ou := ou') (yC := nI q') (dp := dp') (tp := tp') (fl := 0) (kd := kd) (ex := ex) (ey := ey) (vs := vs') (vn := vn') (zy := zy') (yK := ke') (es := es') (eu := eu') (tk := tk') (sn := sn') (yO := ou') (wk := wk') (sg := sg') (so := so') (nu := nu') (la := la) (tu := tu) (lz := lz) (q := 0) (k := k + 1) hN hVS hsn H' S1 (by omega)
      obtain ⟨r, u', v', n, m, R, iX, iY⟩ := ih F2 (by omega) a2 k2 (j + 1) l2 q' fC' rg' lS lT2 lL iu' sz' ke' fd' ou' dp' tp' vs2 vn2 zy' es' eu' tk' sn' wk' sg' so' nu' la tu2 lz ⟨U', H2⟩ hiu' htk' S2 (by omega) (by omega) (by omega)
      refine ⟨r, u', v', n + 1, m + (k2 - (k + 1)) + 1, R, fun post hp => ?_, fun post hp => ?_⟩
      · refine br_f j5 (br_f aN (hX _ (br_f (rn_m1 (by omega)) ?_)))
        unfold wpX_turnLoops
        exact nm_e ⟨_, tX _ (nm_r (nI_1 j) (iX post hp))⟩
      · exact yt_head hN hVS hS (by omega) (hY post _ k (tY post m (iY post hp)))
    · have hl := hl2 h3
      obtain ⟨U', H'⟩ := hU'
      rcases hY with ⟨hn, hY⟩ | ⟨hn, hY⟩
      · obtain ⟨F1, hF1, S1⟩ := sk_go hVS hsn hS ha (Or.inr rfl)
        have hlim0 : lim ≤ 0 := by
          have h1 : n.toInt < 1 := by
            have := Int32.not_le.mp hn
            rw [Int32.lt_iff_toInt_lt] at this
            exact this
          rcases hlim with ⟨_, rfl⟩ | ⟨h5, _⟩
          · rw [Int32.le_iff_toInt_le, show (0 : Int32).toInt = 0 from by decide]; omega
          · exfalso
            refine h5 ?_
            rw [Int32.le_iff_toInt_le, show (5 : Int32).toInt = 5 from by decide]; omega
        have S1' : sk_S 1 N oP oY oZ l (tm_nm oP oY oZ a + 1) F1 (upd lS l (nI a)) (upd lT l 0) (upd lL l lim) la tu lz := sk_ext S1 (fun i hi => ⟨pk_un (by omega), pk_un (by omega), pk_un (by omega), rfl, rfl, rfl⟩)
        obtain ⟨a2, l2, F2, k2, lT2, tu2, vs2, vn2, S2, hk2, hkF, H2, tX, tY⟩ := tl_all (fC := fC') (oC := nI q') (wt := wt) (cK := cK) (cO := cO) (cR := cR) (rg := rg') (oP := oP) (oX := oX) (oY := oY) (oZ := oZ) (lS := upd lS l (nI a)) (lT := upd lT l 0) (lL := upd lL l lim) (iu := iu') (sz := sz') (ke := ke') (en := cv_f es' eu') (fd := fd') (ou := ou') (yC := nI q') (dp := dp') (tp := tp') (fl := 0) (kd := kd) (ex := ex) (ey := ey) (vs := vs') (vn := vn') (zy := zy') (yK := ke') (es := es') (eu := eu') (tk := tk') (sn := sn') (yO := ou') (wk := wk') (sg := sg') (so := so') (nu := nu') (la := la) (tu := tu) (lz := lz) (q := 0) (k := k + 1) hN hVS hsn H' S1' (by omega)
        obtain ⟨r, u', v', n, m, R, iX, iY⟩ := ih F2 (by omega) a2 k2 (j + 1) l2 q' fC' rg' (upd lS l (nI a)) lT2 (upd lL l lim) iu' sz' ke' fd' ou' dp' tp' vs2 vn2 zy' es' eu' tk' sn' wk' sg' so' nu' la tu2 lz ⟨U', H2⟩ hiu' htk' S2 (by omega) (by omega) (by omega)
        refine ⟨r, u', v', n + 1, m + (k2 - (k + 1)) + 1, R, fun post hp => ?_, fun post hp => ?_⟩
        · refine br_f j5 (br_f aN (hX _ (br_f (rn_m1 (by omega)) ?_)))
          unfold wpX_turnLoops
          exact nm_e ⟨_, xt_pop hl pk_us (by omega) hst (by omega) (by omega) (by rw [pk_us, pk_us]; exact hlim0) (tX _ (nm_r (nI_1 j) (iX post hp)))⟩
        · exact yt_head hN hVS hS (by omega) (hY post _ k (tY post m (iY post hp)))
      · have hM : ∃ M, 1 ≤ M ∧ M ≤ 5 ∧ lim = nI M := by
          rcases hlim with ⟨h5, rfl⟩ | ⟨_, rfl⟩
          · have h0 : ¬ lim < 0 := fun z => by
              have := Int32.lt_of_le_of_lt hn z
              exact absurd this (by decide)
            obtain ⟨M, hM, rfl⟩ := nI_of2 (M := 5) (n := 5) (by decide) h0 h5
            exact ⟨M, (nI_leI (a := 1) (by decide) (by omega)).mp hn, hM, rfl⟩
          · exact ⟨5, by decide, by decide, rfl⟩
        obtain ⟨M, hM1, hM5, rfl⟩ := hM
        obtain ⟨F1, hF1, S1⟩ := sk_open (lS' := upd lS l (nI a)) (lT' := upd (upd lT l 0) l 1) (lL' := upd lL l (nI M)) (la' := upd la l (nI a)) (tu' := upd tu l 1) (lz' := upd lz l (nI M)) hVS hsn hS ha h3 hM1 hM5 (fun i hi => ⟨pk_un (by omega), by rw [pk_un (by omega), pk_un (by omega)], pk_un (by omega), pk_un (by omega), pk_un (by omega), pk_un (by omega)⟩) ⟨pk_us, pk_us, pk_us, pk_us, pk_us, pk_us, by omega, hM1, hM5⟩
        obtain ⟨r, u', v', n, m, R, iX, iY⟩ := ih F1 (by omega) (a + 1) (k + 1) (j + 1) (l + 1) q' fC' rg' (upd lS l (nI a)) (upd (upd lT l 0) l 1) (upd lL l (nI M)) iu' sz' ke' fd' ou' dp' tp' (upd vs' v 1) (upd vn' v 1) zy' es' eu' tk' sn' wk' sg' so' nu' (upd la l (nI a)) (upd tu l 1) (upd lz l (nI M)) ⟨U', tm_let H' v (Or.inr (Or.inl rfl))⟩ hiu' htk' S1 (by omega) (by omega) (by omega)
        refine ⟨r, u', v', n + 1, m + 1, R, fun post hp => ?_, fun post hp => ?_⟩
        · refine br_f j5 (br_f aN (hX _ (br_f (rn_m1 (by omega)) ?_)))
          unfold wpX_turnLoops
          refine nm_e ⟨1, xt_turn (n := 0) (tv := 1) hl pk_us (by omega) hst (by omega) (by omega) (by rw [pk_us, pk_us]; exact nI_nle (by omega) (by omega)) (by rw [pk_us]; rfl) hv hxv ?_⟩
          rw [cv_fu]
          exact nm_r (nI_1 j) (iX post hp)
        · exact yt_head hN hVS hS (by omega) (hY post _ k (iY post hp))
/-! the variables are emptied first -/
end
def rn_c (f : Nat → Int32) (i : Nat) : Nat → Int32 := fun j => if j < i then 0 else f j
theorem rn_c0 (f : Nat → Int32) : rn_c f 0 = f := by
  funext j; unfold rn_c; rw [if_neg (by omega)]
theorem rn_cs (f : Nat → Int32) (i : Nat) : upd (rn_c f i) i 0 = rn_c f (i + 1) := by
  funext j
  by_cases e : j = i
  · subst e
    rw [pk_us]
    unfold rn_c
    rw [if_pos (by omega)]
  · rw [pk_un e]
    unfold rn_c
    by_cases h : j < i
    · rw [if_pos h, if_pos (by omega)]
    · rw [if_neg h, if_neg (by omega)]
section
variable {eN sN oL fC oC : Int32} {wt cK cO cR : Nat → Int32} {rg : Nat → Int64} {oP oX oY oZ lS lT lL : Nat → Int32} {va : Nat → Int64} {iu sz ke : Nat → Int32} {en : Nat → Int64} {fd : Nat → Int32} {ou : Nat → Int64} {yE yN yC dp tp fl lo : Int32} {kd ex ey yW yP yX yY yZ vs vn zy yK es eu tk sn : Nat → Int32} {yO : Nat → Int64} {wk sg so nu la tu lz : Nat → Int32}
theorem rx_12 {post : Int32 → SX → Prop} (h : ∃ n, wX_run_45 post n (nI 0) (nI 0) eN sN (nI 0) fC (nI 0) wt cK cO cR rg oP oX oY oZ lS lT lL (cv_f (rn_c vs 6) (rn_c vn 6)) iu sz ke en fd ou) : ∀ d i : Nat, i + d = 6 → wX_run_12 post eN sN oL fC oC (d + 1) (nI i) wt cK cO cR rg oP oX oY oZ lS lT lL (cv_f (rn_c vs i) (rn_c vn i)) iu sz ke en fd ou := by
  intro d
  induction d with
  | zero =>
    intro i hi
    obtain rfl : i = 6 := by omega
    exact br_t (by decide) h
  | succ d ih =>
    intro i hi
    have e : vp_updL (cv_f (rn_c vs i) (rn_c vn i)) i 0 = cv_f (rn_c vs (i + 1)) (rn_c vn (i + 1)) := by
      rw [← cv_00, cv_fu, rn_cs, rn_cs]
    exact br_f (nI_ge (b := 6) (by omega) (by decide)) ⟨vp_in_nI (by omega) (by decide), nm_r (by rw [nI_clamp (by omega), e]) (nm_r (nI_1 i) (ih (i + 1) (by omega)))⟩
theorem ry_12 {post : Int32 → SY → Prop} (h : ∃ n, wY_run_50 post n (nI 0) (nI 0) yE yN (nI 0) dp tp 0 (nI 0) kd ex ey yW yP yX yY yZ (rn_c vs 6) (rn_c vn 6) zy yK es eu tk sn yO wk sg so nu la tu lz) : ∀ d i : Nat, i + d = 6 → wY_run_12 post (d + 1) (nI i) yE yN yC dp tp fl lo kd ex ey yW yP yX yY yZ (rn_c vs i) (rn_c vn i) zy yK es eu tk sn yO wk sg so nu la tu lz := by
  intro d
  induction d with
  | zero =>
    intro i hi
    obtain rfl : i = 6 := by omega
    exact br_t (by decide) h
  | succ d ih =>
    intro i hi
    refine br_f (nI_ge (b := 6) (by omega) (by decide)) (y_set (by omega) ?_)
    rw [rn_cs, rn_cs]
    exact nm_r (nI_1 i) (ih (i + 1) (by omega))
end
theorem i_vc_run {k : Nat} {u : SX} {v : SY} (I : i_Rel k u v) (hk : k + 5 ≤ 2560) : wpX_run (fun r u' => wpY_run (fun r' v' => r' = r ∧ i_Rel (k + 5) u' v') v) u := by
  have hR := i_up I
  obtain ⟨E, N, oL, fC, oC, wt, cK, cO, cR, rg, oP, oX, oY, oZ, lS, lT, lL, iu, sz, ke, fd, ou, dp, tp, fl, lo, kd, ex, ey, vs, vn, zy, es, eu, tk, sn, wk, sg, so, nu, la, tu, lz, rfl, rfl, J⟩ := I
  obtain ⟨hE, hN, hVE, hVS, hiu, htk, U, H⟩ := J
  unfold wpX_run
  refine xn_sound hVS hN (fun hs => br_f (by decide) ?_) (fun hs => br_t rfl ?_)
  · have H0 : tm_HO (fun _ => 0) sz zy (rn_c vs 6) (rn_c vn 6) es eu := by
      refine ⟨fun t h => absurd rfl h, fun t i m h => absurd rfl h, fun w hw => Or.inl ?_⟩
      unfold rn_c
      rw [if_pos hw, if_pos hw]
      exact ⟨rfl, rfl⟩
    obtain ⟨r, u', v', n, m, R, iX, iY⟩ := rn_all hE hN hVE hVS hs (30 * N) (30 * N) (Nat.le_refl _) 0 0 0 0 0 fC rg lS lT lL iu sz ke fd ou dp tp (rn_c vs 6) (rn_c vn 6) zy es eu tk sn wk sg so nu la tu lz ⟨_, H0⟩ hiu htk (Or.inl ⟨rfl, by omega, rfl⟩) (by omega) (by omega) (by omega)
    have gY : wpY_run (fun r' v'' => r' = r ∧ i_Rel (k + 5) u' v'') (nI E, nI N, oC, dp, tp, fl, lo, kd, ex, ey, wt, oP, oX, oY, oZ, vs, vn, zy, ke, es, eu, tk, sn, ou, wk, sg, so, nu, la, tu, lz) := by
      unfold wpY_run
      refine yn_sound hVS hN (fun _ => br_f (by decide) ?_) (fun z => absurd hs z)
      have h := ry_12 (yC := oC) (fl := fl) (lo := lo) (vs := vs) (vn := vn) ⟨m, iY (fun r' v'' => r' = r ∧ i_Rel (k + 5) u' v'') ⟨rfl, R⟩⟩ 6 0 (by decide)
      rw [rn_c0, rn_c0] at h
      exact ⟨_, h⟩
    have h := rx_12 (oL := oL) (oC := oC) (vs := vs) (vn := vn) ⟨n, iX (fun r u' => wpY_run (fun r' v' => r' = r ∧ i_Rel (k + 5) u' v') (nI E, nI N, oC, dp, tp, fl, lo, kd, ex, ey, wt, oP, oX, oY, oZ, vs, vn, zy, ke, es, eu, tk, sn, ou, wk, sg, so, nu, la, tu, lz)) gY⟩ 6 0 (by decide)
    rw [rn_c0, rn_c0] at h
    exact ⟨_, h⟩
  · unfold wpY_run
    exact yn_sound hVS hN (fun z => absurd z hs) (fun _ => br_t rfl ⟨rfl, hR⟩)
