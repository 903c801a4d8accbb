/-! PUT and SHOW on both sides -/
theorem tm_put {g sz zy sz' zy' vs vn es eu : Nat → Int32} {p i m m' : Nat} {a b : Int32} (H : tm_HO g sz zy vs vn es eu) (hp : ¬ g p = 0) (hm : sz p = nI m) (hm6 : m ≤ 6) (hm' : m' ≤ 6) (hi : i < 6) (hs : sz' p = nI m') (hy : zy' p = nI m') (hso : ∀ t, t ≠ p → sz' t = sz t ∧ zy' t = zy t) (ok : cv_ok g a b) (hj : ∀ j, j < m' → j ≠ i → j < m) : tm_HO g sz' zy' vs vn (upd es (6 * p + i) a) (upd eu (6 * p + i) b) := by
  refine ⟨fun t ht => ?_, fun t j n ht hz hn hjn => ?_, H.2.2⟩
  · by_cases e : t = p
    · subst e; exact ⟨(H.1 t ht).1, by rw [hs, hy], m', hm', hs⟩
    · rw [(hso t e).1, (hso t e).2]; exact H.1 t ht
  · by_cases e : t = p
    · subst e
      have en : m' = n := (nI_eq (by omega) (by omega)).mp (hs.symm.trans hz)
      subst en
      by_cases e2 : j = i
      · subst e2; rw [pk_us, pk_us]; exact ok
      · rw [pk_un (by omega), pk_un (by omega)]
        exact H.2.1 t j m ht hm hm6 (hj j hjn e2)
    · rw [(hso t e).1] at hz
      rw [pk_un (by omega), pk_un (by omega)]
      exact H.2.1 t j n ht hz hn hjn
section
variable {eN sN oL fC oC : Int32} {wt cK cO cR : Nat → Int32} {rg : Nat → Int64} {oP oX oY oZ lS lT lL : Nat → Int32} {va : Nat → Int64} {iu sz ke : Nat → Int32} {en : Nat → Int64} {fd : Nat → Int32} {ou : Nat → Int64} {yE yN yC dp tp fl lo : Int32} {kd ex ey yW yP yX yY yZ vs vn zy yK es eu tk sn : Nat → Int32} {yO : Nat → Int64} {wk sg so nu la tu lz : Nat → Int32}
theorem lk_put {g : Nat → Int32} {s0 n0 s1 n1 s2 n2 : Int32} (H : tm_HO g sz zy vs vn es eu) (ok0 : cv_ok g s0 n0) (ok1 : cv_ok g s1 n1) (ok2 : cv_ok g s2 n2) (a0 : so 0 = s0) (b0 : nu 0 = n0) (a1 : so 1 = s1) (b1 : nu 1 = n1) (a2 : so 2 = s2) (b2 : nu 2 = n2) :
    ∃ (b fl' : Int32) (sz' zy' ke' es' eu' : Nat → Int32), tm_HO g sz' zy' vs vn es' eu' ∧ ((b = 0 ∧ fl' = 1) ∨ (b = 1 ∧ fl' = 0)) ∧
      (∀ post : Int32 → SX → Prop, post b (eN, sN, oL, fC, oC, wt, cK, cO, cR, rg, oP, oX, oY, oZ, lS, lT, lL, va, iu, sz', ke', cv_f es' eu', fd, ou) → wpX_putEntry post (eN, sN, oL, fC, oC, wt, cK, cO, cR, rg, oP, oX, oY, oZ, lS, lT, lL, va, iu, sz, ke, cv_f es eu, fd, ou) (cv_e s0 n0) (cv_e s1 n1) (cv_e s2 n2)) ∧
      (∀ post : SY → Prop, post (yE, yN, yC, dp, tp, fl', lo, kd, ex, ey, yW, yP, yX, yY, yZ, vs, vn, zy', ke', es', eu', tk, sn, yO, wk, sg, so, nu, la, tu, lz) → wpY_put post (yE, yN, yC, dp, tp, 0, lo, kd, ex, ey, yW, yP, yX, yY, yZ, vs, vn, zy, ke, es, eu, tk, sn, yO, wk, sg, so, nu, la, tu, lz)) := by
  have c0 := cv_ok_s ok0
  have c1 := cv_ok_s ok1
  have c2 := cv_ok_s ok2
  by_cases t0 : s0 = 2
  rotate_left
  · refine ⟨0, 1, sz, zy, ke, es, eu, H, Or.inl ⟨rfl, rfl⟩, fun post hp => ?_, fun post hp => ?_⟩
    · unfold wpX_putEntry
      exact xv_tabF c0 t0 (br_t rfl hp)
    · unfold wpY_put
      exact br_f (by rw [a0]; exact t0) hp
  by_cases t1 : s1 = 1
  rotate_left
  · refine ⟨0, 1, sz, zy, ke, es, eu, H, Or.inl ⟨rfl, rfl⟩, fun post hp => ?_, fun post hp => ?_⟩
    · unfold wpX_putEntry
      exact xv_tabT c0 t0 (br_f (by decide) (xv_intF c1 t1 (br_t rfl hp)))
    · unfold wpY_put
      exact br_t (by rw [a0]; exact t0) (br_f (by rw [a1]; exact t1) hp)
  refine tm_kind ok0 (fun a _ => absurd (a.symm.trans t0) (by decide)) (fun a => absurd (a.symm.trans t0) (by decide)) (fun p _ hp20 hnp hU => ?_)
  subst hnp
  obtain ⟨_, hzy, m, hm, hz⟩ := H.1 p hU
  have hzy' : zy p = nI m := hzy.trans hz
  obtain ⟨r, hr, fX, fY⟩ := fe_find (ke := ke) n1 hp20 hm hz hzy'
  have vp20 : vp_in (nI p) 20 := vp_in_nI hp20 (by decide)
  have vp24 : vp_in (nI p) 24 := vp_in_nI (by omega) (by decide)
  have cp : (nI p).toNatClampNeg = p := nI_clamp (by omega)
  have endY : (6 : Int32) * nI p + zy (nI p).toNatClampNeg = nI (6 * p + m) := by
    rw [cp, hzy', show (6 : Int32) = nI 6 from rfl, pk_mul, nI_add]
  have gX : ∀ {post : Int32 → SX → Prop} {b : Int32} {sz' ke' : Nat → Int32} {en' : Nat → Int64}, (post b (eN, sN, oL, fC, oC, wt, cK, cO, cR, rg, oP, oX, oY, oZ, lS, lT, lL, va, iu, sz', ke', en', fd, ou) → (((cv_e s2 n2) = 0 → (wpX_removeEntry (fun u => match u with | (eN, sN, oL, fC, oC, wt, cK, cO, cR, rg, oP, oX, oY, oZ, lS, lT, lL, va, iu, sz, ke, en, fd, ou) => (post 1 (eN, sN, oL, fC, oC, wt, cK, cO, cR, rg, oP, oX, oY, oZ, lS, lT, lL, va, iu, sz, ke, en, fd, ou))) (eN, sN, oL, fC, oC, wt, cK, cO, cR, rg, oP, oX, oY, oZ, lS, lT, lL, va, iu, sz, ke, cv_f es eu, fd, ou) (nI p) r)) ∧ (¬ (cv_e s2 n2) = 0 → (((r = (-1) → (vp_in (nI p) 20 ∧ ((((sz (nI p).toNatClampNeg) < 6 → (vp_in (nI p) 20 ∧ (∀ x9_42 : Int32, x9_42 = ((nI p) * 6) + (sz (nI p).toNatClampNeg) → (vp_in (nI p) 20 ∧ (vp_in (nI p) 20 ∧ ∀ a_sizes_45 : Nat → Int32, a_sizes_45 = upd sz (nI p).toNatClampNeg ((sz (nI p).toNatClampNeg) + 1) → (wX_putEntry_110 post (cv_e s2 n2) n1 x9_42 eN sN oL fC oC wt cK cO cR rg oP oX oY oZ lS lT lL va iu a_sizes_45 ke (cv_f es eu) fd ou)))))) ∧ (¬ (sz (nI p).toNatClampNeg) < 6 → (post 0 (eN, sN, oL, fC, oC, wt, cK, cO, cR, rg, oP, oX, oY, oZ, lS, lT, lL, va, iu, sz, ke, cv_f es eu, fd, ou))))))) ∧ (¬ r = (-1) → (wX_putEntry_110 post (cv_e s2 n2) n1 r eN sN oL fC oC wt cK cO cR rg oP oX oY oZ lS lT lL va iu sz ke (cv_f es eu) fd ou))))))) → post b (eN, sN, oL, fC, oC, wt, cK, cO, cR, rg, oP, oX, oY, oZ, lS, lT, lL, va, iu, sz', ke', en', fd, ou) → wpX_putEntry post (eN, sN, oL, fC, oC, wt, cK, cO, cR, rg, oP, oX, oY, oZ, lS, lT, lL, va, iu, sz, ke, cv_f es eu, fd, ou) (cv_e s0 (nI p)) (cv_e s1 n1) (cv_e s2 n2) := by
    intro post b sz' ke' en' h hp
    unfold wpX_putEntry
    refine xv_tabT c0 t0 (br_f (by decide) (xv_intT c1 t1 (br_f (by decide) (br_f (cv_ne3 c2) (xv_num c0 (xv_num c1 ?_))))))
    exact fX _ (h hp)
  have gY : ∀ {post : SY → Prop}, (((s2 = 0 → (((0 ≤ r → (vp_in (nI p) 24 ∧ (vp_in (nI p) 24 ∧ ∀ a_size_56 : Nat → Int32, a_size_56 = upd zy (nI p).toNatClampNeg ((zy (nI p).toNatClampNeg) - 1) → (vp_in (nI (6 * p + m) - 1) 144 ∧ (vp_in r 144 ∧ ∀ a_keys_59 : Nat → Int32, a_keys_59 = upd ke r.toNatClampNeg (ke (nI (6 * p + m) - 1).toNatClampNeg) → (vp_in (nI (6 * p + m) - 1) 144 ∧ (vp_in r 144 ∧ ∀ a_entrySorts_62 : Nat → Int32, a_entrySorts_62 = upd es r.toNatClampNeg (es (nI (6 * p + m) - 1).toNatClampNeg) → (vp_in (nI (6 * p + m) - 1) 144 ∧ (vp_in r 144 ∧ ∀ a_entryNumbers_65 : Nat → Int32, a_entryNumbers_65 = upd eu r.toNatClampNeg (eu (nI (6 * p + m) - 1).toNatClampNeg) → (post (yE, yN, yC, dp, tp, 0, lo, kd, ex, ey, yW, yP, yX, yY, yZ, vs, vn, a_size_56, a_keys_59, a_entrySorts_62, a_entryNumbers_65, tk, sn, yO, wk, sg, so, nu, la, tu, lz))))))))))) ∧ (¬ 0 ≤ r → (post (yE, yN, yC, dp, tp, 0, lo, kd, ex, ey, yW, yP, yX, yY, yZ, vs, vn, zy, ke, es, eu, tk, sn, yO, wk, sg, so, nu, la, tu, lz)))))) ∧ (¬ s2 = 0 → (((0 ≤ r → (wY_put_149 post (nI p) r (nI (6 * p + m)) yE yN yC dp tp 0 lo kd ex ey yW yP yX yY yZ vs vn zy ke es eu tk sn yO wk sg so nu la tu lz)) ∧ (¬ 0 ≤ r → (vp_in (nI p) 24 ∧ ((((zy (nI p).toNatClampNeg) = 6 → (post (yE, yN, yC, dp, tp, 1, lo, kd, ex, ey, yW, yP, yX, yY, yZ, vs, vn, zy, ke, es, eu, tk, sn, yO, wk, sg, so, nu, la, tu, lz))) ∧ (¬ (zy (nI p).toNatClampNeg) = 6 → (wY_put_149 post (nI p) r (nI (6 * p + m)) yE yN yC dp tp 0 lo kd ex ey yW yP yX yY yZ vs vn zy ke es eu tk sn yO wk sg so nu la tu lz))))))))))) → wpY_put post (yE, yN, yC, dp, tp, 0, lo, kd, ex, ey, yW, yP, yX, yY, yZ, vs, vn, zy, ke, es, eu, tk, sn, yO, wk, sg, so, nu, la, tu, lz) := by
    intro post h
    unfold wpY_put
    refine br_t (by rw [a0]; exact t0) (br_t (by rw [a1]; exact t1) (nm_r b0 ?_))
    rw [b1]
    refine fY _ ⟨vp24, nm_r endY ?_⟩
    rw [a2]
    exact h
  by_cases t2 : s2 = 0
  · have v0 : cv_e s2 n2 = 0 := (cv_0 c2).mpr t2
    rcases hr with rfl | ⟨i, hi, rfl⟩
    · refine ⟨1, 0, sz, zy, ke, es, eu, H, Or.inr ⟨rfl, rfl⟩, fun post hp => gX (fun hp => ?_) hp, fun post hp => gY ?_⟩
      · exact br_t v0 (br_t rfl hp)
      · exact br_t t2 (br_f (by decide) hp)
    · obtain ⟨M, rfl⟩ : ∃ M, m = M + 1 := ⟨m - 1, by omega⟩
      have ok := H.2.1 p M (M + 1) hU hz hm (by omega)
      have vr120 : vp_in (nI (6 * p + i)) 120 := vp_in_nI (by omega) (by decide)
      have vr144 : vp_in (nI (6 * p + i)) 144 := vp_in_nI (by omega) (by decide)
      have cr : (nI (6 * p + i)).toNatClampNeg = 6 * p + i := nI_clamp (by omega)
      have lastX : nI p * 6 + upd sz p (nI M) (nI p).toNatClampNeg = nI (6 * p + M) := by
        rw [cp, pk_us, show nI p * 6 = nI (p * 6) from pk_mul p 6, nI_add, Nat.mul_comm]
      have cl : (nI (6 * p + M)).toNatClampNeg = 6 * p + M := nI_clamp (by omega)
      have lastY : nI (6 * p + (M + 1)) - 1 = nI (6 * p + M) := nI_pred (6 * p + M)
      have vl144 : vp_in (nI (6 * p + M)) 144 := vp_in_nI (by omega) (by decide)
      have vl120 : vp_in (nI (6 * p + M)) 120 := vp_in_nI (by omega) (by decide)
      refine ⟨1, 0, upd sz p (nI M), upd zy p (nI M), upd ke (6 * p + i) (ke (6 * p + M)), upd es (6 * p + i) (es (6 * p + M)), upd eu (6 * p + i) (eu (6 * p + M)), tm_put H hU hz hm (m' := M) (by omega) (by omega) pk_us pk_us (fun t e => ⟨pk_un e, pk_un e⟩) ok (fun j hj _ => by omega), Or.inr ⟨rfl, rfl⟩, fun post hp => gX (fun hp => ?_) hp, fun post hp => gY ?_⟩
      · refine br_t v0 ?_
        unfold wpX_removeEntry
        refine br_f ?_ ⟨vp20, vp20, nm_r (by rw [cp, hz, nI_pred]) ⟨vp20, nm_r lastX ⟨vl120, vr120, nm_r (by rw [cr, cl]) ⟨vl120, vr120, nm_r (e' := cv_f (upd es (6 * p + i) (es (6 * p + M))) (upd eu (6 * p + i) (eu (6 * p + M)))) (by rw [cr, cl, ← cv_fu]; rfl) hp⟩⟩⟩⟩
        intro z
        have := congrArg Int32.toInt z
        rw [nI_toInt (by omega), show (-1 : Int32).toInt = -1 from by decide] at this
        omega
      · rw [lastY]
        exact br_t t2 (br_t (nI_pos' (by omega)) ⟨vp24, vp24, nm_r (by rw [cp, hzy', nI_pred]) ⟨vl144, vr144, nm_r (by rw [cr, cl]) ⟨vl144, vr144, nm_r (by rw [cr, cl]) ⟨vl144, vr144, nm_r (by rw [cr, cl]) hp⟩⟩⟩⟩)
  · have v0 : ¬ cv_e s2 n2 = 0 := fun z => t2 ((cv_0 c2).mp z)
    rcases hr with rfl | ⟨i, hi, rfl⟩
    · by_cases m6 : m = 6
      · subst m6
        refine ⟨0, 1, sz, zy, ke, es, eu, H, Or.inl ⟨rfl, rfl⟩, fun post hp => gX (fun hp => ?_) hp, fun post hp => gY ?_⟩
        · exact br_f v0 (br_t rfl ⟨vp20, br_f (by rw [cp, hz]; decide) hp⟩)
        · exact br_f t2 (br_f (by decide) ⟨vp24, br_t (by rw [cp, hzy']; rfl) hp⟩)
      · have vr120 : vp_in (nI (6 * p + m)) 120 := vp_in_nI (by omega) (by decide)
        have vr144 : vp_in (nI (6 * p + m)) 144 := vp_in_nI (by omega) (by decide)
        have cr : (nI (6 * p + m)).toNatClampNeg = 6 * p + m := nI_clamp (by omega)
        have atX : nI p * 6 + sz (nI p).toNatClampNeg = nI (6 * p + m) := by
          rw [cp, hz, show nI p * 6 = nI (p * 6) from pk_mul p 6, nI_add, Nat.mul_comm]
        refine ⟨1, 0, upd sz p (nI (m + 1)), upd zy p (nI (m + 1)), upd ke (6 * p + m) n1, upd es (6 * p + m) s2, upd eu (6 * p + m) n2, tm_put H hU hz hm (m' := m + 1) (by omega) (by omega) pk_us pk_us (fun t e => ⟨pk_un e, pk_un e⟩) ok2 (fun j hj _ => by omega), Or.inr ⟨rfl, rfl⟩, fun post hp => gX (fun hp => ?_) hp, fun post hp => gY ?_⟩
        · refine br_f v0 (br_t rfl ⟨vp20, br_t (by rw [cp, hz]; exact nI_lt (b := 6) (by omega) (by decide)) ⟨vp20, nm_r atX ⟨vp20, vp20, nm_r (by rw [cp, hz, nI_1]) ?_⟩⟩⟩)
          unfold wX_putEntry_110
          exact ⟨vr120, nm_r (by rw [cr]) ⟨vr120, nm_r (by rw [cr, cv_fu]) hp⟩⟩
        · refine br_f t2 (br_f (by decide) ⟨vp24, br_f ?_ ?_⟩)
          · rw [cp, hzy']
            intro z
            exact m6 ((nI_eq (b := 6) (by omega) (by decide)).mp z)
          · unfold wY_put_149
            refine br_f (by decide) ⟨vp24, vp24, nm_r (by rw [cp, hzy', nI_1]) (br_f (by decide) ?_)⟩
            unfold wY_put_172
            rw [b1, a2, b2]
            exact ⟨vr144, nm_r (by rw [cr]) ⟨vr144, nm_r (by rw [cr]) ⟨vr144, nm_r (by rw [cr]) hp⟩⟩⟩
    · have vr120 : vp_in (nI (6 * p + i)) 120 := vp_in_nI (by omega) (by decide)
      have vr144 : vp_in (nI (6 * p + i)) 144 := vp_in_nI (by omega) (by decide)
      have cr : (nI (6 * p + i)).toNatClampNeg = 6 * p + i := nI_clamp (by omega)
      refine ⟨1, 0, sz, zy, upd ke (6 * p + i) n1, upd es (6 * p + i) s2, upd eu (6 * p + i) n2, tm_put H hU hz hm (m' := m) hm (by omega) hz hzy' (fun t e => ⟨rfl, rfl⟩) ok2 (fun j hj _ => hj), Or.inr ⟨rfl, rfl⟩, fun post hp => gX (fun hp => ?_) hp, fun post hp => gY ?_⟩
      · refine br_f v0 (br_f ?_ ?_)
        · intro z
          have := congrArg Int32.toInt z
          rw [nI_toInt (by omega), show (-1 : Int32).toInt = -1 from by decide] at this
          omega
        · unfold wX_putEntry_110
          exact ⟨vr120, nm_r (by rw [cr]) ⟨vr120, nm_r (by rw [cr, cv_fu]) hp⟩⟩
      · refine br_f t2 (br_t (nI_pos' (by omega)) ?_)
        unfold wY_put_149
        refine br_t (nI_pos' (by omega)) (br_t (nI_pos' (by omega)) ?_)
        unfold wY_put_172
        rw [b1, a2, b2]
        exact ⟨vr144, nm_r (by rw [cr]) ⟨vr144, nm_r (by rw [cr]) ⟨vr144, nm_r (by rw [cr]) hp⟩⟩⟩
/-- if one of the three failed, X puts nothing -/
theorem xp_fail {post : Int32 → SX → Prop} {o1 o2 o3 : Option (Int32 × Int32)} (h : o1 = none ∨ o2 = none ∨ o3 = none) (hp : post 0 (eN, sN, oL, fC, oC, wt, cK, cO, cR, rg, oP, oX, oY, oZ, lS, lT, lL, va, iu, sz, ke, en, fd, ou)) : wpX_putEntry post (eN, sN, oL, fC, oC, wt, cK, cO, cR, rg, oP, oX, oY, oZ, lS, lT, lL, va, iu, sz, ke, en, fd, ou) (ev_o o1) (ev_o o2) (ev_o o3) := by
  unfold wpX_putEntry
  by_cases q1 : (ev_o o1 &&& 3) = 2
  rotate_left
  · exact br_f q1 (br_t rfl hp)
  refine br_t q1 (br_f (by decide) ?_)
  by_cases q2 : (ev_o o2 &&& 3) = 1
  rotate_left
  · exact br_f q2 (br_t rfl hp)
  refine br_t q2 (br_f (by decide) ?_)
  rcases h with rfl | rfl | rfl
  · exact absurd q1 (by decide)
  · exact absurd q2 (by decide)
  · exact br_t rfl hp
theorem lk_show {g : Nat → Int32} {q : Nat} {s n : Int32} (H : tm_HO g sz zy vs vn es eu) (ok : cv_ok g s n) (hq : q < 2000) (a0 : so 0 = s) (b0 : nu 0 = n) :
    ∃ ou' : Nat → Int64, (∀ post : SX → Prop, post (eN, sN, oL, fC, nI (q + 1), wt, cK, cO, cR, rg, oP, oX, oY, oZ, lS, lT, lL, va, iu, sz, ke, en, fd, ou') → wpX_show post (eN, sN, oL, fC, nI q, wt, cK, cO, cR, rg, oP, oX, oY, oZ, lS, lT, lL, va, iu, sz, ke, en, fd, ou) (cv_e s n)) ∧
      (∀ post : SY → Prop, post (yE, yN, nI (q + 1), dp, tp, fl, lo, kd, ex, ey, yW, yP, yX, yY, yZ, vs, vn, zy, yK, es, eu, tk, sn, ou', wk, sg, so, nu, la, tu, lz) → wpY_show post (yE, yN, nI q, dp, tp, fl, lo, kd, ex, ey, yW, yP, yX, yY, yZ, vs, vn, zy, yK, es, eu, tk, sn, ou, wk, sg, so, nu, la, tu, lz)) := by
  by_cases q30 : q < 30
  rotate_left
  · have h30 : (30 : Int32) ≤ nI q := nI_le (a := 30) (by omega) (by omega)
    refine ⟨ou, fun post hp => ?_, fun post hp => ?_⟩
    · unfold wpX_show
      exact br_t h30 (nm_r (nI_1 q) hp)
    · unfold wpY_show
      have g46 : ∀ z : Int64, wY_show_46 post z yE yN (nI q) dp tp fl lo kd ex ey yW yP yX yY yZ vs vn zy yK es eu tk sn ou wk sg so nu la tu lz := fun z => br_t h30 (nm_r (nI_1 q) hp)
      refine br_c (fun e => ?_) (fun e => br_c (fun _ => g46 _) (fun _ => g46 _))
      rw [a0] at e
      obtain ⟨p, hp20, hn⟩ := xk_cok ok e
      exact ⟨by rw [b0, hn]; exact vp_in_nI (by omega) (by decide), g46 _⟩
  · have h30 : ¬ (30 : Int32) ≤ nI q := nI_ge (b := 30) q30 (by decide)
    have vq : vp_in (nI q) 30 := vp_in_nI q30 (by decide)
    have cq : (nI q).toNatClampNeg = q := nI_clamp (by omega)
    refine ⟨vp_updL ou q (cv_e s (if s = 2 then sz n.toNatClampNeg else n)), fun post hp => ?_, fun post hp => ?_⟩
    · unfold wpX_show
      refine br_f h30 (xv_srt (cv_ok_s ok) (xv_seen ok (xv_val ⟨vq, nm_r (by rw [cq]) (nm_r (nI_1 q) hp)⟩)))
    · unfold wpY_show
      have g46 : ∀ z : Int64, (4 * z) + s.toInt64 = cv_e s (if s = 2 then sz n.toNatClampNeg else n) → wY_show_46 post z yE yN (nI q) dp tp fl lo kd ex ey yW yP yX yY yZ vs vn zy yK es eu tk sn ou wk sg so nu la tu lz := by
        intro z hz
        unfold wY_show_46
        refine br_f h30 ⟨vq, nm_r ?_ (nm_r (nI_1 q) hp)⟩
        rw [cq, a0, hz]
      refine tm_kind ok (fun e e2 => ?_) (fun e => ?_) (fun p e hp20 hn hU => ?_)
      · refine br_f (by rw [a0, e]; decide) (br_f (by rw [a0, e]; decide) (g46 _ ?_))
        rw [if_neg (by rw [e]; decide), e2]
        rfl
      · refine br_f (by rw [a0, e]; decide) (br_t (by rw [a0, e]) (g46 _ ?_))
        rw [if_neg (by rw [e]; decide), b0]
        rfl
      · refine br_t (by rw [a0, e]) ⟨by rw [b0, hn]; exact vp_in_nI (by omega) (by decide), g46 _ ?_⟩
        rw [if_pos e, b0, hn, nI_clamp (by omega), (H.1 p hU).2.1]
        rfl
/-! PUT of the reference -/
theorem y_put {post : Int32 → SY → Prop} {s e1 : Nat} {dp1 tp1 fl1 : Int32} {zy1 tk1 wk1 sg1 so1 nu1 : Nat → Int32} (hs : s < 14) (ho : yP s = 1) (hx : yX s = nI e1) (h1 : ∀ P : SY → Prop, P (yE, yN, yC, dp1, tp1, fl1, lo, kd, ex, ey, yW, yP, yX, yY, yZ, vs, vn, zy1, yK, es, eu, tk1, sn, yO, wk1, sg1, so1, nu1, la, tu, lz) → wpY_work P (yE, yN, yC, dp, nI 0, fl, lo, kd, ex, ey, yW, yP, yX, yY, yZ, vs, vn, zy, yK, es, eu, tk, sn, yO, wk, sg, so, nu, la, tu, lz) (nI e1))
    (hF : ¬ fl1 = 0 → post (nI s) (yE, yN, yC, dp1, tp1, fl1, lo, kd, ex, ey, yW, yP, yX, yY, yZ, vs, vn, zy1, yK, es, eu, tk1, sn, yO, wk1, sg1, so1, nu1, la, tu, lz))
    (hT : fl1 = 0 → wpY_work (fun u => match u with | (yE, yN, yC, dp, tp, fl, lo, kd, ex, ey, yW, yP, yX, yY, yZ, vs, vn, zy, yK, es, eu, tk, sn, yO, wk, sg, so, nu, la, tu, lz) => wY_execute_72 post (nI s) yE yN yC dp tp fl lo kd ex ey yW yP yX yY yZ vs vn zy yK es eu tk sn yO wk sg so nu la tu lz) (yE, yN, yC, dp1, tp1, fl1, lo, kd, ex, ey, yW, yP, yX, yY, yZ, vs, vn, zy1, yK, es, eu, tk1, sn, yO, wk1, sg1, so1, nu1, la, tu, lz) (yY s)) : wpY_execute post (yE, yN, yC, dp, tp, fl, lo, kd, ex, ey, yW, yP, yX, yY, yZ, vs, vn, zy, yK, es, eu, tk, sn, yO, wk, sg, so, nu, la, tu, lz) (nI s) := by
  have v14 : vp_in (nI s) 14 := vp_in_nI hs (by decide)
  have cs : (nI s).toNatClampNeg = s := nI_clamp (by omega)
  unfold wpY_execute
  refine ⟨v14, ?_⟩
  rw [cs, ho]
  refine br_f (by decide) ⟨v14, br_f (by decide) ⟨v14, ?_⟩⟩
  rw [hx]
  unfold wY_execute_39
  refine h1 _ ⟨v14, ?_⟩
  rw [cs]
  refine br_t ho (br_c (fun q => ⟨v14, hT q⟩) (fun q => ?_))
  refine ⟨v14, br_t (by rw [cs]; exact ho) (br_f q ?_)⟩
  unfold wY_execute_99
  exact br_f q (hF q)
theorem y_put2 {post : Int32 → SY → Prop} {s e2 : Nat} {dp1 tp1 fl1 : Int32} {zy1 tk1 wk1 sg1 so1 nu1 : Nat → Int32} (hs : s < 14) (ho : yP s = 1) (hx : yY s = nI e2) (h1 : ∀ P : SY → Prop, P (yE, yN, yC, dp1, tp1, fl1, lo, kd, ex, ey, yW, yP, yX, yY, yZ, vs, vn, zy1, yK, es, eu, tk1, sn, yO, wk1, sg1, so1, nu1, la, tu, lz) → wpY_work P (yE, yN, yC, dp, tp, fl, lo, kd, ex, ey, yW, yP, yX, yY, yZ, vs, vn, zy, yK, es, eu, tk, sn, yO, wk, sg, so, nu, la, tu, lz) (nI e2))
    (hF : ¬ fl1 = 0 → post (nI s) (yE, yN, yC, dp1, tp1, fl1, lo, kd, ex, ey, yW, yP, yX, yY, yZ, vs, vn, zy1, yK, es, eu, tk1, sn, yO, wk1, sg1, so1, nu1, la, tu, lz))
    (hT : fl1 = 0 → wpY_work (fun u => match u with | (yE, yN, yC, dp, tp, fl, lo, kd, ex, ey, yW, yP, yX, yY, yZ, vs, vn, zy, yK, es, eu, tk, sn, yO, wk, sg, so, nu, la, tu, lz) => wY_execute_99 post (nI s) yE yN yC dp tp fl lo kd ex ey yW yP yX yY yZ vs vn zy yK es eu tk sn yO wk sg so nu la tu lz) (yE, yN, yC, dp1, tp1, fl1, lo, kd, ex, ey, yW, yP, yX, yY, yZ, vs, vn, zy1, yK, es, eu, tk1, sn, yO, wk1, sg1, so1, nu1, la, tu, lz) (yZ s)) : wpY_work (fun u => match u with | (yE, yN, yC, dp, tp, fl, lo, kd, ex, ey, yW, yP, yX, yY, yZ, vs, vn, zy, yK, es, eu, tk, sn, yO, wk, sg, so, nu, la, tu, lz) => wY_execute_72 post (nI s) yE yN yC dp tp fl lo kd ex ey yW yP yX yY yZ vs vn zy yK es eu tk sn yO wk sg so nu la tu lz) (yE, yN, yC, dp, tp, fl, lo, kd, ex, ey, yW, yP, yX, yY, yZ, vs, vn, zy, yK, es, eu, tk, sn, yO, wk, sg, so, nu, la, tu, lz) (yY s) := by
  have v14 : vp_in (nI s) 14 := vp_in_nI hs (by decide)
  have cs : (nI s).toNatClampNeg = s := nI_clamp (by omega)
  rw [hx]
  refine h1 _ ?_
  dsimp only
  unfold wY_execute_72
  refine ⟨v14, ?_⟩
  rw [cs]
  refine br_t ho (br_c (fun q => ⟨v14, hT q⟩) (fun q => ?_))
  unfold wY_execute_99
  exact br_f q (hF q)
theorem y_put3 {post : Int32 → SY → Prop} {s e3 : Nat} {dp1 tp1 fl1 fl2 : Int32} {zy1 tk1 wk1 sg1 so1 nu1 zy2 yK2 es2 eu2 : Nat → Int32} (hs : s < 14) (ho : yP s = 1) (hx : yZ s = nI e3) (h1 : ∀ P : SY → Prop, P (yE, yN, yC, dp1, tp1, fl1, lo, kd, ex, ey, yW, yP, yX, yY, yZ, vs, vn, zy1, yK, es, eu, tk1, sn, yO, wk1, sg1, so1, nu1, la, tu, lz) → wpY_work P (yE, yN, yC, dp, tp, fl, lo, kd, ex, ey, yW, yP, yX, yY, yZ, vs, vn, zy, yK, es, eu, tk, sn, yO, wk, sg, so, nu, la, tu, lz) (nI e3))
    (hF : ¬ fl1 = 0 → post (nI s) (yE, yN, yC, dp1, tp1, fl1, lo, kd, ex, ey, yW, yP, yX, yY, yZ, vs, vn, zy1, yK, es, eu, tk1, sn, yO, wk1, sg1, so1, nu1, la, tu, lz))
    (hp : fl1 = 0 → ∀ P : SY → Prop, P (yE, yN, yC, dp1, tp1, fl2, lo, kd, ex, ey, yW, yP, yX, yY, yZ, vs, vn, zy2, yK2, es2, eu2, tk1, sn, yO, wk1, sg1, so1, nu1, la, tu, lz) → wpY_put P (yE, yN, yC, dp1, tp1, fl1, lo, kd, ex, ey, yW, yP, yX, yY, yZ, vs, vn, zy1, yK, es, eu, tk1, sn, yO, wk1, sg1, so1, nu1, la, tu, lz))
    (hT : fl1 = 0 → post (nI (s + 1)) (yE, yN, yC, dp1, tp1, fl2, lo, kd, ex, ey, yW, yP, yX, yY, yZ, vs, vn, zy2, yK2, es2, eu2, tk1, sn, yO, wk1, sg1, so1, nu1, la, tu, lz)) : wpY_work (fun u => match u with | (yE, yN, yC, dp, tp, fl, lo, kd, ex, ey, yW, yP, yX, yY, yZ, vs, vn, zy, yK, es, eu, tk, sn, yO, wk, sg, so, nu, la, tu, lz) => wY_execute_99 post (nI s) yE yN yC dp tp fl lo kd ex ey yW yP yX yY yZ vs vn zy yK es eu tk sn yO wk sg so nu la tu lz) (yE, yN, yC, dp, tp, fl, lo, kd, ex, ey, yW, yP, yX, yY, yZ, vs, vn, zy, yK, es, eu, tk, sn, yO, wk, sg, so, nu, la, tu, lz) (yZ s) := by
  have v14 : vp_in (nI s) 14 := vp_in_nI hs (by decide)
  have cs : (nI s).toNatClampNeg = s := nI_clamp (by omega)
  have nq : ∀ j : Int32, ¬ j = 1 → ¬ yP (nI s).toNatClampNeg = j := fun j hj z => hj (by rw [← z, cs, ho])
  rw [hx]
  refine h1 _ ?_
  dsimp only
  unfold wY_execute_99
  refine br_c (fun q => ?_) (fun q => hF q)
  refine ⟨v14, br_f (nq 0 (by decide)) ⟨v14, br_t (by rw [cs]; exact ho) (hp q _ ⟨v14, br_f (nq 2 (by decide)) ⟨v14, br_f (nq 4 (by decide)) ⟨v14, br_f (nq 3 (by decide)) ?_⟩⟩⟩)⟩⟩
  rw [nI_1]; exact hT q
end
