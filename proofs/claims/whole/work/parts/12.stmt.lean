/-! one statement -/
theorem tm_back {g sz zy sz' zy' vs vn es eu : Nat → Int32} (H : tm_HO g sz zy vs vn es eu) (h : ∀ t, ¬ g t = 0 → sz' t = sz t ∧ zy' t = zy t) : tm_HO g sz' zy' vs vn es eu := by
  refine ⟨fun t ht => ?_, fun t i m ht hz hm hi => ?_, H.2.2⟩
  · rw [(h t ht).1, (h t ht).2]; exact H.1 t ht
  · rw [(h t ht).1] at hz
    exact H.2.1 t i m ht hz hm hi
theorem tm_let {g sz zy vs vn es eu : Nat → Int32} {s n : Int32} (H : tm_HO g sz zy vs vn es eu) (v : Nat) (ok : cv_ok g s n) : tm_HO g sz zy (upd vs v s) (upd vn v n) es eu := by
  refine ⟨H.1, H.2.1, fun w hw => ?_⟩
  by_cases e : w = v
  · subst e; rw [pk_us, pk_us]; exact ok
  · rw [pk_un e, pk_un e]; exact H.2.2 w hw
section
variable {eN sN oL fC oC : Int32} {wt cK cO cR : Nat → Int32} {rg : Nat → Int64} {oP oX oY oZ lS lT lL : Nat → Int32} {va : Nat → Int64} {iu sz ke : Nat → Int32} {en : Nat → Int64} {fd : Nat → Int32} {ou : Nat → Int64} {yE yN yC dp tp fl lo : Int32} {kd ex ey yW yP yX yY yZ vs vn zy yK es eu tk sn : Nat → Int32} {yO : Nat → Int64} {wk sg so nu la tu lz : Nat → Int32}
theorem x_full {post : Int32 → SX → Prop} {c s : Nat} {g fd' : Nat → Int32} (hcol : ∀ P : Int32 → SX → Prop, P (nI c) (eN, sN, oL, nI c, oC, wt, cK, cO, cR, rg, oP, oX, oY, oZ, lS, lT, lL, va, g, sz, ke, en, fd', ou) → wpX_collect P (eN, sN, oL, fC, oC, wt, cK, cO, cR, rg, oP, oX, oY, oZ, lS, lT, lL, va, iu, sz, ke, en, fd, ou)) (hc : 8 < c) (hc2 : c ≤ 20) (h : post (-1) (eN, sN, oL, nI c, oC, wt, cK, cO, cR, rg, oP, oX, oY, oZ, lS, lT, lL, va, g, sz, ke, en, fd', ou)) : wpX_execute post (eN, sN, oL, fC, oC, wt, cK, cO, cR, rg, oP, oX, oY, oZ, lS, lT, lL, va, iu, sz, ke, en, fd, ou) (nI s) := by
  unfold wpX_execute
  refine hcol _ ?_
  exact br_f (nI_ge (a := 8) hc (by omega)) h
theorem x_one {post : Int32 → SX → Prop} {c s e : Nat} {op : Int32} {g fd' : Nat → Int32} (hcol : ∀ P : Int32 → SX → Prop, P (nI c) (eN, sN, oL, nI c, oC, wt, cK, cO, cR, rg, oP, oX, oY, oZ, lS, lT, lL, va, g, sz, ke, en, fd', ou) → wpX_collect P (eN, sN, oL, fC, oC, wt, cK, cO, cR, rg, oP, oX, oY, oZ, lS, lT, lL, va, iu, sz, ke, en, fd, ou)) (hc : c ≤ 8) (hs : s < 14) (ho : oP s = op) (hz : ((op = 0 ∨ op = 3) ∧ oY s = nI e) ∨ ((op = 2 ∨ op = 4) ∧ oX s = nI e)) (h : wX_execute_102 post (nI s) op (nI e) eN sN oL (nI c) oC wt cK cO cR rg oP oX oY oZ lS lT lL va g sz ke en fd' ou) : wpX_execute post (eN, sN, oL, fC, oC, wt, cK, cO, cR, rg, oP, oX, oY, oZ, lS, lT, lL, va, iu, sz, ke, en, fd, ou) (nI s) := by
  have vs14 : vp_in (nI s) 14 := vp_in_nI hs (by decide)
  have cs : (nI s).toNatClampNeg = s := nI_clamp (by omega)
  unfold wpX_execute
  refine hcol _ ?_
  refine br_t (nI_le (b := 8) hc (by decide)) ⟨vs14, nm_r (by rw [cs, ho]) ?_⟩
  rcases hz with ⟨hop, hy⟩ | ⟨hop, hx⟩
  · have g1 : wX_execute_87 post (nI s) op eN sN oL (nI c) oC wt cK cO cR rg oP oX oY oZ lS lT lL va g sz ke en fd' ou := by
      unfold wX_execute_87
      refine ⟨vs14, ?_⟩
      rw [cs, hy]; exact h
    rcases hop with hop | hop
    · exact br_f (by rw [hop]; decide) (br_t hop g1)
    · exact br_f (by rw [hop]; decide) (br_f (by rw [hop]; decide) (br_t hop g1))
  · refine br_f (by rcases hop with h | h <;> rw [h] <;> decide) (br_f (by rcases hop with h | h <;> rw [h] <;> decide) (br_f (by rcases hop with h | h <;> rw [h] <;> decide) ⟨vs14, ?_⟩))
    rw [cs, hx]; exact h
theorem x_none {post : Int32 → SX → Prop} {s e : Nat} {op : Int32} {rg' : Nat → Int64} {iu' sz' : Nat → Int32} (hw : ∀ P : Int64 → SX → Prop, P 3 (eN, sN, oL, fC, oC, wt, cK, cO, cR, rg', oP, oX, oY, oZ, lS, lT, lL, va, iu', sz', ke, en, fd, ou) → wpX_workOut P (eN, sN, oL, fC, oC, wt, cK, cO, cR, rg, oP, oX, oY, oZ, lS, lT, lL, va, iu, sz, ke, en, fd, ou) (nI e)) (h : post (-1) (eN, sN, oL, fC, oC, wt, cK, cO, cR, rg', oP, oX, oY, oZ, lS, lT, lL, va, iu', sz', ke, en, fd, ou)) : wX_execute_102 post (nI s) op (nI e) eN sN oL fC oC wt cK cO cR rg oP oX oY oZ lS lT lL va iu sz ke en fd ou := by
  unfold wX_execute_102
  refine hw _ ?_
  exact br_t rfl h
theorem x_let {post : Int32 → SX → Prop} {s e v : Nat} {V : Int64} {rg' : Nat → Int64} {iu' sz' : Nat → Int32} (hw : ∀ P : Int64 → SX → Prop, P V (eN, sN, oL, fC, oC, wt, cK, cO, cR, rg', oP, oX, oY, oZ, lS, lT, lL, va, iu', sz', ke, en, fd, ou) → wpX_workOut P (eN, sN, oL, fC, oC, wt, cK, cO, cR, rg, oP, oX, oY, oZ, lS, lT, lL, va, iu, sz, ke, en, fd, ou) (nI e)) (hV : ¬ V = 3) (hs : s < 14) (hv : v < 6) (hx : oX s = nI v) (h : post (nI (s + 1)) (eN, sN, oL, fC, oC, wt, cK, cO, cR, rg', oP, oX, oY, oZ, lS, lT, lL, vp_updL va v V, iu', sz', ke, en, fd, ou)) : wX_execute_102 post (nI s) 0 (nI e) eN sN oL fC oC wt cK cO cR rg oP oX oY oZ lS lT lL va iu sz ke en fd ou := by
  have cs : (nI s).toNatClampNeg = s := nI_clamp (by omega)
  unfold wX_execute_102
  refine hw _ ?_
  refine br_f hV (br_f (by decide) (br_f (by decide) (br_t rfl ⟨vp_in_nI hs (by decide), ?_⟩)))
  rw [cs, hx, nI_1]
  exact ⟨vp_in_nI hv (by decide), nm_r (by rw [nI_clamp (by omega)]) h⟩
theorem x_if {post : Int32 → SX → Prop} {E s e nx : Nat} {V : Int64} {rg' : Nat → Int64} {iu' sz' : Nat → Int32} (hw : ∀ P : Int64 → SX → Prop, P V (eN, sN, oL, fC, oC, wt, cK, cO, cR, rg', oP, oX, oY, oZ, lS, lT, lL, va, iu', sz', ke, en, fd, ou) → wpX_workOut P (eN, sN, oL, fC, oC, wt, cK, cO, cR, rg, oP, oX, oY, oZ, lS, lT, lL, va, iu, sz, ke, en, fd, ou) (nI e)) (hV : ¬ V = 3) (hs : s < 14) (hst : tm_st E (oP s) (oX s) (oY s) (oZ s)) (hn : (V = 0 ∧ nx = tm_nm oP oY oZ s + 1) ∨ (¬ V = 0 ∧ nx = s + 1)) (h : post (nI nx) (eN, sN, oL, fC, oC, wt, cK, cO, cR, rg', oP, oX, oY, oZ, lS, lT, lL, va, iu', sz', ke, en, fd, ou)) : wX_execute_102 post (nI s) 2 (nI e) eN sN oL fC oC wt cK cO cR rg oP oX oY oZ lS lT lL va iu sz ke en fd ou := by
  unfold wX_execute_102
  refine hw _ ?_
  refine br_f hV (br_f (by decide) (br_f (by decide) (br_f (by decide) (br_f (by decide) (br_t rfl ?_)))))
  rcases hn with ⟨h0, rfl⟩ | ⟨h0, rfl⟩
  · refine br_t h0 (xn_named hs hst ?_)
    rw [nI_1]; exact h
  · refine br_f h0 ?_
    rw [nI_1]; exact h
theorem x_show {post : Int32 → SX → Prop} {s e : Nat} {V : Int64} {rg' : Nat → Int64} {iu' sz' : Nat → Int32} {oC' : Int32} {ou' : Nat → Int64} (hw : ∀ P : Int64 → SX → Prop, P V (eN, sN, oL, fC, oC, wt, cK, cO, cR, rg', oP, oX, oY, oZ, lS, lT, lL, va, iu', sz', ke, en, fd, ou) → wpX_workOut P (eN, sN, oL, fC, oC, wt, cK, cO, cR, rg, oP, oX, oY, oZ, lS, lT, lL, va, iu, sz, ke, en, fd, ou) (nI e)) (hV : ¬ V = 3) (hsh : ∀ P : SX → Prop, P (eN, sN, oL, fC, oC', wt, cK, cO, cR, rg', oP, oX, oY, oZ, lS, lT, lL, va, iu', sz', ke, en, fd, ou') → wpX_show P (eN, sN, oL, fC, oC, wt, cK, cO, cR, rg', oP, oX, oY, oZ, lS, lT, lL, va, iu', sz', ke, en, fd, ou) V) (h : post (nI (s + 1)) (eN, sN, oL, fC, oC', wt, cK, cO, cR, rg', oP, oX, oY, oZ, lS, lT, lL, va, iu', sz', ke, en, fd, ou')) : wX_execute_102 post (nI s) 4 (nI e) eN sN oL fC oC wt cK cO cR rg oP oX oY oZ lS lT lL va iu sz ke en fd ou := by
  unfold wX_execute_102
  refine hw _ ?_
  refine br_f hV (br_f (by decide) (br_t (by decide) ?_))
  unfold wX_execute_198
  refine hsh _ ?_
  dsimp only
  rw [nI_1]; exact h
theorem x_loopF {post : Int32 → SX → Prop} {s e : Nat} {a b : Int32} {rg' : Nat → Int64} {iu' sz' : Nat → Int32} (hw : ∀ P : Int64 → SX → Prop, P (cv_e a b) (eN, sN, oL, fC, oC, wt, cK, cO, cR, rg', oP, oX, oY, oZ, lS, lT, lL, va, iu', sz', ke, en, fd, ou) → wpX_workOut P (eN, sN, oL, fC, oC, wt, cK, cO, cR, rg, oP, oX, oY, oZ, lS, lT, lL, va, iu, sz, ke, en, fd, ou) (nI e)) (ok : cv_s a b) (h1 : ¬ a = 1) (h : post (-1) (eN, sN, oL, fC, oC, wt, cK, cO, cR, rg', oP, oX, oY, oZ, lS, lT, lL, va, iu', sz', ke, en, fd, ou)) : wX_execute_102 post (nI s) 3 (nI e) eN sN oL fC oC wt cK cO cR rg oP oX oY oZ lS lT lL va iu sz ke en fd ou := by
  unfold wX_execute_102
  refine hw _ ?_
  refine br_f (cv_ne3 ok) (br_f (by decide) (br_f (by decide) (br_f (by decide) (br_f (by decide) (br_f (by decide) (br_t rfl ?_))))))
  unfold wpX_openLoop
  exact xv_intF ok h1 (br_t rfl h)
theorem x_loop {post : Int32 → SX → Prop} {E s e l : Nat} {b lim : Int32} {rg' : Nat → Int64} {iu' sz' : Nat → Int32} (hw : ∀ P : Int64 → SX → Prop, P (cv_e 1 b) (eN, sN, nI l, fC, oC, wt, cK, cO, cR, rg', oP, oX, oY, oZ, lS, lT, lL, va, iu', sz', ke, en, fd, ou) → wpX_workOut P (eN, sN, nI l, fC, oC, wt, cK, cO, cR, rg, oP, oX, oY, oZ, lS, lT, lL, va, iu, sz, ke, en, fd, ou) (nI e)) (hs : s < 14) (hst : tm_st E (oP s) (oX s) (oY s) (oZ s)) (hl : l < 2) (hlim : (b ≤ 5 ∧ lim = b) ∨ (¬ b ≤ 5 ∧ lim = 5)) (h : post (nI (tm_nm oP oY oZ s + 1)) (eN, sN, nI (l + 1), fC, oC, wt, cK, cO, cR, rg', oP, oX, oY, oZ, upd lS l (nI s), upd lT l 0, upd lL l lim, va, iu', sz', ke, en, fd, ou)) : wX_execute_102 post (nI s) 3 (nI e) eN sN (nI l) fC oC wt cK cO cR rg oP oX oY oZ lS lT lL va iu sz ke en fd ou := by
  have ok : cv_s 1 b := Or.inr (Or.inl rfl)
  have vl : vp_in (nI l) 2 := vp_in_nI hl (by decide)
  have cl : (nI l).toNatClampNeg = l := nI_clamp (by omega)
  have g1 : wX_openLoop_55 post (nI s) lim (nI l) eN sN (nI l) fC oC wt cK cO cR rg' oP oX oY oZ (upd lS l (nI s)) (upd lT l 0) lL va iu' sz' ke en fd ou := by
    unfold wX_openLoop_55
    refine ⟨vl, nm_r (by rw [cl]) (nm_r (nI_1 l) (xn_named hs hst ?_))⟩
    rw [nI_1]; exact h
  unfold wX_execute_102
  refine hw _ ?_
  refine br_f (cv_ne3 ok) (br_f (by decide) (br_f (by decide) (br_f (by decide) (br_f (by decide) (br_f (by decide) (br_t rfl ?_))))))
  unfold wpX_openLoop
  refine xv_intT ok rfl (br_f (by decide) (xv_num ok ⟨vl, nm_r (by rw [cl]) ⟨vl, nm_r (by rw [cl]) ?_⟩⟩))
  rcases hlim with ⟨q, rfl⟩ | ⟨q, rfl⟩
  · exact br_t q g1
  · exact br_f q g1
theorem x_put {post : Int32 → SX → Prop} {c s e1 e2 e3 : Nat} {g fd' : Nat → Int32} {V1 V2 V3 : Int64} {r1 r2 r3 : Nat → Int64} {i1 i2 i3 z1 z2 z3 : Nat → Int32} {b : Int32} {sz' ke' : Nat → Int32} {en' : Nat → Int64} (hcol : ∀ P : Int32 → SX → Prop, P (nI c) (eN, sN, oL, nI c, oC, wt, cK, cO, cR, rg, oP, oX, oY, oZ, lS, lT, lL, va, g, sz, ke, en, fd', ou) → wpX_collect P (eN, sN, oL, fC, oC, wt, cK, cO, cR, rg, oP, oX, oY, oZ, lS, lT, lL, va, iu, sz, ke, en, fd, ou)) (hc : c ≤ 8) (hs : s < 14) (ho : oP s = 1) (hx : oX s = nI e1) (hy : oY s = nI e2) (hz : oZ s = nI e3)
    (w1 : ∀ P : Int64 → SX → Prop, P V1 (eN, sN, oL, nI c, oC, wt, cK, cO, cR, r1, oP, oX, oY, oZ, lS, lT, lL, va, i1, z1, ke, en, fd', ou) → wpX_workOut P (eN, sN, oL, nI c, oC, wt, cK, cO, cR, rg, oP, oX, oY, oZ, lS, lT, lL, va, g, sz, ke, en, fd', ou) (nI e1))
    (w2 : ∀ P : Int64 → SX → Prop, P V2 (eN, sN, oL, nI c, oC, wt, cK, cO, cR, r2, oP, oX, oY, oZ, lS, lT, lL, va, i2, z2, ke, en, fd', ou) → wpX_workOut P (eN, sN, oL, nI c, oC, wt, cK, cO, cR, r1, oP, oX, oY, oZ, lS, lT, lL, va, i1, z1, ke, en, fd', ou) (nI e2))
    (w3 : ∀ P : Int64 → SX → Prop, P V3 (eN, sN, oL, nI c, oC, wt, cK, cO, cR, r3, oP, oX, oY, oZ, lS, lT, lL, va, i3, z3, ke, en, fd', ou) → wpX_workOut P (eN, sN, oL, nI c, oC, wt, cK, cO, cR, r2, oP, oX, oY, oZ, lS, lT, lL, va, i2, z2, ke, en, fd', ou) (nI e3))
    (wp : ∀ P : Int32 → SX → Prop, P b (eN, sN, oL, nI c, oC, wt, cK, cO, cR, r3, oP, oX, oY, oZ, lS, lT, lL, va, i3, sz', ke', en', fd', ou) → wpX_putEntry P (eN, sN, oL, nI c, oC, wt, cK, cO, cR, r3, oP, oX, oY, oZ, lS, lT, lL, va, i3, z3, ke, en, fd', ou) V1 V2 V3)
    (h0 : b = 0 → post (-1) (eN, sN, oL, nI c, oC, wt, cK, cO, cR, r3, oP, oX, oY, oZ, lS, lT, lL, va, i3, sz', ke', en', fd', ou)) (h1 : ¬ b = 0 → post (nI (s + 1)) (eN, sN, oL, nI c, oC, wt, cK, cO, cR, r3, oP, oX, oY, oZ, lS, lT, lL, va, i3, sz', ke', en', fd', ou)) : wpX_execute post (eN, sN, oL, fC, oC, wt, cK, cO, cR, rg, oP, oX, oY, oZ, lS, lT, lL, va, iu, sz, ke, en, fd, ou) (nI s) := by
  have vs14 : vp_in (nI s) 14 := vp_in_nI hs (by decide)
  have cs : (nI s).toNatClampNeg = s := nI_clamp (by omega)
  unfold wpX_execute
  refine hcol _ ?_
  refine br_t (nI_le (b := 8) hc (by decide)) ⟨vs14, nm_r (by rw [cs, ho]) (br_t rfl ⟨vs14, ?_⟩)⟩
  rw [cs, hx]
  refine w1 _ ⟨vs14, ?_⟩
  rw [hy]
  refine w2 _ ⟨vs14, ?_⟩
  rw [hz]
  refine w3 _ (wp _ ⟨h0, fun q => ?_⟩)
  rw [nI_1]; exact h1 q
/-! the reference -/
theorem y_go {post : Int32 → SY → Prop} {J : Int32 → Int32 → Int32 → Int32 → Int32 → Int32 → Int32 → Int32 → Int32 → (Nat → Int32) → (Nat → Int32) → (Nat → Int32) → (Nat → Int32) → (Nat → Int32) → (Nat → Int32) → (Nat → Int32) → (Nat → Int32) → (Nat → Int32) → (Nat → Int32) → (Nat → Int32) → (Nat → Int32) → (Nat → Int32) → (Nat → Int32) → (Nat → Int32) → (Nat → Int32) → (Nat → Int64) → (Nat → Int32) → (Nat → Int32) → (Nat → Int32) → (Nat → Int32) → (Nat → Int32) → (Nat → Int32) → (Nat → Int32) → Prop}
    {N c s k : Nat} {nx : Int32} {g sn' : Nat → Int32} {yC' dp' tp' fl' lo' : Int32} {vs' vn' zy' yK' es' eu' tk' wk' sg' so' nu' la' tu' lz' : Nat → Int32} {yO' : Nat → Int64}
    (hs : s < N) (hN : N ≤ 14) (hr : ∀ P : Int32 → SY → Prop, P (nI c) (yE, nI N, yC, dp, tp, fl, lo, kd, ex, ey, yW, yP, yX, yY, yZ, vs, vn, zy, yK, es, eu, tk, sn', yO, wk, sg, so, nu, la, tu, lz) → wpY_reach P (yE, nI N, yC, dp, tp, fl, lo, kd, ex, ey, yW, yP, yX, yY, yZ, vs, vn, zy, yK, es, eu, tk, sn, yO, wk, sg, so, nu, la, tu, lz)) (hc : c ≤ 8) (h01 : ∀ t, g t = 0 ∨ g t = 1) (hsn : ∀ t, t < 24 → sn' t = g t) (hg : ∀ t, 24 ≤ t → g t = 0) (htk : ∀ t, 24 ≤ t → tk t = 0)
    (hex : ∀ P : Int32 → SY → Prop, P nx (yE, nI N, yC', dp', tp', fl', lo', kd, ex, ey, yW, yP, yX, yY, yZ, vs', vn', zy', yK', es', eu', tk', sn', yO', wk', sg', so', nu', la', tu', lz') → wpY_execute P (yE, nI N, yC, dp, tp, fl, lo, kd, ex, ey, yW, yP, yX, yY, yZ, vs, vn, zy, yK, es, eu, g, sn', yO, wk, sg, so, nu, la, tu, lz) (nI s))
    (h0 : fl' = 0 → J nx (nI (k + 1)) yE (nI N) yC' dp' tp' fl' lo' kd ex ey yW yP yX yY yZ vs' vn' zy' yK' es' eu' tk' sn' yO' wk' sg' so' nu' la' tu' lz')
    (h1 : ¬ fl' = 0 → post (nI s) (yE, nI N, yC', dp', tp', fl', lo', kd, ex, ey, yW, yP, yX, yY, yZ, vs', vn', zy', yK', es', eu', tk', sn', yO', wk', sg', so', nu', la', tu', lz')) :
    wY_run_94 post J (nI s) (nI k) yE (nI N) yC dp tp fl lo kd ex ey yW yP yX yY yZ vs vn zy yK es eu tk sn yO wk sg so nu la tu lz := by
  have cp : ∀ d i : Nat, i + d = 24 → ∀ tk : Nat → Int32, (∀ t, t < i → tk t = g t) → (∀ t, 24 ≤ t → tk t = 0) → wY_run_118 post J (nI s) (nI k) yE (nI N) yC dp tp fl lo (d + 1) (nI i) kd ex ey yW yP yX yY yZ vs vn zy yK es eu tk sn' yO wk sg so nu la tu lz := by
    intro d
    induction d with
    | zero =>
      intro i hi tk a b
      obtain rfl : i = 24 := by omega
      have e : tk = g := funext fun t => by
        by_cases q : t < 24
        · exact a t q
        · rw [b t (by omega), hg t (by omega)]
      subst e
      exact br_t (by decide) (hex _ ⟨fun h => nm_r (nI_1 k) (h0 h), h1⟩)
    | succ d ih =>
      intro i hi tk a b
      have vi : vp_in (nI i) 24 := vp_in_nI (by omega) (by decide)
      have e : vp_nar .boolean (sn' i) = g i := by
        rw [hsn i (by omega)]
        rcases h01 i with h | h <;> rw [h]
        · exact cv_b0
        · exact cv_b1
      refine br_f (nI_ge (b := 24) (by omega) (by decide)) ⟨vi, vi, nm_r (by rw [nI_clamp (by omega), e]) (nm_r (nI_1 i) (ih (i + 1) (by omega) (upd tk i (g i)) (fun t ht => ?_) (fun t ht => ?_)))⟩
      · by_cases q : t = i
        · subst q; exact pk_us
        · rw [pk_un q]; exact a t (by omega)
      · rw [pk_un (by omega)]; exact b t ht
  unfold wY_run_94
  refine br_t (nI_lt hs (by omega)) (hr _ ?_)
  exact br_t (nI_le (b := 8) hc (by decide)) ⟨_, cp 24 0 (by decide) tk (fun t ht => by omega) htk⟩
theorem y_full {post : Int32 → SY → Prop} {J : Int32 → Int32 → Int32 → Int32 → Int32 → Int32 → Int32 → Int32 → Int32 → (Nat → Int32) → (Nat → Int32) → (Nat → Int32) → (Nat → Int32) → (Nat → Int32) → (Nat → Int32) → (Nat → Int32) → (Nat → Int32) → (Nat → Int32) → (Nat → Int32) → (Nat → Int32) → (Nat → Int32) → (Nat → Int32) → (Nat → Int32) → (Nat → Int32) → (Nat → Int32) → (Nat → Int64) → (Nat → Int32) → (Nat → Int32) → (Nat → Int32) → (Nat → Int32) → (Nat → Int32) → (Nat → Int32) → (Nat → Int32) → Prop}
    {N c s k : Nat} {sn' : Nat → Int32} (hs : s < N) (hN : N ≤ 14) (hr : ∀ P : Int32 → SY → Prop, P (nI c) (yE, nI N, yC, dp, tp, fl, lo, kd, ex, ey, yW, yP, yX, yY, yZ, vs, vn, zy, yK, es, eu, tk, sn', yO, wk, sg, so, nu, la, tu, lz) → wpY_reach P (yE, nI N, yC, dp, tp, fl, lo, kd, ex, ey, yW, yP, yX, yY, yZ, vs, vn, zy, yK, es, eu, tk, sn, yO, wk, sg, so, nu, la, tu, lz)) (hc : 8 < c) (hc2 : c ≤ 24) (h : post (nI s) (yE, nI N, yC, dp, tp, fl, lo, kd, ex, ey, yW, yP, yX, yY, yZ, vs, vn, zy, yK, es, eu, tk, sn', yO, wk, sg, so, nu, la, tu, lz)) : wY_run_94 post J (nI s) (nI k) yE (nI N) yC dp tp fl lo kd ex ey yW yP yX yY yZ vs vn zy yK es eu tk sn yO wk sg so nu la tu lz := by
  unfold wY_run_94
  refine br_t (nI_lt hs (by omega)) (hr _ ?_)
  exact br_f (nI_ge (a := 8) hc (by omega)) h
/-- a statement of one expression, up to the answer of work -/
theorem y_one {post : Int32 → SY → Prop} {s e : Nat} {op : Int32} {dp' tp' fl' : Int32} {zy' tk' wk' sg' so' nu' : Nat → Int32} (hs : s < 14) (ho : yP s = op) (hz : ((op = 0 ∨ op = 3) ∧ yY s = nI e) ∨ ((op = 2 ∨ op = 4) ∧ yX s = nI e))
    (hw : ∀ P : SY → Prop, P (yE, yN, yC, dp', tp', fl', lo, kd, ex, ey, yW, yP, yX, yY, yZ, vs, vn, zy', yK, es, eu, tk', sn, yO, wk', sg', so', nu', la, tu, lz) → wpY_work P (yE, yN, yC, dp, nI 0, fl, lo, kd, ex, ey, yW, yP, yX, yY, yZ, vs, vn, zy, yK, es, eu, tk, sn, yO, wk, sg, so, nu, la, tu, lz) (nI e)) (h : wY_execute_99 post (nI s) yE yN yC dp' tp' fl' lo kd ex ey yW yP yX yY yZ vs vn zy' yK es eu tk' sn yO wk' sg' so' nu' la tu lz) : wpY_execute post (yE, yN, yC, dp, tp, fl, lo, kd, ex, ey, yW, yP, yX, yY, yZ, vs, vn, zy, yK, es, eu, tk, sn, yO, wk, sg, so, nu, la, tu, lz) (nI s) := by
  have v14 : vp_in (nI s) 14 := vp_in_nI hs (by decide)
  have cs : (nI s).toNatClampNeg = s := nI_clamp (by omega)
  have n1 : ¬ yP (nI s).toNatClampNeg = 1 := by
    rw [cs, ho]
    rcases hz with ⟨h | h, _⟩ | ⟨h | h, _⟩ <;> rw [h] <;> decide
  have g39 : wY_execute_39 post (nI s) (nI e) yE yN yC dp (nI 0) fl lo kd ex ey yW yP yX yY yZ vs vn zy yK es eu tk sn yO wk sg so nu la tu lz := by
    unfold wY_execute_39
    refine hw _ ⟨v14, br_f n1 ⟨v14, br_f n1 h⟩⟩
  unfold wpY_execute
  refine ⟨v14, ?_⟩
  rw [cs, ho]
  rcases hz with ⟨hop, hy⟩ | ⟨hop, hx⟩
  · have g24 : wY_execute_24 post (nI s) yE yN yC dp (nI 0) fl lo kd ex ey yW yP yX yY yZ vs vn zy yK es eu tk sn yO wk sg so nu la tu lz := by
      unfold wY_execute_24
      refine ⟨v14, ?_⟩
      rw [cs, hy]; exact g39
    rcases hop with hop | hop
    · exact br_t hop g24
    · exact br_f (by rw [hop]; decide) ⟨v14, br_t hop g24⟩
  · refine br_f (by rcases hop with h | h <;> rw [h] <;> decide) ⟨v14, br_f (by rcases hop with h | h <;> rw [h] <;> decide) ⟨v14, ?_⟩⟩
    rw [hx]; exact g39
theorem y_fail {post : Int32 → SY → Prop} {s : Nat} (h : post (nI s) (yE, yN, yC, dp, tp, 1, lo, kd, ex, ey, yW, yP, yX, yY, yZ, vs, vn, zy, yK, es, eu, tk, sn, yO, wk, sg, so, nu, la, tu, lz)) : wY_execute_99 post (nI s) yE yN yC dp tp 1 lo kd ex ey yW yP yX yY yZ vs vn zy yK es eu tk sn yO wk sg so nu la tu lz := by
  unfold wY_execute_99
  exact br_f (by decide) h
theorem y_set {post : SY → Prop} {v : Nat} {a b : Int32} (hv : v < 6) (h : post (yE, yN, yC, dp, tp, fl, lo, kd, ex, ey, yW, yP, yX, yY, yZ, upd vs v a, upd vn v b, zy, yK, es, eu, tk, sn, yO, wk, sg, so, nu, la, tu, lz)) : wpY_set post (yE, yN, yC, dp, tp, fl, lo, kd, ex, ey, yW, yP, yX, yY, yZ, vs, vn, zy, yK, es, eu, tk, sn, yO, wk, sg, so, nu, la, tu, lz) (nI v) a b := by
  have vv : vp_in (nI v) 6 := vp_in_nI hv (by decide)
  have cv : (nI v).toNatClampNeg = v := nI_clamp (by omega)
  unfold wpY_set
  exact ⟨vv, nm_r (by rw [cv]) ⟨vv, nm_r (by rw [cv]) h⟩⟩
theorem y_let {post : Int32 → SY → Prop} {s v : Nat} (hs : s < 14) (ho : yP s = 0) (hv : v < 6) (hx : yX s = nI v) (h : post (nI (s + 1)) (yE, yN, yC, dp, tp, 0, lo, kd, ex, ey, yW, yP, yX, yY, yZ, upd vs v (so 0), upd vn v (nu 0), zy, yK, es, eu, tk, sn, yO, wk, sg, so, nu, la, tu, lz)) : wY_execute_99 post (nI s) yE yN yC dp tp 0 lo kd ex ey yW yP yX yY yZ vs vn zy yK es eu tk sn yO wk sg so nu la tu lz := by
  have v14 : vp_in (nI s) 14 := vp_in_nI hs (by decide)
  have cs : (nI s).toNatClampNeg = s := nI_clamp (by omega)
  have nq : ∀ j : Int32, ¬ j = 0 → ¬ yP (nI s).toNatClampNeg = j := fun j hj z => hj (by rw [← z, cs, ho])
  unfold wY_execute_99
  refine br_t rfl ⟨v14, br_t (by rw [cs]; exact ho) ⟨v14, ?_⟩⟩
  rw [cs, hx]
  refine y_set hv ⟨v14, br_f (nq 1 (by decide)) ⟨v14, br_f (nq 2 (by decide)) ⟨v14, br_f (nq 4 (by decide)) ⟨v14, br_f (nq 3 (by decide)) ?_⟩⟩⟩⟩
  rw [nI_1]; exact h
theorem y_if {post : Int32 → SY → Prop} {E s nx : Nat} (hs : s < 14) (ho : yP s = 2) (hst : tm_st E (yP s) (yX s) (yY s) (yZ s)) (hn : (so 0 = 0 ∧ nx = tm_nm yP yY yZ s + 1) ∨ (¬ so 0 = 0 ∧ nx = s + 1)) (h : post (nI nx) (yE, yN, yC, dp, tp, 0, lo, kd, ex, ey, yW, yP, yX, yY, yZ, vs, vn, zy, yK, es, eu, tk, sn, yO, wk, sg, so, nu, la, tu, lz)) : wY_execute_99 post (nI s) yE yN yC dp tp 0 lo kd ex ey yW yP yX yY yZ vs vn zy yK es eu tk sn yO wk sg so nu la tu lz := by
  have v14 : vp_in (nI s) 14 := vp_in_nI hs (by decide)
  have cs : (nI s).toNatClampNeg = s := nI_clamp (by omega)
  have nq : ∀ j : Int32, ¬ j = 2 → ¬ yP (nI s).toNatClampNeg = j := fun j hj z => hj (by rw [← z, cs, ho])
  unfold wY_execute_99
  refine br_t rfl ⟨v14, br_f (nq 0 (by decide)) ⟨v14, br_f (nq 1 (by decide)) ⟨v14, br_t (by rw [cs]; exact ho) ?_⟩⟩⟩
  rcases hn with ⟨h0, rfl⟩ | ⟨h0, rfl⟩
  · refine br_t h0 (yn_named hs hst ?_)
    rw [nI_1]; exact h
  · refine br_f h0 ⟨v14, br_f (nq 4 (by decide)) ⟨v14, br_f (nq 3 (by decide)) ?_⟩⟩
    rw [nI_1]; exact h
theorem y_show {post : Int32 → SY → Prop} {s : Nat} {yC' : Int32} {yO' : Nat → Int64} (hs : s < 14) (ho : yP s = 4) (hsh : ∀ P : SY → Prop, P (yE, yN, yC', dp, tp, 0, lo, kd, ex, ey, yW, yP, yX, yY, yZ, vs, vn, zy, yK, es, eu, tk, sn, yO', wk, sg, so, nu, la, tu, lz) → wpY_show P (yE, yN, yC, dp, tp, 0, lo, kd, ex, ey, yW, yP, yX, yY, yZ, vs, vn, zy, yK, es, eu, tk, sn, yO, wk, sg, so, nu, la, tu, lz)) (h : post (nI (s + 1)) (yE, yN, yC', dp, tp, 0, lo, kd, ex, ey, yW, yP, yX, yY, yZ, vs, vn, zy, yK, es, eu, tk, sn, yO', wk, sg, so, nu, la, tu, lz)) : wY_execute_99 post (nI s) yE yN yC dp tp 0 lo kd ex ey yW yP yX yY yZ vs vn zy yK es eu tk sn yO wk sg so nu la tu lz := by
  have v14 : vp_in (nI s) 14 := vp_in_nI hs (by decide)
  have cs : (nI s).toNatClampNeg = s := nI_clamp (by omega)
  have nq : ∀ j : Int32, ¬ j = 4 → ¬ yP (nI s).toNatClampNeg = j := fun j hj z => hj (by rw [← z, cs, ho])
  unfold wY_execute_99
  refine br_t rfl ⟨v14, br_f (nq 0 (by decide)) ⟨v14, br_f (nq 1 (by decide)) ⟨v14, br_f (nq 2 (by decide)) ⟨v14, br_t (by rw [cs]; exact ho) (hsh _ ⟨v14, br_f (nq 3 (by decide)) ?_⟩)⟩⟩⟩⟩
  rw [nI_1]; exact h
theorem y_194 {post : Int32 → SY → Prop} {s : Nat} (hs : s < 14) (ho : yP s = 3) (h : wY_execute_194 post (nI s) yE yN yC dp tp 0 lo kd ex ey yW yP yX yY yZ vs vn zy yK es eu tk sn yO wk sg so nu la tu lz) : wY_execute_99 post (nI s) yE yN yC dp tp 0 lo kd ex ey yW yP yX yY yZ vs vn zy yK es eu tk sn yO wk sg so nu la tu lz := by
  have v14 : vp_in (nI s) 14 := vp_in_nI hs (by decide)
  have cs : (nI s).toNatClampNeg = s := nI_clamp (by omega)
  have nq : ∀ j : Int32, ¬ j = 3 → ¬ yP (nI s).toNatClampNeg = j := fun j hj z => hj (by rw [← z, cs, ho])
  unfold wY_execute_99
  exact br_t rfl ⟨v14, br_f (nq 0 (by decide)) ⟨v14, br_f (nq 1 (by decide)) ⟨v14, br_f (nq 2 (by decide)) ⟨v14, br_f (nq 4 (by decide)) h⟩⟩⟩⟩
theorem y_loopF {post : Int32 → SY → Prop} {s : Nat} (hs : s < 14) (ho : yP s = 3) (h1 : ¬ so 0 = 1) (h : post (nI (s + 1)) (yE, yN, yC, dp, tp, 1, lo, kd, ex, ey, yW, yP, yX, yY, yZ, vs, vn, zy, yK, es, eu, tk, sn, yO, wk, sg, so, nu, la, tu, lz)) : wY_execute_99 post (nI s) yE yN yC dp tp 0 lo kd ex ey yW yP yX yY yZ vs vn zy yK es eu tk sn yO wk sg so nu la tu lz := by
  refine y_194 hs ho ⟨vp_in_nI hs (by decide), br_t (by rw [nI_clamp (by omega)]; exact ho) (br_f h1 ?_)⟩
  rw [nI_1]; exact h
theorem y_loop0 {post : Int32 → SY → Prop} {E s : Nat} (hs : s < 14) (ho : yP s = 3) (hst : tm_st E (yP s) (yX s) (yY s) (yZ s)) (h1 : so 0 = 1) (hn : ¬ 1 ≤ nu 0) (h : post (nI (tm_nm yP yY yZ s + 1)) (yE, yN, yC, dp, tp, 0, lo, kd, ex, ey, yW, yP, yX, yY, yZ, vs, vn, zy, yK, es, eu, tk, sn, yO, wk, sg, so, nu, la, tu, lz)) : wY_execute_99 post (nI s) yE yN yC dp tp 0 lo kd ex ey yW yP yX yY yZ vs vn zy yK es eu tk sn yO wk sg so nu la tu lz := by
  refine y_194 hs ho ⟨vp_in_nI hs (by decide), br_t (by rw [nI_clamp (by omega)]; exact ho) (br_t h1 (br_f hn (yn_named hs hst ?_)))⟩
  rw [nI_1]; exact h
theorem y_loop1 {post : Int32 → SY → Prop} {s l v : Nat} {lim : Int32} (hs : s < 14) (ho : yP s = 3) (h1 : so 0 = 1) (hn : 1 ≤ nu 0) (hl : l < 2) (hv : v < 6) (hx : yX s = nI v) (hlim : (nu 0 ≤ 5 ∧ lim = nu 0) ∨ (¬ nu 0 ≤ 5 ∧ lim = 5)) (h : post (nI (s + 1)) (yE, yN, yC, dp, tp, 0, nI (l + 1), kd, ex, ey, yW, yP, yX, yY, yZ, upd vs v 1, upd vn v 1, zy, yK, es, eu, tk, sn, yO, wk, sg, so, nu, upd la l (nI s), upd tu l 1, upd lz l lim)) : wY_execute_99 post (nI s) yE yN yC dp tp 0 (nI l) kd ex ey yW yP yX yY yZ vs vn zy yK es eu tk sn yO wk sg so nu la tu lz := by
  have v14 : vp_in (nI s) 14 := vp_in_nI hs (by decide)
  have vl : vp_in (nI l) 2 := vp_in_nI hl (by decide)
  have cl : (nI l).toNatClampNeg = l := nI_clamp (by omega)
  have cs : (nI s).toNatClampNeg = s := nI_clamp (by omega)
  have g1 : wY_execute_288 post (nI s) lim (nI l) yE yN yC dp tp 0 (nI l) kd ex ey yW yP yX yY yZ vs vn zy yK es eu tk sn yO wk sg so nu (upd la l (nI s)) (upd tu l 1) lz := by
    unfold wY_execute_288
    refine ⟨vl, nm_r (by rw [cl]) (nm_r (nI_1 l) ⟨v14, ?_⟩)⟩
    rw [cs, hx]
    refine y_set hv ?_
    dsimp only
    rw [nI_1]; exact h
  refine y_194 hs ho ⟨v14, br_t (by rw [cs]; exact ho) (br_t h1 (br_t hn ⟨vl, nm_r (by rw [cl]) ⟨vl, nm_r (by rw [cl]) ?_⟩⟩))⟩
  rcases hlim with ⟨q, rfl⟩ | ⟨q, rfl⟩
  · exact br_t q g1
  · exact br_f q g1
end
