/-! one instruction of the register code, one step of the tree walk, and what the operations answer on both sides -/
def ev_o : Option (Int32 × Int32) → Int64
  | none => 3
  | some v => cv_e v.1 v.2
theorem cv_okm {U V : Nat → Int32} {s n : Int32} (h : cv_ok U s n) (m : ∀ t, ¬ U t = 0 → ¬ V t = 0) : cv_ok V s n := by
  rcases h with h | h | ⟨h, p, hp, hn, hU⟩
  · exact Or.inl h
  · exact Or.inr (Or.inl h)
  · exact Or.inr (Or.inr ⟨h, p, hp, hn, m p hU⟩)
section
variable {eN sN oL fC oC : Int32} {wt cK cO cR : Nat → Int32} {rg : Nat → Int64} {oP oX oY oZ lS lT lL : Nat → Int32} {va : Nat → Int64} {iu sz ke : Nat → Int32} {en : Nat → Int64} {fd : Nat → Int32} {ou : Nat → Int64} {yE yN yC dp tp fl lo : Int32} {kd ex ey yW yP yX yY yZ vs vn zy yK es eu tk sn : Nat → Int32} {yO : Nat → Int64} {wk sg so nu la tu lz : Nat → Int32}
theorem x205_ok {post : Int64 → SX → Prop} {J : Int32 → Int32 → Int32 → Int32 → Int32 → Int32 → Int32 → (Nat → Int32) → (Nat → Int32) → (Nat → Int32) → (Nat → Int32) → (Nat → Int64) → (Nat → Int32) → (Nat → Int32) → (Nat → Int32) → (Nat → Int32) → (Nat → Int32) → (Nat → Int32) → (Nat → Int32) → (Nat → Int64) → (Nat → Int32) → (Nat → Int32) → (Nat → Int32) → (Nat → Int64) → (Nat → Int32) → (Nat → Int64) → Prop}
    {a k r s : Nat} {x3 : Int32} (hr : r < 4) (hV : ¬ rg r = 3) (h : J (nI (a + (1 + s))) (nI (k + 1)) eN sN oL fC oC wt cK cO cR rg oP oX oY oZ lS lT lL va iu sz ke en fd ou) : wX_workOut_205 post J (nI a) x3 (nI k) (nI r) (nI s) eN sN oL fC oC wt cK cO cR rg oP oX oY oZ lS lT lL va iu sz ke en fd ou := by
  have e : nI a + (1 + nI s) = nI (a + (1 + s)) := by rw [show (1 : Int32) + nI s = nI (1 + s) from nI_add 1 s, nI_add]
  exact ⟨vp_in_nI hr (by decide), br_f (by rw [nI_clamp (by omega)]; exact hV) (nm_r e (nm_r (nI_1 k) h))⟩
theorem x205_no {post : Int64 → SX → Prop} {J : Int32 → Int32 → Int32 → Int32 → Int32 → Int32 → Int32 → (Nat → Int32) → (Nat → Int32) → (Nat → Int32) → (Nat → Int32) → (Nat → Int64) → (Nat → Int32) → (Nat → Int32) → (Nat → Int32) → (Nat → Int32) → (Nat → Int32) → (Nat → Int32) → (Nat → Int32) → (Nat → Int64) → (Nat → Int32) → (Nat → Int32) → (Nat → Int32) → (Nat → Int64) → (Nat → Int32) → (Nat → Int64) → Prop}
    {a k r : Nat} {x3 s : Int32} (hr : r < 4) (hV : rg r = 3) (h : post 3 (eN, sN, oL, fC, oC, wt, cK, cO, cR, rg, oP, oX, oY, oZ, lS, lT, lL, va, iu, sz, ke, en, fd, ou)) : wX_workOut_205 post J (nI a) x3 (nI k) (nI r) s eN sN oL fC oC wt cK cO cR rg oP oX oY oZ lS lT lL va iu sz ke en fd ou :=
  ⟨vp_in_nI hr (by decide), br_t (by rw [nI_clamp (by omega)]; exact hV) h⟩
theorem xs_leaf {post : Int64 → SX → Prop} {En m a k r : Nat} {kk oo : Int32} {V : Int64} {iu' sz' : Nat → Int32} (ha : a < En) (hE : En ≤ 210) (hk : k < 7) (hr : r < 4) (hK : cK a = kk) (hkk : kk = 0 ∨ kk = 1 ∨ kk = 11) (hO : cO a = oo) (hR : cR a = nI r)
    (hf : ∀ P : Int64 → SX → Prop, P V (eN, sN, oL, fC, oC, wt, cK, cO, cR, rg, oP, oX, oY, oZ, lS, lT, lL, va, iu', sz', ke, en, fd, ou) → wpX_fetch P (eN, sN, oL, fC, oC, wt, cK, cO, cR, rg, oP, oX, oY, oZ, lS, lT, lL, va, iu, sz, ke, en, fd, ou) kk oo) (h : wX_workOut_205 post (wX_workOut_17 post (nI En) m) (nI a) (nI En) (nI k) (nI r) 0 eN sN oL fC oC wt cK cO cR (vp_updL rg r V) oP oX oY oZ lS lT lL va iu' sz' ke en fd ou) : wX_workOut_17 post (nI En) (m + 1) (nI a) (nI k) eN sN oL fC oC wt cK cO cR rg oP oX oY oZ lS lT lL va iu sz ke en fd ou := by
  have ha' : vp_in (nI a) 210 := vp_in_nI (by omega) (by decide)
  have hc : (nI a).toNatClampNeg = a := nI_clamp (by omega)
  have n7 : ¬ kk = 7 := by rcases hkk with rfl | rfl | rfl <;> decide
  have n8 : ¬ kk = 8 := by rcases hkk with rfl | rfl | rfl <;> decide
  refine br_f (nI_ge (b := 7) hk (by decide)) (br_f (nI_ge ha (by omega)) ⟨ha', nm_r (by rw [hc, hK]) ⟨ha', nm_r (by rw [hc, hR]) (xe_p0 hkk (br_f n7 (br_f n8 (br_t rfl ⟨ha', ?_⟩))))⟩⟩)
  rw [hc, hO]
  exact hf _ ⟨vp_in_nI hr (by decide), nm_r (by rw [nI_clamp (by omega)]) h⟩
theorem xs_one {post : Int64 → SX → Prop} {En m a k r : Nat} {kk : Int32} {V : Int64} (ha : a < En) (hE : En ≤ 210) (hk : k < 7) (hr : r < 4) (hK : cK a = kk) (hkk : kk = 9 ∨ kk = 12) (hR : cR a = nI r)
    (hf : ∀ P : Int64 → Prop, P V → wpX_ofOne P (eN, sN, oL, fC, oC, wt, cK, cO, cR, rg, oP, oX, oY, oZ, lS, lT, lL, va, iu, sz, ke, en, fd, ou) kk (rg r)) (h : wX_workOut_205 post (wX_workOut_17 post (nI En) m) (nI a) (nI En) (nI k) (nI r) 0 eN sN oL fC oC wt cK cO cR (vp_updL rg r V) oP oX oY oZ lS lT lL va iu sz ke en fd ou) : wX_workOut_17 post (nI En) (m + 1) (nI a) (nI k) eN sN oL fC oC wt cK cO cR rg oP oX oY oZ lS lT lL va iu sz ke en fd ou := by
  have ha' : vp_in (nI a) 210 := vp_in_nI (by omega) (by decide)
  have hc : (nI a).toNatClampNeg = a := nI_clamp (by omega)
  have hr' : vp_in (nI r) 4 := vp_in_nI hr (by decide)
  have n7 : ¬ kk = 7 := by rcases hkk with rfl | rfl <;> decide
  have n8 : ¬ kk = 8 := by rcases hkk with rfl | rfl <;> decide
  refine br_f (nI_ge (b := 7) hk (by decide)) (br_f (nI_ge ha (by omega)) ⟨ha', nm_r (by rw [hc, hK]) ⟨ha', nm_r (by rw [hc, hR]) (xe_p1 hkk (br_f n7 (br_f n8 (br_f (by decide) (br_t rfl ⟨hr', ?_⟩)))))⟩⟩)
  rw [nI_clamp (n := r) (by omega)]
  exact hf _ ⟨hr', nm_r rfl h⟩
theorem xs_two {post : Int64 → SX → Prop} {En m a k r : Nat} {kk : Int32} {V : Int64} (ha : a < En) (hE : En ≤ 210) (hk : k < 7) (hr : r + 1 < 4) (hK : cK a = kk) (hkk : tm_k2 kk) (hR : cR a = nI r)
    (hf : ∀ P : Int64 → Prop, P V → wpX_ofTwo P (eN, sN, oL, fC, oC, wt, cK, cO, cR, rg, oP, oX, oY, oZ, lS, lT, lL, va, iu, sz, ke, en, fd, ou) kk (rg r) (rg (r + 1))) (h : wX_workOut_205 post (wX_workOut_17 post (nI En) m) (nI a) (nI En) (nI k) (nI r) 0 eN sN oL fC oC wt cK cO cR (vp_updL rg r V) oP oX oY oZ lS lT lL va iu sz ke en fd ou) : wX_workOut_17 post (nI En) (m + 1) (nI a) (nI k) eN sN oL fC oC wt cK cO cR rg oP oX oY oZ lS lT lL va iu sz ke en fd ou := by
  have ha' : vp_in (nI a) 210 := vp_in_nI (by omega) (by decide)
  have hc : (nI a).toNatClampNeg = a := nI_clamp (by omega)
  have hr' : vp_in (nI r) 4 := vp_in_nI (by omega) (by decide)
  have hr2 : vp_in (nI r + 1) 4 := by rw [nI_1]; exact vp_in_nI hr (by decide)
  have n7 : ¬ kk = 7 := by rcases hkk with rfl | rfl | rfl | rfl | rfl | rfl <;> decide
  have n8 : ¬ kk = 8 := by rcases hkk with rfl | rfl | rfl | rfl | rfl | rfl <;> decide
  refine br_f (nI_ge (b := 7) hk (by decide)) (br_f (nI_ge ha (by omega)) ⟨ha', nm_r (by rw [hc, hK]) ⟨ha', nm_r (by rw [hc, hR]) (xe_p2 (Or.inr (Or.inr hkk)) (br_f n7 (br_f n8 (br_f (by decide) (br_f (by decide) ⟨hr', hr2, ?_⟩)))))⟩⟩)
  rw [nI_clamp (n := r) (by omega), nI_1 r, nI_clamp (n := r + 1) (by omega)]
  exact hf _ ⟨hr', nm_r rfl h⟩
theorem xs_ch {post : Int64 → SX → Prop} {En m a k r s : Nat} {kk : Int32} (ha : a < En) (hE : En ≤ 210) (hk : k < 7) (hr : r < 4) (hK : cK a = kk) (hR : cR a = nI r)
    (hs : (cO a = nI s ∧ ((kk = 7 ∧ rg r = 0) ∨ (kk = 8 ∧ ¬ rg r = 0))) ∨ (s = 0 ∧ ((kk = 7 ∧ ¬ rg r = 0) ∨ (kk = 8 ∧ rg r = 0))))
    (h : wX_workOut_205 post (wX_workOut_17 post (nI En) m) (nI a) (nI En) (nI k) (nI r) (nI s) eN sN oL fC oC wt cK cO cR rg oP oX oY oZ lS lT lL va iu sz ke en fd ou) : wX_workOut_17 post (nI En) (m + 1) (nI a) (nI k) eN sN oL fC oC wt cK cO cR rg oP oX oY oZ lS lT lL va iu sz ke en fd ou := by
  have ha' : vp_in (nI a) 210 := vp_in_nI (by omega) (by decide)
  have hc : (nI a).toNatClampNeg = a := nI_clamp (by omega)
  have hr' : vp_in (nI r) 4 := vp_in_nI (by omega) (by decide)
  have hcr : (nI r).toNatClampNeg = r := nI_clamp (by omega)
  have hkk : kk = 7 ∨ kk = 8 := by
    rcases hs with ⟨_, ⟨h, _⟩ | ⟨h, _⟩⟩ | ⟨_, ⟨h, _⟩ | ⟨h, _⟩⟩
    · exact Or.inl h
    · exact Or.inr h
    · exact Or.inl h
    · exact Or.inr h
  have g : wX_workOut_69 post (wX_workOut_17 post (nI En) m) (nI a) (nI En) (nI k) kk (nI r) eN sN oL fC oC wt cK cO cR rg oP oX oY oZ lS lT lL va iu sz ke en fd ou := by
    unfold wX_workOut_69
    refine ⟨hr', ?_⟩
    rw [hcr]
    rcases hs with ⟨ho, ⟨h7, h0⟩ | ⟨h8, h0⟩⟩ | ⟨rfl, ⟨h7, h0⟩ | ⟨h8, h0⟩⟩
    · refine br_t h0 (br_t h7 (br_t rfl ⟨ha', ?_⟩))
      rw [hc, ho]; exact h
    · refine br_f h0 (br_f (by rw [h8]; decide) (br_t rfl ⟨ha', ?_⟩))
      rw [hc, ho]; exact h
    · exact br_f h0 (br_t h7 (br_f (by decide) h))
    · exact br_t h0 (br_f (by rw [h8]; decide) (br_f (by decide) h))
  refine br_f (nI_ge (b := 7) hk (by decide)) (br_f (nI_ge ha (by omega)) ⟨ha', nm_r (by rw [hc, hK]) ⟨ha', nm_r (by rw [hc, hR]) (xe_p2 (by rcases hkk with h | h; exact Or.inl h; exact Or.inr (Or.inl h)) ?_)⟩⟩)
  by_cases q : kk = 7
  · exact br_t q g
  · exact br_f q (br_t (hkk.resolve_left q) g)
/-! new tables -/
theorem xs_new {post : Int64 → SX → Prop} {p : Nat} (hp : p < 20) (h0 : iu p = 0) (hl : ∀ q, q < p → ¬ iu q = 0) (h : post (cv_e 2 (nI p)) (eN, sN, oL, fC, oC, wt, cK, cO, cR, rg, oP, oX, oY, oZ, lS, lT, lL, va, upd iu p 1, upd sz p 0, ke, en, fd, ou)) : wpX_newTable post (eN, sN, oL, fC, oC, wt, cK, cO, cR, rg, oP, oX, oY, oZ, lS, lT, lL, va, iu, sz, ke, en, fd, ou) := by
  unfold wpX_newTable
  have g : ∀ d i : Nat, i + d = p → wX_newTable_2 post eN sN oL fC oC wt cK cO cR rg oP oX oY oZ lS lT lL va iu sz ke en fd ou (d + 1) (nI i) := by
    intro d
    induction d with
    | zero =>
      intro i hi
      obtain rfl : i = p := by omega
      have hv : vp_in (nI i) 20 := vp_in_nI hp (by decide)
      have hc : (nI i).toNatClampNeg = i := nI_clamp (by omega)
      exact br_f (nI_ge (b := 20) hp (by decide)) ⟨hv, br_t (by rw [hc]; exact h0) ⟨hv, nm_r (by rw [hc, cv_b1]) ⟨hv, nm_r (by rw [hc]) (xv_val h)⟩⟩⟩
    | succ d ih =>
      intro i hi
      have hv : vp_in (nI i) 20 := vp_in_nI (by omega) (by decide)
      have hc : (nI i).toNatClampNeg = i := nI_clamp (by omega)
      exact br_f (nI_ge (b := 20) (by omega) (by decide)) ⟨hv, br_f (by rw [hc]; exact hl i (by omega)) (nm_r (nI_1 i) (ih (i + 1) (by omega)))⟩
  exact ⟨_, g p 0 (by omega)⟩
theorem ys_new {post : Int32 → SY → Prop} {p : Nat} (hp : p < 20) (h0 : tk p = 0) (hl : ∀ q, q < p → ¬ tk q = 0) (h : post (nI p) (yE, yN, yC, dp, tp, fl, lo, kd, ex, ey, yW, yP, yX, yY, yZ, vs, vn, upd zy p 0, yK, es, eu, upd tk p 1, sn, yO, wk, sg, so, nu, la, tu, lz)) : wpY_newTable post (yE, yN, yC, dp, tp, fl, lo, kd, ex, ey, yW, yP, yX, yY, yZ, vs, vn, zy, yK, es, eu, tk, sn, yO, wk, sg, so, nu, la, tu, lz) := by
  unfold wpY_newTable
  have hv : vp_in (nI p) 24 := vp_in_nI (by omega) (by decide)
  have hc : (nI p).toNatClampNeg = p := nI_clamp (by omega)
  have fin : ∀ n : Nat, wY_newTable_6 post yE yN yC dp tp fl lo kd ex ey yW yP yX yY yZ vs vn zy yK es eu tk sn yO wk sg so nu la tu lz (n + 1) (nI p) (-1) := fun n =>
    br_t (by decide) ⟨hv, nm_r (by rw [hc, cv_b1]) ⟨hv, nm_r (by rw [hc]) h⟩⟩
  have g : ∀ j : Nat, j < 24 → ∀ c : Nat, (j < p → c = p) → wY_newTable_6 post yE yN yC dp tp fl lo kd ex ey yW yP yX yY yZ vs vn zy yK es eu tk sn yO wk sg so nu la tu lz (j + 2) (nI c) (nI j) := by
    intro j
    induction j with
    | zero =>
      intro hj c hcp
      refine br_f (nI_pos (by omega)) ⟨vp_in_nI (by omega) (by decide), ?_⟩
      rw [nI_clamp (n := 0) (by omega)]
      by_cases q : tk 0 = 0
      · have hp0 : p = 0 := by
          by_cases e : p = 0
          · exact e
          · exact absurd q (hl 0 (by omega))
        subst hp0
        exact br_t q (nm_r (show nI 0 + (-1) = -1 from by decide) (fin 0))
      · have hp0 : 0 < p := by
          by_cases e : p = 0
          · subst e; exact absurd h0 q
          · omega
        rw [hcp hp0]
        exact br_f q (nm_r (show nI 0 + (-1) = -1 from by decide) (fin 0))
    | succ j ih =>
      intro hj c hcp
      refine br_f (nI_pos (by omega)) ⟨vp_in_nI (by omega) (by decide), ?_⟩
      rw [nI_clamp (n := j + 1) (by omega)]
      by_cases q : tk (j + 1) = 0
      · have hle : p ≤ j + 1 := by
          by_cases e : p ≤ j + 1
          · exact e
          · exact absurd q (hl (j + 1) (by omega))
        exact br_t q (nm_r (pk_m1 j) (ih (by omega) (j + 1) (by omega)))
      · have hne : p ≠ j + 1 := fun e => by subst e; exact q h0
        exact br_f q (nm_r (pk_m1 j) (ih (by omega) c (by intro h; exact hcp (by omega))))
  exact ⟨_, g 23 (by decide) 23 (by omega)⟩
/-! steps of the tree walk -/
theorem ys_give {post : SY → Prop} {t : Nat} {s n : Int32} (ht : t < 8) (h : post (yE, yN, yC, dp, nI (t + 1), fl, lo, kd, ex, ey, yW, yP, yX, yY, yZ, vs, vn, zy, yK, es, eu, tk, sn, yO, wk, sg, upd so t s, upd nu t n, la, tu, lz)) : wpY_give post (yE, yN, yC, dp, nI t, fl, lo, kd, ex, ey, yW, yP, yX, yY, yZ, vs, vn, zy, yK, es, eu, tk, sn, yO, wk, sg, so, nu, la, tu, lz) s n := by
  unfold wpY_give
  have hv : vp_in (nI t) 8 := vp_in_nI ht (by decide)
  have hc : (nI t).toNatClampNeg = t := nI_clamp (by omega)
  exact ⟨hv, nm_r (by rw [hc]) ⟨hv, nm_r (by rw [hc]) (nm_r (nI_1 t) h)⟩⟩
theorem ys_begin {post : SY → Prop} {d : Nat} {e : Int32} (hd : d < 8) (h : post (yE, yN, yC, nI (d + 1), tp, fl, lo, kd, ex, ey, yW, yP, yX, yY, yZ, vs, vn, zy, yK, es, eu, tk, sn, yO, upd wk d e, upd sg d 0, so, nu, la, tu, lz)) : wpY_begin post (yE, yN, yC, nI d, tp, fl, lo, kd, ex, ey, yW, yP, yX, yY, yZ, vs, vn, zy, yK, es, eu, tk, sn, yO, wk, sg, so, nu, la, tu, lz) e := by
  unfold wpY_begin
  have hv : vp_in (nI d) 8 := vp_in_nI hd (by decide)
  have hc : (nI d).toNatClampNeg = d := nI_clamp (by omega)
  exact ⟨hv, nm_r (by rw [hc]) ⟨hv, nm_r (by rw [hc]) (nm_r (nI_1 d) h)⟩⟩
theorem ys_pre {post : SY → Prop} {d e g : Nat} {z : Int32} (hd : d < 8) (he : e < 30) (hw : wk d = nI e) (hg : sg d = nI g) (hz : (z = 1 ∧ (kd e = 7 ∨ kd e = 8)) ∨ (z = 0 ∧ ¬ kd e = 7 ∧ ¬ kd e = 8)) (h : wY_step_63 post (nI e) (nI g) (kd e) z yE yN yC (nI (d + 1)) tp fl lo kd ex ey yW yP yX yY yZ vs vn zy yK es eu tk sn yO wk (upd sg d (nI (g + 1))) so nu la tu lz) : wpY_step post (yE, yN, yC, nI (d + 1), tp, fl, lo, kd, ex, ey, yW, yP, yX, yY, yZ, vs, vn, zy, yK, es, eu, tk, sn, yO, wk, sg, so, nu, la, tu, lz) := by
  unfold wpY_step
  have hv : vp_in (nI (d + 1) - 1) 8 := by rw [nI_pred]; exact vp_in_nI hd (by decide)
  have hc : (nI (d + 1) - 1).toNatClampNeg = d := by rw [nI_pred]; exact nI_clamp (by omega)
  have he' : vp_in (nI e) 30 := vp_in_nI he (by decide)
  refine ⟨hv, nm_r (by rw [hc, hw]) ⟨hv, nm_r (by rw [hc, hg]) ⟨hv, hv, nm_r (by rw [hc, hg, nI_1]) ⟨he', nm_r (by rw [nI_clamp (by omega)]) ?_⟩⟩⟩⟩
  rcases hz with ⟨rfl, hz⟩ | ⟨rfl, h7, h8⟩
  · by_cases q : kd e = 7
    · exact br_t q h
    · exact br_f q (br_t (hz.resolve_left q) h)
  · exact br_f h7 (br_f h8 h)
theorem ys_leaf {post : SY → Prop} {d e : Nat} (hd : d < 8) (he : e < 30) (hw : wk d = nI e) (hg : sg d = 0) (hk : kd e = 0 ∨ kd e = 1 ∨ kd e = 11) (h : wpY_leaf post (yE, yN, yC, nI (d + 1), tp, fl, lo, kd, ex, ey, yW, yP, yX, yY, yZ, vs, vn, zy, yK, es, eu, tk, sn, yO, wk, upd sg d 1, so, nu, la, tu, lz) (nI e)) : wpY_step post (yE, yN, yC, nI (d + 1), tp, fl, lo, kd, ex, ey, yW, yP, yX, yY, yZ, vs, vn, zy, yK, es, eu, tk, sn, yO, wk, sg, so, nu, la, tu, lz) := by
  have n7 : ¬ kd e = 7 := by rcases hk with h | h | h <;> rw [h] <;> decide
  have n8 : ¬ kd e = 8 := by rcases hk with h | h | h <;> rw [h] <;> decide
  refine ys_pre (g := 0) hd he hw hg (Or.inr ⟨rfl, n7, n8⟩) ?_
  unfold wY_step_63
  exact ye_p0 hk (br_t rfl h)
theorem ys_first {post : SY → Prop} {d e : Nat} (hd : d + 1 < 8) (he : e < 30) (hw : wk d = nI e) (hg : sg d = 0) (hk : (kd e = 9 ∨ kd e = 12) ∨ (kd e = 7 ∨ kd e = 8 ∨ tm_k2 (kd e))) (h : post (yE, yN, yC, nI (d + 2), tp, fl, lo, kd, ex, ey, yW, yP, yX, yY, yZ, vs, vn, zy, yK, es, eu, tk, sn, yO, upd wk (d + 1) (ex e), upd (upd sg d 1) (d + 1) 0, so, nu, la, tu, lz)) : wpY_step post (yE, yN, yC, nI (d + 1), tp, fl, lo, kd, ex, ey, yW, yP, yX, yY, yZ, vs, vn, zy, yK, es, eu, tk, sn, yO, wk, sg, so, nu, la, tu, lz) := by
  have g : ∀ z : Int32, wY_step_63 post (nI e) (nI 0) (kd e) z yE yN yC (nI (d + 1)) tp fl lo kd ex ey yW yP yX yY yZ vs vn zy yK es eu tk sn yO wk (upd sg d (nI (0 + 1))) so nu la tu lz := by
    intro z
    unfold wY_step_63
    have g2 : wpY_begin post (yE, yN, yC, nI (d + 1), tp, fl, lo, kd, ex, ey, yW, yP, yX, yY, yZ, vs, vn, zy, yK, es, eu, tk, sn, yO, wk, upd sg d (nI (0 + 1)), so, nu, la, tu, lz) (ex (nI e).toNatClampNeg) := by
      rw [nI_clamp (by omega)]
      exact ys_begin hd h
    rcases hk with hk | hk
    · exact ye_p1 hk (br_f (by decide) (br_t rfl ⟨vp_in_nI he (by decide), g2⟩))
    · exact ye_p2 hk (br_f (by decide) (br_t rfl ⟨vp_in_nI he (by decide), g2⟩))
  by_cases q : kd e = 7 ∨ kd e = 8
  · exact ys_pre (g := 0) (by omega) he hw hg (Or.inl ⟨rfl, q⟩) (g 1)
  · exact ys_pre (g := 0) (by omega) he hw hg (Or.inr ⟨rfl, fun z => q (Or.inl z), fun z => q (Or.inr z)⟩) (g 0)
theorem ys_one {post : SY → Prop} {d e : Nat} (hd : d < 8) (he : e < 30) (hw : wk d = nI e) (hg : sg d = 1) (hk : kd e = 9 ∨ kd e = 12) (h : wpY_one post (yE, yN, yC, nI (d + 1), tp, fl, lo, kd, ex, ey, yW, yP, yX, yY, yZ, vs, vn, zy, yK, es, eu, tk, sn, yO, wk, upd sg d 2, so, nu, la, tu, lz) (nI e)) : wpY_step post (yE, yN, yC, nI (d + 1), tp, fl, lo, kd, ex, ey, yW, yP, yX, yY, yZ, vs, vn, zy, yK, es, eu, tk, sn, yO, wk, sg, so, nu, la, tu, lz) := by
  have n7 : ¬ kd e = 7 := by rcases hk with h | h <;> rw [h] <;> decide
  have n8 : ¬ kd e = 8 := by rcases hk with h | h <;> rw [h] <;> decide
  refine ys_pre (g := 1) hd he hw hg (Or.inr ⟨rfl, n7, n8⟩) ?_
  unfold wY_step_63
  exact ye_p1 hk (br_f (by decide) (br_f (by decide) (ye_p1 hk (br_t rfl h))))
theorem tm_k278 {k : Int32} (h : tm_k2 k) : ¬ k = 7 ∧ ¬ k = 8 := by
  rcases h with rfl | rfl | rfl | rfl | rfl | rfl <;> decide
theorem ys_snd {post : SY → Prop} {d e : Nat} (hd : d + 1 < 8) (he : e < 30) (hw : wk d = nI e) (hg : sg d = 1) (hk : tm_k2 (kd e)) (h : post (yE, yN, yC, nI (d + 2), tp, fl, lo, kd, ex, ey, yW, yP, yX, yY, yZ, vs, vn, zy, yK, es, eu, tk, sn, yO, upd wk (d + 1) (ey e), upd (upd sg d 2) (d + 1) 0, so, nu, la, tu, lz)) : wpY_step post (yE, yN, yC, nI (d + 1), tp, fl, lo, kd, ex, ey, yW, yP, yX, yY, yZ, vs, vn, zy, yK, es, eu, tk, sn, yO, wk, sg, so, nu, la, tu, lz) := by
  refine ys_pre (g := 1) (by omega) he hw hg (Or.inr ⟨rfl, tm_k278 hk⟩) ?_
  unfold wY_step_63
  refine ye_p2 (Or.inr (Or.inr hk)) (br_f (by decide) (br_f (by decide) (ye_p2 (Or.inr (Or.inr hk)) (br_f (by decide) (br_t rfl (br_t rfl (br_t rfl ⟨vp_in_nI he (by decide), ?_⟩)))))))
  rw [nI_clamp (by omega)]
  exact ys_begin hd h
theorem ys_two {post : SY → Prop} {d e : Nat} (hd : d < 8) (he : e < 30) (hw : wk d = nI e) (hg : sg d = 2) (hk : tm_k2 (kd e)) (h : wpY_two post (yE, yN, yC, nI (d + 1), tp, fl, lo, kd, ex, ey, yW, yP, yX, yY, yZ, vs, vn, zy, yK, es, eu, tk, sn, yO, wk, upd sg d 3, so, nu, la, tu, lz) (nI e)) : wpY_step post (yE, yN, yC, nI (d + 1), tp, fl, lo, kd, ex, ey, yW, yP, yX, yY, yZ, vs, vn, zy, yK, es, eu, tk, sn, yO, wk, sg, so, nu, la, tu, lz) := by
  refine ys_pre (g := 2) hd he hw hg (Or.inr ⟨rfl, tm_k278 hk⟩) ?_
  unfold wY_step_63
  exact ye_p2 (Or.inr (Or.inr hk)) (br_f (by decide) (br_f (by decide) (ye_p2 (Or.inr (Or.inr hk)) (br_f (by decide) (br_t rfl (br_f (by decide) h))))))
theorem ys_ch_end {post : SY → Prop} {d e : Nat} (hd : d < 8) (he : e < 30) (hw : wk d = nI e) (hg : sg d = 2) (hk : kd e = 7 ∨ kd e = 8) (h : post (yE, yN, yC, nI d, tp, fl, lo, kd, ex, ey, yW, yP, yX, yY, yZ, vs, vn, zy, yK, es, eu, tk, sn, yO, wk, upd sg d 3, so, nu, la, tu, lz)) : wpY_step post (yE, yN, yC, nI (d + 1), tp, fl, lo, kd, ex, ey, yW, yP, yX, yY, yZ, vs, vn, zy, yK, es, eu, tk, sn, yO, wk, sg, so, nu, la, tu, lz) := by
  have hk2 : kd e = 7 ∨ kd e = 8 ∨ tm_k2 (kd e) := by rcases hk with h | h; exact Or.inl h; exact Or.inr (Or.inl h)
  refine ys_pre (g := 2) hd he hw hg (Or.inl ⟨rfl, hk⟩) ?_
  unfold wY_step_63
  exact ye_p2 hk2 (br_f (by decide) (br_f (by decide) (ye_p2 hk2 (br_f (by decide) (br_f (by decide) (br_t rfl (nm_r (nI_pred d) h)))))))
theorem ys_ch_keep {post : SY → Prop} {d e t : Nat} (hd : d < 8) (he : e < 30) (hw : wk d = nI e) (hg : sg d = 1) (ht : t < 8) (hk : (kd e = 7 ∧ so t = 0) ∨ (kd e = 8 ∧ ¬ so t = 0)) (h : post (yE, yN, yC, nI d, nI (t + 1), fl, lo, kd, ex, ey, yW, yP, yX, yY, yZ, vs, vn, zy, yK, es, eu, tk, sn, yO, wk, upd sg d 2, so, nu, la, tu, lz)) : wpY_step post (yE, yN, yC, nI (d + 1), nI (t + 1), fl, lo, kd, ex, ey, yW, yP, yX, yY, yZ, vs, vn, zy, yK, es, eu, tk, sn, yO, wk, sg, so, nu, la, tu, lz) := by
  have hkk : kd e = 7 ∨ kd e = 8 := by rcases hk with h | h; exact Or.inl h.1; exact Or.inr h.1
  have hk2 : kd e = 7 ∨ kd e = 8 ∨ tm_k2 (kd e) := by rcases hkk with h | h; exact Or.inl h; exact Or.inr (Or.inl h)
  refine ys_pre (g := 1) hd he hw hg (Or.inl ⟨rfl, hkk⟩) ?_
  unfold wY_step_63
  refine ye_p2 hk2 (br_f (by decide) (br_f (by decide) (ye_p2 hk2 (br_f (by decide) (br_f (by decide) (br_f (by decide) ⟨by rw [nI_pred]; exact vp_in_nI ht (by decide), ?_⟩))))))
  rw [nI_pred, nI_clamp (n := t) (by omega)]
  have g : wY_step_158 post yE yN yC (nI (d + 1)) (nI (t + 1)) fl lo kd ex ey yW yP yX yY yZ vs vn zy yK es eu tk sn yO wk (upd sg d (nI (1 + 1))) so nu la tu lz := by
    unfold wY_step_158
    exact nm_r (nI_pred d) h
  rcases hk with ⟨h7, h0⟩ | ⟨h8, h0⟩
  · exact br_t h0 (br_t h7 (br_t rfl g))
  · exact br_f h0 (br_f (by rw [h8]; decide) (br_t rfl g))
theorem ys_ch_go {post : SY → Prop} {d e t : Nat} (hd : d + 1 < 8) (he : e < 30) (hw : wk d = nI e) (hg : sg d = 1) (ht : t < 8) (hk : (kd e = 7 ∧ ¬ so t = 0) ∨ (kd e = 8 ∧ so t = 0)) (h : post (yE, yN, yC, nI (d + 2), nI t, fl, lo, kd, ex, ey, yW, yP, yX, yY, yZ, vs, vn, zy, yK, es, eu, tk, sn, yO, upd wk (d + 1) (ey e), upd (upd sg d 2) (d + 1) 0, so, nu, la, tu, lz)) : wpY_step post (yE, yN, yC, nI (d + 1), nI (t + 1), fl, lo, kd, ex, ey, yW, yP, yX, yY, yZ, vs, vn, zy, yK, es, eu, tk, sn, yO, wk, sg, so, nu, la, tu, lz) := by
  have hkk : kd e = 7 ∨ kd e = 8 := by rcases hk with h | h; exact Or.inl h.1; exact Or.inr h.1
  have hk2 : kd e = 7 ∨ kd e = 8 ∨ tm_k2 (kd e) := by rcases hkk with h | h; exact Or.inl h; exact Or.inr (Or.inl h)
  refine ys_pre (g := 1) (by omega) he hw hg (Or.inl ⟨rfl, hkk⟩) ?_
  unfold wY_step_63
  refine ye_p2 hk2 (br_f (by decide) (br_f (by decide) (ye_p2 hk2 (br_f (by decide) (br_f (by decide) (br_f (by decide) ⟨by rw [nI_pred]; exact vp_in_nI ht (by decide), ?_⟩))))))
  rw [nI_pred, nI_clamp (n := t) (by omega)]
  have g : wY_step_171 post (nI e) (nI 1) 1 yE yN yC (nI (d + 1)) (nI (t + 1)) fl lo kd ex ey yW yP yX yY yZ vs vn zy yK es eu tk sn yO wk (upd sg d (nI (1 + 1))) so nu la tu lz := by
    unfold wY_step_171
    refine br_t rfl (br_f (by decide) (nm_r (nI_pred t) ⟨vp_in_nI he (by decide), ?_⟩))
    rw [nI_clamp (by omega)]
    exact ys_begin hd h
  rcases hk with ⟨h7, h0⟩ | ⟨h8, h0⟩
  · exact br_f h0 (br_t h7 (br_f (by decide) g))
  · exact br_t h0 (br_f (by rw [h8]; decide) (br_f (by decide) g))
/-- one step within work -/
theorem yw_step {post : SY → Prop} {m k d : Nat} {dp' tp' fl' : Int32} {zy' tk' wk' sg' so' nu' : Nat → Int32} (hk : k < 21) (hd : d < 8) (hs : ∀ P : SY → Prop, P (yE, yN, yC, dp', tp', fl', lo, kd, ex, ey, yW, yP, yX, yY, yZ, vs, vn, zy', yK, es, eu, tk', sn, yO, wk', sg', so', nu', la, tu, lz) → wpY_step P (yE, yN, yC, nI (d + 1), tp, 0, lo, kd, ex, ey, yW, yP, yX, yY, yZ, vs, vn, zy, yK, es, eu, tk, sn, yO, wk, sg, so, nu, la, tu, lz)) (hc : wY_work_12 post m (nI (k + 1)) yE yN yC dp' tp' fl' lo kd ex ey yW yP yX yY yZ vs vn zy' yK es eu tk' sn yO wk' sg' so' nu' la tu lz) : wY_work_12 post (m + 1) (nI k) yE yN yC (nI (d + 1)) tp 0 lo kd ex ey yW yP yX yY yZ vs vn zy yK es eu tk sn yO wk sg so nu la tu lz :=
  br_f (nI_ge (b := 21) hk (by decide)) (br_f (nI_nle (by omega) (by omega)) (br_t rfl (hs _ (nm_r (nI_1 k) hc))))
theorem yw_fail {post : SY → Prop} {m : Nat} {k : Int32} (h : post (yE, yN, yC, dp, tp, 1, lo, kd, ex, ey, yW, yP, yX, yY, yZ, vs, vn, zy, yK, es, eu, tk, sn, yO, wk, sg, so, nu, la, tu, lz)) : wY_work_12 post (m + 1) k yE yN yC dp tp 1 lo kd ex ey yW yP yX yY yZ vs vn zy yK es eu tk sn yO wk sg so nu la tu lz :=
  br_c (fun _ => h) (fun _ => br_c (fun _ => h) (fun _ => br_f (by decide) h))
end
