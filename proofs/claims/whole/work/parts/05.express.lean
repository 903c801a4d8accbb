/-! express: the code of an expression -/
theorem tm_mono {E : Nat} {kd ex ey wt cK cO cR : Nat → Int32} : ∀ f g w e a r : Nat, f ≤ g → tm_T E kd ex ey wt cK cO cR f w e a r → tm_T E kd ex ey wt cK cO cR g w e a r := by
  intro f
  induction f with
  | zero => intro g w e a r _ h; exact absurd h id
  | succ f ih =>
    intro g w e a r hg h
    obtain ⟨g, rfl⟩ : ∃ g', g = g' + 1 := ⟨g - 1, by omega⟩
    obtain ⟨he, hw, h⟩ := h
    refine ⟨he, hw, ?_⟩
    rcases h with h | ⟨x, wx, h1, h2, h3, h4, h5⟩ | ⟨x, y, wx, wy, h1, h2, h3, h4, h5, h6, h7, h8, h9⟩ | ⟨x, y, wx, wy, h1, h2, h3, h4, h5, h6, h7⟩
    · exact Or.inl h
    · exact Or.inr (Or.inl ⟨x, wx, h1, h2, h3, ih g _ _ _ _ (by omega) h4, h5⟩)
    · exact Or.inr (Or.inr (Or.inl ⟨x, y, wx, wy, h1, h2, h3, h4, ih g _ _ _ _ (by omega) h5, h6, h7, h8, ih g _ _ _ _ (by omega) h9⟩))
    · exact Or.inr (Or.inr (Or.inr ⟨x, y, wx, wy, h1, h2, h3, h4, ih g _ _ _ _ (by omega) h5, ih g _ _ _ _ (by omega) h6, h7⟩))
theorem tm_pos {E : Nat} {kd ex ey wt cK cO cR : Nat → Int32} {f w e a r : Nat} (h : tm_T E kd ex ey wt cK cO cR f w e a r) : e < E ∧ wt e = nI w ∧ 1 ≤ w := by
  cases f with
  | zero => exact absurd h id
  | succ f =>
    obtain ⟨he, hw, h⟩ := h
    refine ⟨he, hw, ?_⟩
    rcases h with h | ⟨x, wx, h1, h2, h3, h4, h5⟩ | ⟨x, y, wx, wy, h1, h2, h3, h4, h5, h6, h7, h8, h9⟩ | ⟨x, y, wx, wy, h1, h2, h3, h4, h5, h6, h7⟩ <;> omega
theorem tm_map {E E' : Nat} {kd ex ey wt cK cO cR kd' ex' ey' wt' cK' cO' cR' : Nat → Int32} (hE : E ≤ E') (hk : ∀ e, e < E → kd' e = kd e ∧ ex' e = ex e ∧ ey' e = ey e ∧ wt' e = wt e) :
    ∀ f w e a r b u : Nat, (∀ i, i < w → cK' (b + i) = cK (a + i) ∧ cO' (b + i) = cO (a + i) ∧ cR' (b + i) = cR (a + i) + nI u) → tm_T E kd ex ey wt cK cO cR f w e a r → tm_T E' kd' ex' ey' wt' cK' cO' cR' f w e b (r + u) := by
  intro f
  induction f with
  | zero => intro w e a r b u _ h; exact absurd h id
  | succ f ih =>
    intro w e a r b u hc h
    obtain ⟨he, hw, h⟩ := h
    obtain ⟨k1, k2, k3, k4⟩ := hk e he
    refine ⟨by omega, by rw [k4]; exact hw, ?_⟩
    rw [k1, k2, k3]
    rcases h with ⟨h1, h2, h3, h4, h5⟩ | ⟨x, wx, h1, h2, h3, h4, h5, h6⟩ | ⟨x, y, wx, wy, h1, h2, h3, h4, h5, h6, h7, h8, h9⟩ | ⟨x, y, wx, wy, h1, h2, h3, h4, h5, h6, h7, h8⟩
    · have c := hc 0 (by omega)
      rw [Nat.add_zero, Nat.add_zero] at c
      exact Or.inl ⟨h1, c.2.1.trans h2, by rw [c.2.2, h3, nI_add], c.1.trans h4, h5⟩
    · have c := hc wx (by omega)
      exact Or.inr (Or.inl ⟨x, wx, h1, h2, h3, ih wx x a r b u (fun i hi => hc i (by omega)) h4, c.1.trans h5, by rw [c.2.2, h6, nI_add]⟩)
    · have c := hc wx (by omega)
      refine Or.inr (Or.inr (Or.inl ⟨x, y, wx, wy, h1, h2, h3, h4, ih wx x a r b u (fun i hi => hc i (by omega)) h5, c.1.trans h6, c.2.1.trans h7, by rw [c.2.2, h8, nI_add], ih wy y (a + wx + 1) r (b + wx + 1) u (fun i hi => ?_) h9⟩))
      have c2 := hc (wx + 1 + i) (by omega)
      rw [show b + (wx + 1 + i) = b + wx + 1 + i by omega, show a + (wx + 1 + i) = a + wx + 1 + i by omega] at c2
      exact c2
    · have c := hc (wx + wy) (by omega)
      rw [← Nat.add_assoc, ← Nat.add_assoc] at c
      refine Or.inr (Or.inr (Or.inr ⟨x, y, wx, wy, h1, h2, h3, h4, ih wx x a r b u (fun i hi => hc i (by omega)) h5, ?_, c.1.trans h7, by rw [c.2.2, h8, nI_add]⟩))
      rw [show r + u + 1 = (r + 1) + u by omega]
      refine ih wy y (a + wx) (r + 1) (b + wx) u (fun i hi => ?_) h6
      have c2 := hc (wx + i) (by omega)
      rw [← Nat.add_assoc, ← Nat.add_assoc] at c2
      exact c2
/-- what copyCode leaves -/
def tm_cp (c : Nat → Int32) (b a w : Nat) (d : Int32) : Nat → Int32 := fun j => if b ≤ j ∧ j < b + w then c (a + (j - b)) + d else c j
theorem tm_cp0 (c : Nat → Int32) (b a : Nat) (d : Int32) : tm_cp c b a 0 d = c := by
  funext j; unfold tm_cp; rw [if_neg (by omega)]
theorem tm_cps {c : Nat → Int32} {b a i : Nat} {d : Int32} (h : a + i < b) : upd (tm_cp c b a i d) (b + i) (tm_cp c b a i d (a + i) + d) = tm_cp c b a (i + 1) d := by
  funext j
  unfold upd
  by_cases e : j = b + i
  · subst e
    unfold tm_cp
    rw [if_pos rfl, if_neg (by omega), if_pos ⟨by omega, by omega⟩, show b + i - b = i by omega]
  · rw [if_neg e]
    unfold tm_cp
    by_cases q : b ≤ j ∧ j < b + i
    · rw [if_pos q, if_pos ⟨q.1, by omega⟩]
    · rw [if_neg q, if_neg (by omega)]
theorem tm_cps0 {c : Nat → Int32} {b a i : Nat} (h : a + i < b) : upd (tm_cp c b a i 0) (b + i) (tm_cp c b a i 0 (a + i)) = tm_cp c b a (i + 1) 0 := by
  have := tm_cps (c := c) (d := 0) h
  rw [Int32.add_zero] at this
  exact this
theorem tm_cpi {c : Nat → Int32} {b a w i : Nat} {d : Int32} (h : i < w) : tm_cp c b a w d (b + i) = c (a + i) + d := by
  unfold tm_cp; rw [if_pos ⟨by omega, by omega⟩, show b + i - b = i by omega]
theorem tm_cpo {c : Nat → Int32} {b a w j : Nat} {d : Int32} (h : j < b ∨ b + w ≤ j) : tm_cp c b a w d j = c j := by
  unfold tm_cp; rw [if_neg (by omega)]
section
variable {eN sN oL fC oC : Int32} {wt cK cO cR : Nat → Int32} {rg : Nat → Int64} {oP oX oY oZ lS lT lL : Nat → Int32} {va : Nat → Int64} {iu sz ke : Nat → Int32} {en : Nat → Int64} {fd : Nat → Int32} {ou : Nat → Int64} {yE yN yC dp tp fl lo : Int32} {kd ex ey yW yP yX yY yZ vs vn zy yK es eu tk sn : Nat → Int32} {yO : Nat → Int64} {wk sg so nu la tu lz : Nat → Int32}
theorem xe_cl {post : SX → Prop} {x b w : Nat} {d : Int32} (hx : x < 30) (hw : wt x = nI w) (hb : x * 7 + w ≤ b) (hb2 : b + w ≤ 210) (hp : post (eN, sN, oL, fC, oC, wt, tm_cp cK b (x * 7) w 0, tm_cp cO b (x * 7) w 0, tm_cp cR b (x * 7) w d, rg, oP, oX, oY, oZ, lS, lT, lL, va, iu, sz, ke, en, fd, ou)) :
    ∀ n i : Nat, i + n = w → wX_copyCode_9 post (nI x) (nI b) d (nI (x * 7)) eN sN oL fC oC (n + 1) (nI i) wt (tm_cp cK b (x * 7) i 0) (tm_cp cO b (x * 7) i 0) (tm_cp cR b (x * 7) i d) rg oP oX oY oZ lS lT lL va iu sz ke en fd ou := by
  intro n
  have h1 : vp_in (nI x) 30 := vp_in_nI hx (by decide)
  have hc : (nI x).toNatClampNeg = x := nI_clamp (by omega)
  induction n with
  | zero =>
    intro i hi
    obtain rfl : i = w := by omega
    exact ⟨h1, br_t (by rw [hc, hw]; exact nI_le (Nat.le_refl _) (by omega)) hp⟩
  | succ n ih =>
    intro i hi
    have e1 : nI (x * 7) + nI i = nI (x * 7 + i) := nI_add _ _
    have e2 : nI b + nI i = nI (b + i) := nI_add _ _
    have c1 : (nI (x * 7) + nI i).toNatClampNeg = x * 7 + i := by rw [e1]; exact nI_clamp (by omega)
    have c2 : (nI b + nI i).toNatClampNeg = b + i := by rw [e2]; exact nI_clamp (by omega)
    have v1 : vp_in (nI (x * 7) + nI i) 210 := by rw [e1]; exact vp_in_nI (by omega) (by decide)
    have v2 : vp_in (nI b + nI i) 210 := by rw [e2]; exact vp_in_nI (by omega) (by decide)
    refine ⟨h1, br_f (by rw [hc, hw]; exact nI_ge (by omega) (by omega)) ⟨v1, v2, nm_r (by rw [c1, c2]; exact tm_cps0 (by omega)) ⟨v1, v2, nm_r (by rw [c1, c2]; exact tm_cps0 (by omega)) ⟨v1, v2, nm_r (by rw [c1, c2]; exact tm_cps (by omega)) (nm_r (nI_1 i) (ih (i + 1) (by omega)))⟩⟩⟩⟩
theorem xe_copy {post : SX → Prop} {x b w : Nat} {d : Int32} (hx : x < 30) (hw : wt x = nI w) (hb : x * 7 + w ≤ b) (hb2 : b + w ≤ 210) (hp : post (eN, sN, oL, fC, oC, wt, tm_cp cK b (x * 7) w 0, tm_cp cO b (x * 7) w 0, tm_cp cR b (x * 7) w d, rg, oP, oX, oY, oZ, lS, lT, lL, va, iu, sz, ke, en, fd, ou)) : wpX_copyCode post (eN, sN, oL, fC, oC, wt, cK, cO, cR, rg, oP, oX, oY, oZ, lS, lT, lL, va, iu, sz, ke, en, fd, ou) (nI x) (nI b) d := by
  unfold wpX_copyCode
  have h := xe_cl hx hw hb hb2 hp w 0 (by omega)
  rw [tm_cp0, tm_cp0, tm_cp0] at h
  exact nm_r (pk_mul x 7) ⟨_, h⟩
theorem xe_emit {post : SX → Prop} {a : Nat} {k o : Int32} (ha : a < 210) (hp : post (eN, sN, oL, fC, oC, wt, upd cK a k, upd cO a o, upd cR a 0, rg, oP, oX, oY, oZ, lS, lT, lL, va, iu, sz, ke, en, fd, ou)) : wpX_emit post (eN, sN, oL, fC, oC, wt, cK, cO, cR, rg, oP, oX, oY, oZ, lS, lT, lL, va, iu, sz, ke, en, fd, ou) (nI a) k o := by
  have h1 : vp_in (nI a) 210 := vp_in_nI ha (by decide)
  have hc : (nI a).toNatClampNeg = a := nI_clamp (by omega)
  unfold wpX_emit
  exact ⟨h1, nm_r (by rw [hc]) ⟨h1, nm_r (by rw [hc]) ⟨h1, nm_r (by rw [hc]) hp⟩⟩⟩
theorem xe_p0 {post : Int32 → Prop} {k : Int32} (h : k = 0 ∨ k = 1 ∨ k = 11) (hp : post 0) : wpX_partsOf post k := by
  unfold wpX_partsOf
  rcases h with rfl | rfl | rfl
  · exact br_t rfl hp
  · exact br_f (by decide) (br_t rfl hp)
  · exact br_f (by decide) (br_f (by decide) (br_t rfl hp))
theorem xe_p1 {post : Int32 → Prop} {k : Int32} (h : k = 9 ∨ k = 12) (hp : post 1) : wpX_partsOf post k := by
  unfold wpX_partsOf
  rcases h with rfl | rfl
  · exact br_f (by decide) (br_f (by decide) (br_f (by decide) (br_t rfl hp)))
  · exact br_f (by decide) (br_f (by decide) (br_f (by decide) (br_f (by decide) (br_t rfl hp))))
theorem xe_p2 {post : Int32 → Prop} {k : Int32} (h : k = 7 ∨ k = 8 ∨ tm_k2 k) (hp : post 2) : wpX_partsOf post k := by
  unfold wpX_partsOf
  rcases h with rfl | rfl | rfl | rfl | rfl | rfl | rfl | rfl <;> exact br_f (by decide) (br_f (by decide) (br_f (by decide) (br_f (by decide) (br_f (by decide) hp))))
theorem ye_p0 {post : Int32 → Prop} {k : Int32} (h : k = 0 ∨ k = 1 ∨ k = 11) (hp : post 0) : wpY_parts post (yE, yN, yC, dp, tp, fl, lo, kd, ex, ey, yW, yP, yX, yY, yZ, vs, vn, zy, yK, es, eu, tk, sn, yO, wk, sg, so, nu, la, tu, lz) k := by
  unfold wpY_parts
  rcases h with rfl | rfl | rfl
  · exact br_t (by decide) hp
  · exact br_t (by decide) hp
  · exact br_f (by decide) (br_t rfl hp)
theorem ye_p1 {post : Int32 → Prop} {k : Int32} (h : k = 9 ∨ k = 12) (hp : post 1) : wpY_parts post (yE, yN, yC, dp, tp, fl, lo, kd, ex, ey, yW, yP, yX, yY, yZ, vs, vn, zy, yK, es, eu, tk, sn, yO, wk, sg, so, nu, la, tu, lz) k := by
  unfold wpY_parts
  rcases h with rfl | rfl
  · exact br_f (by decide) (br_f (by decide) (br_t rfl hp))
  · exact br_f (by decide) (br_f (by decide) (br_f (by decide) (br_t rfl hp)))
theorem ye_p2 {post : Int32 → Prop} {k : Int32} (h : k = 7 ∨ k = 8 ∨ tm_k2 k) (hp : post 2) : wpY_parts post (yE, yN, yC, dp, tp, fl, lo, kd, ex, ey, yW, yP, yX, yY, yZ, vs, vn, zy, yK, es, eu, tk, sn, yO, wk, sg, so, nu, la, tu, lz) k := by
  unfold wpY_parts
  rcases h with rfl | rfl | rfl | rfl | rfl | rfl | rfl | rfl <;> exact br_f (by decide) (br_f (by decide) (br_f (by decide) (br_f (by decide) hp)))
theorem xe_leaf {post : SX → Prop} {E : Nat} {k x y : Int32} (hE : E < 30) (h : k = 0 ∨ k = 1 ∨ k = 11) (hp : post (nI E, sN, oL, fC, oC, wt, upd cK (E * 7) k, upd cO (E * 7) x, upd cR (E * 7) 0, rg, oP, oX, oY, oZ, lS, lT, lL, va, iu, sz, ke, en, fd, ou)) : wpX_compile post (nI E, sN, oL, fC, oC, wt, cK, cO, cR, rg, oP, oX, oY, oZ, lS, lT, lL, va, iu, sz, ke, en, fd, ou) k x y := by
  unfold wpX_compile
  refine nm_r (pk_mul E 7) (xe_p0 h (br_t rfl ?_))
  exact xe_emit (by omega) hp
theorem xe_one {post : SX → Prop} {E x w : Nat} {k y : Int32} (hE : E < 30) (h : k = 9 ∨ k = 12) (hx : x < E) (hw : wt x = nI w) (hw7 : w + 1 ≤ 7) (hp : post (nI E, sN, oL, fC, oC, wt, upd (tm_cp cK (E * 7) (x * 7) w 0) (E * 7 + w) k, upd (tm_cp cO (E * 7) (x * 7) w 0) (E * 7 + w) 0, upd (tm_cp cR (E * 7) (x * 7) w 0) (E * 7 + w) 0, rg, oP, oX, oY, oZ, lS, lT, lL, va, iu, sz, ke, en, fd, ou)) : wpX_compile post (nI E, sN, oL, fC, oC, wt, cK, cO, cR, rg, oP, oX, oY, oZ, lS, lT, lL, va, iu, sz, ke, en, fd, ou) k (nI x) y := by
  unfold wpX_compile
  refine nm_r (pk_mul E 7) (xe_p1 h (br_f (by decide) ?_))
  refine xe_copy (by omega) hw (by omega) (by omega) ?_
  refine ⟨vp_in_nI (by omega) (by decide), nm_r (by rw [nI_clamp (by omega), hw, nI_add]) (br_t rfl ?_)⟩
  exact xe_emit (by omega) hp
theorem xe_ch {post : SX → Prop} {E x w y wy : Nat} {k : Int32} (hE : E < 30) (h : k = 7 ∨ k = 8) (hx : x < E) (hw : wt x = nI w) (hy : y < E) (hwy : wt y = nI wy) (hw7 : w + 1 + wy ≤ 7) (hp : post (nI E, sN, oL, fC, oC, wt, tm_cp (upd (tm_cp cK (E * 7) (x * 7) w 0) (E * 7 + w) k) (E * 7 + w + 1) (y * 7) wy 0, tm_cp (upd (tm_cp cO (E * 7) (x * 7) w 0) (E * 7 + w) (nI wy)) (E * 7 + w + 1) (y * 7) wy 0, tm_cp (upd (tm_cp cR (E * 7) (x * 7) w 0) (E * 7 + w) 0) (E * 7 + w + 1) (y * 7) wy 0, rg, oP, oX, oY, oZ, lS, lT, lL, va, iu, sz, ke, en, fd, ou)) : wpX_compile post (nI E, sN, oL, fC, oC, wt, cK, cO, cR, rg, oP, oX, oY, oZ, lS, lT, lL, va, iu, sz, ke, en, fd, ou) k (nI x) (nI y) := by
  have hy30 : vp_in (nI y) 30 := vp_in_nI (by omega) (by decide)
  have g : wX_compile_77 post k (nI y) (nI (E * 7 + w)) (nI E) sN oL fC oC wt (tm_cp cK (E * 7) (x * 7) w 0) (tm_cp cO (E * 7) (x * 7) w 0) (tm_cp cR (E * 7) (x * 7) w 0) rg oP oX oY oZ lS lT lL va iu sz ke en fd ou := by
    unfold wX_compile_77
    refine ⟨hy30, ?_⟩
    rw [nI_clamp (n := y) (by omega), hwy]
    refine xe_emit (by omega) ?_
    dsimp only
    rw [nI_1]
    exact xe_copy (by omega) hwy (by omega) (by omega) hp
  unfold wpX_compile
  refine nm_r (pk_mul E 7) (xe_p2 (by rcases h with h | h; exact Or.inl h; exact Or.inr (Or.inl h)) (br_f (by decide) ?_))
  refine xe_copy (by omega) hw (by omega) (by omega) ?_
  refine ⟨vp_in_nI (by omega) (by decide), nm_r (by rw [nI_clamp (by omega), hw, nI_add]) (br_f (by decide) ?_)⟩
  by_cases q : k = 7
  · exact br_t q g
  · exact br_f q (br_t (h.resolve_left q) g)
theorem xe_two {post : SX → Prop} {E x w y wy : Nat} {k : Int32} (hE : E < 30) (h : tm_k2 k) (hx : x < E) (hw : wt x = nI w) (hy : y < E) (hwy : wt y = nI wy) (hw7 : w + wy + 1 ≤ 7) (hp : post (nI E, sN, oL, fC, oC, wt, upd (tm_cp (tm_cp cK (E * 7) (x * 7) w 0) (E * 7 + w) (y * 7) wy 0) (E * 7 + w + wy) k, upd (tm_cp (tm_cp cO (E * 7) (x * 7) w 0) (E * 7 + w) (y * 7) wy 0) (E * 7 + w + wy) 0, upd (tm_cp (tm_cp cR (E * 7) (x * 7) w 0) (E * 7 + w) (y * 7) wy 1) (E * 7 + w + wy) 0, rg, oP, oX, oY, oZ, lS, lT, lL, va, iu, sz, ke, en, fd, ou)) : wpX_compile post (nI E, sN, oL, fC, oC, wt, cK, cO, cR, rg, oP, oX, oY, oZ, lS, lT, lL, va, iu, sz, ke, en, fd, ou) k (nI x) (nI y) := by
  have hy30 : vp_in (nI y) 30 := vp_in_nI (by omega) (by decide)
  have n7 : ¬ k = 7 := by rcases h with rfl | rfl | rfl | rfl | rfl | rfl <;> decide
  have n8 : ¬ k = 8 := by rcases h with rfl | rfl | rfl | rfl | rfl | rfl <;> decide
  unfold wpX_compile
  refine nm_r (pk_mul E 7) (xe_p2 (Or.inr (Or.inr h)) (br_f (by decide) ?_))
  refine xe_copy (by omega) hw (by omega) (by omega) ?_
  refine ⟨vp_in_nI (by omega) (by decide), nm_r (by rw [nI_clamp (by omega), hw, nI_add]) (br_f (by decide) (br_f n7 (br_f n8 ?_)))⟩
  refine xe_copy (by omega) hwy (by omega) (by omega) ?_
  refine ⟨hy30, ?_⟩
  rw [nI_clamp (n := y) (by omega), hwy, nI_add]
  exact xe_emit (by omega) hp
/-- the last lines of express -/
theorem xe_end {post : Int32 → SX → Prop} {E w : Nat} {k x y : Int32} {cK' cO' cR' : Nat → Int32} (hE : E < 30) (hw : w ≤ 7) (hc : ∀ post : SX → Prop, post (nI E, sN, oL, fC, oC, wt, cK', cO', cR', rg, oP, oX, oY, oZ, lS, lT, lL, va, iu, sz, ke, en, fd, ou) → wpX_compile post (nI E, sN, oL, fC, oC, wt, cK, cO, cR, rg, oP, oX, oY, oZ, lS, lT, lL, va, iu, sz, ke, en, fd, ou) k x y) (hp : post (nI E) (nI (E + 1), sN, oL, fC, oC, upd wt E (nI w), cK', cO', cR', rg, oP, oX, oY, oZ, lS, lT, lL, va, iu, sz, ke, en, fd, ou)) : wX_express_113 post k x y (nI w) (nI E) sN oL fC oC wt cK cO cR rg oP oX oY oZ lS lT lL va iu sz ke en fd ou := by
  unfold wX_express_113
  refine br_t (nI_le (b := 7) hw (by decide)) (hc _ ?_)
  exact ⟨vp_in_nI hE (by decide), nm_r (by rw [nI_clamp (by omega)]) (nm_r (nI_1 E) hp)⟩
theorem xe_far {post : Int32 → SX → Prop} {w : Nat} {k x y : Int32} (hw : 7 < w) (hw2 : w < 100) (hp : post (-2) (eN, sN, oL, fC, oC, wt, cK, cO, cR, rg, oP, oX, oY, oZ, lS, lT, lL, va, iu, sz, ke, en, fd, ou)) : wX_express_113 post k x y (nI w) eN sN oL fC oC wt cK cO cR rg oP oX oY oZ lS lT lL va iu sz ke en fd ou := by
  unfold wX_express_113
  exact br_f (nI_ge (a := 7) hw (by omega)) hp
theorem xe_38_0 {post : Int32 → SX → Prop} {k x y : Int32} (h : k = 0 ∨ k = 1 ∨ k = 11) (hp : wX_express_113 post k x y (nI 1) eN sN oL fC oC wt cK cO cR rg oP oX oY oZ lS lT lL va iu sz ke en fd ou) : wX_express_38 post k x y eN sN oL fC oC wt cK cO cR rg oP oX oY oZ lS lT lL va iu sz ke en fd ou := by
  unfold wX_express_38
  exact xe_p0 h (br_t (by decide) (br_f (by decide) (br_t (by decide) (br_f (by decide) hp))))
theorem xe_38_1 {post : Int32 → SX → Prop} {E x w : Nat} {k y : Int32} (hE : E ≤ 30) (h : k = 9 ∨ k = 12) (hx : x < E) (hw : wt x = nI w) (hp : wX_express_113 post k (nI x) y (nI (1 + w)) (nI E) sN oL fC oC wt cK cO cR rg oP oX oY oZ lS lT lL va iu sz ke en fd ou) : wX_express_38 post k (nI x) y (nI E) sN oL fC oC wt cK cO cR rg oP oX oY oZ lS lT lL va iu sz ke en fd ou := by
  unfold wX_express_38
  refine xe_p1 h (br_f (by decide) (xv_E1 hE ⟨x, hx, rfl⟩ (br_f (by decide) ?_)))
  exact br_f (by decide) (br_f (by decide) ⟨vp_in_nI (by omega) (by decide), nm_r (by rw [nI_clamp (by omega), hw]; exact nI_add 1 w) (br_f (by decide) hp)⟩)
theorem xe_38_2 {post : Int32 → SX → Prop} {E x w y wy : Nat} {k : Int32} (hE : E ≤ 30) (h : k = 7 ∨ k = 8 ∨ tm_k2 k) (hx : x < E) (hw : wt x = nI w) (hy : y < E) (hwy : wt y = nI wy) (hp : wX_express_113 post k (nI x) (nI y) (nI (1 + w + wy)) (nI E) sN oL fC oC wt cK cO cR rg oP oX oY oZ lS lT lL va iu sz ke en fd ou) : wX_express_38 post k (nI x) (nI y) (nI E) sN oL fC oC wt cK cO cR rg oP oX oY oZ lS lT lL va iu sz ke en fd ou := by
  unfold wX_express_38
  refine xe_p2 h (br_f (by decide) (xv_E1 hE ⟨x, hx, rfl⟩ (br_f (by decide) ?_)))
  refine br_t rfl (xv_E1 hE ⟨y, hy, rfl⟩ (br_f (by decide) ?_))
  have e1 : 1 + wt (nI x).toNatClampNeg = nI (1 + w) := by rw [nI_clamp (by omega), hw]; exact nI_add 1 w
  have e2 : nI (1 + w) + wt (nI y).toNatClampNeg = nI (1 + w + wy) := by rw [nI_clamp (by omega), hwy]; exact nI_add (1 + w) wy
  exact br_f (by decide) ⟨vp_in_nI (by omega) (by decide), nm_r e1 (br_t rfl ⟨vp_in_nI (by omega) (by decide), nm_r e2 hp⟩)⟩
theorem xe_38_1b {post : Int32 → SX → Prop} {E : Nat} {k x y : Int32} (hE : E ≤ 30) (h : (k = 9 ∨ k = 12) ∨ (k = 7 ∨ k = 8 ∨ tm_k2 k)) (hx : ¬ ∃ a, a < E ∧ x = nI a) (hp : post (-1) (nI E, sN, oL, fC, oC, wt, cK, cO, cR, rg, oP, oX, oY, oZ, lS, lT, lL, va, iu, sz, ke, en, fd, ou)) : wX_express_38 post k x y (nI E) sN oL fC oC wt cK cO cR rg oP oX oY oZ lS lT lL va iu sz ke en fd ou := by
  unfold wX_express_38
  rcases h with h | h
  · exact xe_p1 h (br_f (by decide) (xv_E0 hE hx (br_t rfl hp)))
  · exact xe_p2 h (br_f (by decide) (xv_E0 hE hx (br_t rfl hp)))
theorem xe_38_2b {post : Int32 → SX → Prop} {E : Nat} {k x y : Int32} (hE : E ≤ 30) (h : k = 7 ∨ k = 8 ∨ tm_k2 k) (hx : ∃ a, a < E ∧ x = nI a) (hy : ¬ ∃ a, a < E ∧ y = nI a) (hp : post (-1) (nI E, sN, oL, fC, oC, wt, cK, cO, cR, rg, oP, oX, oY, oZ, lS, lT, lL, va, iu, sz, ke, en, fd, ou)) : wX_express_38 post k x y (nI E) sN oL fC oC wt cK cO cR rg oP oX oY oZ lS lT lL va iu sz ke en fd ou := by
  unfold wX_express_38
  exact xe_p2 h (br_f (by decide) (xv_E1 hE hx (br_f (by decide) (br_t rfl (xv_E0 hE hy (br_t rfl hp))))))
theorem xe_top {post : Int32 → SX → Prop} {E : Nat} {k x y : Int32} (hE : E < 30) (h0 : ¬ k < 0) (h12 : k ≤ 12) (h1 : k = 1 → ∃ v, v < 6 ∧ x = nI v) (hp : wX_express_38 post k x y (nI E) sN oL fC oC wt cK cO cR rg oP oX oY oZ lS lT lL va iu sz ke en fd ou) : wpX_express post (nI E, sN, oL, fC, oC, wt, cK, cO, cR, rg, oP, oX, oY, oZ, lS, lT, lL, va, iu, sz, ke, en, fd, ou) k x y := by
  unfold wpX_express
  refine br_t (nI_lt (b := 30) hE (by decide)) (br_f h0 (br_t h12 ?_))
  by_cases q : k = 1
  · exact br_t q (xv_isV (h1 q) (br_f (by decide) hp))
  · exact br_f q hp
theorem ye_end {post : Int32 → SY → Prop} {E w : Nat} {k x y z0 z1 : Int32} (hE : E < 30) (hw : w ≤ 7) (hz : z1 + z0 = nI w) (hp : post (nI E) (nI (E + 1), yN, yC, dp, tp, fl, lo, upd kd E k, upd ex E x, upd ey E y, upd yW E (nI w), yP, yX, yY, yZ, vs, vn, zy, yK, es, eu, tk, sn, yO, wk, sg, so, nu, la, tu, lz)) : wY_express_106 post k x y z0 z1 (nI E) yN yC dp tp fl lo kd ex ey yW yP yX yY yZ vs vn zy yK es eu tk sn yO wk sg so nu la tu lz := by
  have h1 : vp_in (nI E) 30 := vp_in_nI hE (by decide)
  have hc : (nI E).toNatClampNeg = E := nI_clamp (by omega)
  unfold wY_express_106
  refine nm_r hz (br_t (nI_le (b := 7) hw (by decide)) ⟨h1, nm_r (by rw [hc]) ⟨h1, nm_r (by rw [hc]) ⟨h1, nm_r (by rw [hc]) ⟨h1, nm_r (by rw [hc]) (nm_r (nI_1 E) ?_)⟩⟩⟩⟩)
  rw [nI_pred]
  exact hp
theorem ye_far {post : Int32 → SY → Prop} {w : Nat} {k x y z0 z1 : Int32} (hw : 7 < w) (hw2 : w < 100) (hz : z1 + z0 = nI w) (hp : post (-2) (yE, yN, yC, dp, tp, fl, lo, kd, ex, ey, yW, yP, yX, yY, yZ, vs, vn, zy, yK, es, eu, tk, sn, yO, wk, sg, so, nu, la, tu, lz)) : wY_express_106 post k x y z0 z1 yE yN yC dp tp fl lo kd ex ey yW yP yX yY yZ vs vn zy yK es eu tk sn yO wk sg so nu la tu lz := by
  unfold wY_express_106
  exact nm_r hz (br_f (nI_ge (a := 7) hw (by omega)) hp)
theorem ye_37_0 {post : Int32 → SY → Prop} {k x y : Int32} (h : k = 0 ∨ k = 1 ∨ k = 11) (hp : wY_express_106 post k x y 0 (1 + 0) yE yN yC dp tp fl lo kd ex ey yW yP yX yY yZ vs vn zy yK es eu tk sn yO wk sg so nu la tu lz) : wY_express_37 post k x y yE yN yC dp tp fl lo kd ex ey yW yP yX yY yZ vs vn zy yK es eu tk sn yO wk sg so nu la tu lz := by
  unfold wY_express_37
  exact ye_p0 h (br_t (by decide) (br_t (by decide) (br_t (by decide) (br_t (by decide) hp))))
theorem ye_37_1 {post : Int32 → SY → Prop} {E x w : Nat} {k y : Int32} (hE : E ≤ 30) (h : k = 9 ∨ k = 12) (hx : x < E) (hw : yW x = nI w) (hp : wY_express_106 post k (nI x) y 0 (1 + nI w) (nI E) yN yC dp tp fl lo kd ex ey yW yP yX yY yZ vs vn zy yK es eu tk sn yO wk sg so nu la tu lz) : wY_express_37 post k (nI x) y (nI E) yN yC dp tp fl lo kd ex ey yW yP yX yY yZ vs vn zy yK es eu tk sn yO wk sg so nu la tu lz := by
  unfold wY_express_37
  refine ye_p1 h (br_f (by decide) (yv_E1 hE ⟨x, hx, rfl⟩ (br_f (by decide) (br_t (by decide) (br_f (by decide) ⟨vp_in_nI (by omega) (by decide), ?_⟩)))))
  rw [nI_clamp (n := x) (by omega), hw]
  exact br_t (by decide) hp
theorem ye_37_2 {post : Int32 → SY → Prop} {E x w y wy : Nat} {k : Int32} (hE : E ≤ 30) (h : k = 7 ∨ k = 8 ∨ tm_k2 k) (hx : x < E) (hw : yW x = nI w) (hy : y < E) (hwy : yW y = nI wy) (hp : wY_express_106 post k (nI x) (nI y) (nI wy) (1 + nI w) (nI E) yN yC dp tp fl lo kd ex ey yW yP yX yY yZ vs vn zy yK es eu tk sn yO wk sg so nu la tu lz) : wY_express_37 post k (nI x) (nI y) (nI E) yN yC dp tp fl lo kd ex ey yW yP yX yY yZ vs vn zy yK es eu tk sn yO wk sg so nu la tu lz := by
  unfold wY_express_37
  refine ye_p2 h (br_f (by decide) (yv_E1 hE ⟨x, hx, rfl⟩ (br_f (by decide) (br_f (by decide) (yv_E1 hE ⟨y, hy, rfl⟩ (br_f (by decide) (br_f (by decide) ⟨vp_in_nI (by omega) (by decide), ?_⟩)))))))
  rw [nI_clamp (n := x) (by omega), hw]
  refine br_f (by decide) ⟨vp_in_nI (by omega) (by decide), ?_⟩
  rw [nI_clamp (n := y) (by omega), hwy]
  exact hp
theorem ye_37_1b {post : Int32 → SY → Prop} {E : Nat} {k x y : Int32} (hE : E ≤ 30) (h : (k = 9 ∨ k = 12) ∨ (k = 7 ∨ k = 8 ∨ tm_k2 k)) (hx : ¬ ∃ a, a < E ∧ x = nI a) (hp : post (-1) (nI E, yN, yC, dp, tp, fl, lo, kd, ex, ey, yW, yP, yX, yY, yZ, vs, vn, zy, yK, es, eu, tk, sn, yO, wk, sg, so, nu, la, tu, lz)) : wY_express_37 post k x y (nI E) yN yC dp tp fl lo kd ex ey yW yP yX yY yZ vs vn zy yK es eu tk sn yO wk sg so nu la tu lz := by
  unfold wY_express_37
  rcases h with h | h
  · exact ye_p1 h (br_f (by decide) (yv_E0 hE hx (br_t rfl hp)))
  · exact ye_p2 h (br_f (by decide) (yv_E0 hE hx (br_t rfl hp)))
theorem ye_37_2b {post : Int32 → SY → Prop} {E : Nat} {k x y : Int32} (hE : E ≤ 30) (h : k = 7 ∨ k = 8 ∨ tm_k2 k) (hx : ∃ a, a < E ∧ x = nI a) (hy : ¬ ∃ a, a < E ∧ y = nI a) (hp : post (-1) (nI E, yN, yC, dp, tp, fl, lo, kd, ex, ey, yW, yP, yX, yY, yZ, vs, vn, zy, yK, es, eu, tk, sn, yO, wk, sg, so, nu, la, tu, lz)) : wY_express_37 post k x y (nI E) yN yC dp tp fl lo kd ex ey yW yP yX yY yZ vs vn zy yK es eu tk sn yO wk sg so nu la tu lz := by
  unfold wY_express_37
  exact ye_p2 h (br_f (by decide) (yv_E1 hE hx (br_f (by decide) (br_f (by decide) (yv_E0 hE hy (br_t rfl hp))))))
theorem ye_top {post : Int32 → SY → Prop} {E : Nat} {k x y : Int32} (hE : E < 30) (h0 : ¬ k < 0) (h12 : ¬ 12 < k) (h1 : k = 1 → ∃ v, v < 6 ∧ x = nI v) (hp : wY_express_37 post k x y (nI E) yN yC dp tp fl lo kd ex ey yW yP yX yY yZ vs vn zy yK es eu tk sn yO wk sg so nu la tu lz) : wpY_express post (nI E, yN, yC, dp, tp, fl, lo, kd, ex, ey, yW, yP, yX, yY, yZ, vs, vn, zy, yK, es, eu, tk, sn, yO, wk, sg, so, nu, la, tu, lz) k x y := by
  unfold wpY_express
  refine br_f (fun q => ?_) (br_f h0 (br_f h12 ?_))
  · have := (nI_eq (b := 30) (by omega) (by decide)).mp q
    omega
  by_cases q : k = 1
  · exact br_t q (yv_isV (h1 q) (br_f (by decide) hp))
  · exact br_f q hp
end
theorem xe_cls {k : Int32} (h0 : ¬ k < 0) (h12 : k ≤ 12) : (k = 0 ∨ k = 1 ∨ k = 11) ∨ (k = 9 ∨ k = 12) ∨ (k = 7 ∨ k = 8 ∨ tm_k2 k) := by
  obtain ⟨j, hj, rfl⟩ := nI_of2 (M := 12) (n := 12) (by decide) h0 h12
  unfold tm_k2
  have : ∀ j, j ≤ 12 → (nI j = 0 ∨ nI j = 1 ∨ nI j = 11) ∨ (nI j = 9 ∨ nI j = 12) ∨ (nI j = 7 ∨ nI j = 8 ∨ (nI j = 2 ∨ nI j = 3 ∨ nI j = 4 ∨ nI j = 5 ∨ nI j = 6 ∨ nI j = 10)) := by
    decide +kernel
  exact this j hj
theorem tm_VEs {E w : Nat} {kd ex ey wt cK cO cR cK' cO' cR' : Nat → Int32} {k x y : Int32} (hV : tm_VE E kd ex ey wt cK cO cR) (hc : ∀ j, j < E * 7 → cK' j = cK j ∧ cO' j = cO j ∧ cR' j = cR j) (hw : w ≤ 7)
    (hT : tm_T (E + 1) (upd kd E k) (upd ex E x) (upd ey E y) (upd wt E (nI w)) cK' cO' cR' w w E (7 * E) 0) : tm_VE (E + 1) (upd kd E k) (upd ex E x) (upd ey E y) (upd wt E (nI w)) cK' cO' cR' := by
  intro e he
  by_cases q : e = E
  · subst q; exact ⟨w, hw, hT⟩
  · obtain ⟨v, hv, T⟩ := hV e (by omega)
    refine ⟨v, hv, tm_map (E := E) (E' := E + 1) (by omega) (fun e he => ?_) v v e (7 * e) 0 (7 * e) 0 (fun i hi => ?_) T⟩
    · exact ⟨pk_un (by omega), pk_un (by omega), pk_un (by omega), pk_un (by omega)⟩
    · obtain ⟨a, b, c⟩ := hc (7 * e + i) (by omega)
      exact ⟨a, b, by rw [c, nI_0, Int32.add_zero]⟩
theorem i_vc_express {k : Nat} {u : SX} {v : SY} (I : i_Rel k u v) (hk : k + 5 ≤ 2560) (v1 : Int32) (v2 : Int32) (v3 : Int32) : wpX_express (fun r u' => wpY_express (fun r' v' => r' = r ∧ i_Rel (k + 5) u' v') v v1 v2 v3) u v1 v2 v3 := by
  have hR := i_up I
  obtain ⟨E, N, oL, fC, oC, wt, cK, cO, cR, rg, oP, oX, oY, oZ, lS, lT, lL, iu, sz, ke, fd, ou, dp, tp, fl, lo, kd, ex, ey, vs, vn, zy, es, eu, tk, sn, wk, sg, so, nu, la, tu, lz, rfl, rfl, J⟩ := I
  obtain ⟨hE, hN, hVE, hVS, hiu, htk, U, H⟩ := J
  by_cases h30 : E = 30
  · subst h30
    unfold wpX_express wpY_express
    exact br_f (by decide) (br_t rfl ⟨rfl, hR⟩)
  have hE2 : E < 30 := by omega
  have n30 : ¬ nI E = 30 := fun q => h30 ((nI_eq (b := 30) (by omega) (by decide)).mp q)
  have hS2 : ∀ s, s < N → tm_st (E + 1) (oP s) (oX s) (oY s) (oZ s) := by
    intro s hs
    have q := hVS s hs
    unfold tm_st at q ⊢
    rcases q with ⟨h, a, b, b1, b2⟩ | ⟨h, ⟨a, a1, a2⟩, ⟨b, b1, b2⟩, c, c1, c2⟩ | ⟨h, ⟨a, a1, a2⟩, b⟩ | ⟨h, a, ⟨b, b1, b2⟩, c⟩ | ⟨h, a, a1, a2⟩
    · exact Or.inl ⟨h, a, b, by omega, b2⟩
    · exact Or.inr (Or.inl ⟨h, ⟨a, by omega, a2⟩, ⟨b, by omega, b2⟩, c, by omega, c2⟩)
    · exact Or.inr (Or.inr (Or.inl ⟨h, ⟨a, by omega, a2⟩, b⟩))
    · exact Or.inr (Or.inr (Or.inr (Or.inl ⟨h, a, ⟨b, by omega, b2⟩, c⟩)))
    · exact Or.inr (Or.inr (Or.inr (Or.inr ⟨h, a, by omega, a2⟩)))
  by_cases h0 : v1 < 0
  · unfold wpX_express wpY_express
    exact br_t (nI_lt (b := 30) hE2 (by decide)) (br_t h0 (br_f n30 (br_t h0 ⟨rfl, hR⟩)))
  by_cases h12 : v1 ≤ 12
  rotate_left
  · unfold wpX_express wpY_express
    have h13 : 12 < v1 := Int32.not_le.mp h12
    exact br_t (nI_lt (b := 30) hE2 (by decide)) (br_f h0 (br_f h12 (br_f n30 (br_f h0 (br_t h13 ⟨rfl, hR⟩)))))
  have h13 : ¬ 12 < v1 := fun z => (Int32.not_lt.mpr h12) z
  by_cases hv : v1 = 1 → ∃ v, v < 6 ∧ v2 = nI v
  rotate_left
  · obtain ⟨hv1, hv2⟩ := Classical.not_imp.mp hv
    unfold wpX_express wpY_express
    refine br_t (nI_lt (b := 30) hE2 (by decide)) (br_f h0 (br_t h12 (br_t hv1 (xv_V0 hv2 (br_t rfl ?_)))))
    exact br_f n30 (br_f h0 (br_f h13 (br_t hv1 (yv_V0 hv2 (br_t rfl ⟨rfl, hR⟩)))))
  refine xe_top hE2 h0 h12 hv ?_
  rcases xe_cls h0 h12 with hc | hc | hc
  · -- no parts
    refine xe_38_0 hc ?_
    refine xe_end hE2 (by decide) (fun post hp => xe_leaf hE2 hc hp) ?_
    refine ye_top hE2 h0 h13 hv ?_
    refine ye_37_0 hc ?_
    refine ye_end (w := 1) hE2 (by decide) (by decide) ⟨rfl, ?_⟩
    refine ⟨E + 1, N, oL, fC, oC, upd wt E (nI 1), upd cK (E * 7) v1, upd cO (E * 7) v2, upd cR (E * 7) 0, rg, oP, oX, oY, oZ, lS, lT, lL, iu, sz, ke, fd, ou, dp, tp, fl, lo, upd kd E v1, upd ex E v2, upd ey E v3, vs, vn, zy, es, eu, tk, sn, wk, sg, so, nu, la, tu, lz, rfl, rfl, by omega, hN, ?_, hS2, hiu, htk, U, H⟩
    refine tm_VEs hVE (fun j hj => ⟨pk_un (by omega), pk_un (by omega), pk_un (by omega)⟩) (by decide) ⟨by omega, pk_us, Or.inl ⟨rfl, ?_⟩⟩
    rw [Nat.mul_comm 7 E, pk_us, pk_us, pk_us, pk_us, pk_us]
    refine ⟨rfl, rfl, rfl, ?_⟩
    rcases hc with hc | hc | hc
    · exact Or.inl hc
    · exact Or.inr (Or.inl ⟨hc, hv hc⟩)
    · exact Or.inr (Or.inr hc)
  · -- one part
    by_cases hx : ∃ a, a < E ∧ v2 = nI a
    rotate_left
    · refine xe_38_1b hE (Or.inl hc) hx ?_
      exact ye_top hE2 h0 h13 hv (ye_37_1b hE (Or.inl hc) hx ⟨rfl, hR⟩)
    obtain ⟨x, hx, rfl⟩ := hx
    obtain ⟨w, hw7, T⟩ := hVE x hx
    have hw := (tm_pos T).2.1
    refine xe_38_1 hE hc hx hw ?_
    by_cases q : 1 + w ≤ 7
    rotate_left
    · refine xe_far (by omega) (by omega) ?_
      exact ye_top hE2 h0 h13 hv (ye_37_1 hE hc hx hw (ye_far (w := 1 + w) (by omega) (by omega) (by rw [Int32.add_zero]; exact nI_add 1 w) ⟨rfl, hR⟩))
    refine xe_end hE2 q (fun post hp => xe_one hE2 hc hx hw (by omega) hp) ?_
    refine ye_top hE2 h0 h13 hv (ye_37_1 hE hc hx hw (ye_end (w := 1 + w) hE2 q (by rw [Int32.add_zero]; exact nI_add 1 w) ⟨rfl, ?_⟩))
    refine ⟨E + 1, N, oL, fC, oC, upd wt E (nI (1 + w)), upd (tm_cp cK (E * 7) (x * 7) w 0) (E * 7 + w) v1, upd (tm_cp cO (E * 7) (x * 7) w 0) (E * 7 + w) 0, upd (tm_cp cR (E * 7) (x * 7) w 0) (E * 7 + w) 0, rg, oP, oX, oY, oZ, lS, lT, lL, iu, sz, ke, fd, ou, dp, tp, fl, lo, upd kd E v1, upd ex E (nI x), upd ey E v3, vs, vn, zy, es, eu, tk, sn, wk, sg, so, nu, la, tu, lz, rfl, rfl, by omega, hN, ?_, hS2, hiu, htk, U, H⟩
    refine tm_VEs hVE (fun j hj => ?_) q ?_
    · rw [pk_un (by omega), pk_un (by omega), pk_un (by omega), tm_cpo (by omega), tm_cpo (by omega), tm_cpo (by omega)]
      exact ⟨rfl, rfl, rfl⟩
    · rw [Nat.add_comm 1 w] at q ⊢
      refine ⟨by omega, pk_us, Or.inr (Or.inl ⟨x, w, ?_⟩)⟩
      rw [Nat.mul_comm 7 E, pk_us, pk_us, pk_us, pk_us]
      refine ⟨hc, rfl, rfl, ?_, rfl, rfl⟩
      refine tm_map (E := E) (E' := E + 1) (by omega) (fun e he => ⟨pk_un (by omega), pk_un (by omega), pk_un (by omega), pk_un (by omega)⟩) w w x (7 * x) 0 (E * 7) 0 (fun i hi => ?_) T
      rw [pk_un (by omega), pk_un (by omega), pk_un (by omega), tm_cpi hi, tm_cpi hi, tm_cpi hi, Nat.mul_comm x 7, Int32.add_zero, Int32.add_zero]
      exact ⟨rfl, rfl, rfl⟩
  · -- two parts
    by_cases hx : ∃ a, a < E ∧ v2 = nI a
    rotate_left
    · refine xe_38_1b hE (Or.inr hc) hx ?_
      exact ye_top hE2 h0 h13 hv (ye_37_1b hE (Or.inr hc) hx ⟨rfl, hR⟩)
    by_cases hy : ∃ a, a < E ∧ v3 = nI a
    rotate_left
    · refine xe_38_2b hE hc hx hy ?_
      exact ye_top hE2 h0 h13 hv (ye_37_2b hE hc hx hy ⟨rfl, hR⟩)
    obtain ⟨x, hx, rfl⟩ := hx
    obtain ⟨y, hy, rfl⟩ := hy
    obtain ⟨w, hw7, T⟩ := hVE x hx
    obtain ⟨wy, hwy7, Ty⟩ := hVE y hy
    have hw := (tm_pos T).2.1
    have hwy := (tm_pos Ty).2.1
    have hz : (1 + nI w) + nI wy = nI (1 + w + wy) := by rw [show (1 : Int32) + nI w = nI (1 + w) from nI_add 1 w, nI_add]
    refine xe_38_2 hE hc hx hw hy hwy ?_
    by_cases q : 1 + w + wy ≤ 7
    rotate_left
    · refine xe_far (by omega) (by omega) ?_
      exact ye_top hE2 h0 h13 hv (ye_37_2 hE hc hx hw hy hwy (ye_far (w := 1 + w + wy) (by omega) (by omega) hz ⟨rfl, hR⟩))
    have hke : ∀ e, e < E → upd kd E v1 e = kd e ∧ upd ex E (nI x) e = ex e ∧ upd ey E (nI y) e = ey e ∧ upd wt E (nI (1 + w + wy)) e = wt e := fun e he => ⟨pk_un (by omega), pk_un (by omega), pk_un (by omega), pk_un (by omega)⟩
    by_cases hch : v1 = 7 ∨ v1 = 8
    · refine xe_end hE2 q (fun post hp => xe_ch hE2 hch hx hw hy hwy (by omega) hp) ?_
      refine ye_top hE2 h0 h13 hv (ye_37_2 hE hc hx hw hy hwy (ye_end (w := 1 + w + wy) hE2 q hz ⟨rfl, ?_⟩))
      refine ⟨E + 1, N, oL, fC, oC, upd wt E (nI (1 + w + wy)), tm_cp (upd (tm_cp cK (E * 7) (x * 7) w 0) (E * 7 + w) v1) (E * 7 + w + 1) (y * 7) wy 0, tm_cp (upd (tm_cp cO (E * 7) (x * 7) w 0) (E * 7 + w) (nI wy)) (E * 7 + w + 1) (y * 7) wy 0, tm_cp (upd (tm_cp cR (E * 7) (x * 7) w 0) (E * 7 + w) 0) (E * 7 + w + 1) (y * 7) wy 0, rg, oP, oX, oY, oZ, lS, lT, lL, iu, sz, ke, fd, ou, dp, tp, fl, lo, upd kd E v1, upd ex E (nI x), upd ey E (nI y), vs, vn, zy, es, eu, tk, sn, wk, sg, so, nu, la, tu, lz, rfl, rfl, by omega, hN, ?_, hS2, hiu, htk, U, H⟩
      refine tm_VEs hVE (fun j hj => ?_) q ?_
      · rw [tm_cpo (by omega), tm_cpo (by omega), tm_cpo (by omega), pk_un (by omega), pk_un (by omega), pk_un (by omega), tm_cpo (by omega), tm_cpo (by omega), tm_cpo (by omega)]
        exact ⟨rfl, rfl, rfl⟩
      · rw [show 1 + w + wy = w + wy + 1 by omega] at hke ⊢
        refine ⟨by omega, pk_us, Or.inr (Or.inr (Or.inl ⟨x, y, w, wy, ?_⟩))⟩
        rw [Nat.mul_comm 7 E, tm_cpo (c := upd (tm_cp cK (E * 7) (x * 7) w 0) (E * 7 + w) v1) (j := E * 7 + w) (by omega), tm_cpo (c := upd (tm_cp cO (E * 7) (x * 7) w 0) (E * 7 + w) (nI wy)) (j := E * 7 + w) (by omega), tm_cpo (c := upd (tm_cp cR (E * 7) (x * 7) w 0) (E * 7 + w) 0) (j := E * 7 + w) (by omega), pk_us, pk_us, pk_us, pk_us, pk_us, pk_us]
        refine ⟨hch, rfl, rfl, by omega, ?_, rfl, rfl, rfl, ?_⟩
        · refine tm_mono w (w + wy) _ _ _ _ (by omega) (tm_map (E := E) (E' := E + 1) (by omega) hke w w x (7 * x) 0 (E * 7) 0 (fun i hi => ?_) T)
          rw [tm_cpo (by omega), tm_cpo (by omega), tm_cpo (by omega), pk_un (by omega), pk_un (by omega), pk_un (by omega), tm_cpi hi, tm_cpi hi, tm_cpi hi, Nat.mul_comm x 7, Int32.add_zero, Int32.add_zero]
          exact ⟨rfl, rfl, rfl⟩
        · refine tm_mono wy (w + wy) _ _ _ _ (by omega) (tm_map (E := E) (E' := E + 1) (by omega) hke wy wy y (7 * y) 0 (E * 7 + w + 1) 0 (fun i hi => ?_) Ty)
          rw [tm_cpi hi, tm_cpi hi, tm_cpi hi, pk_un (by omega), pk_un (by omega), pk_un (by omega), tm_cpo (by omega), tm_cpo (by omega), tm_cpo (by omega), Nat.mul_comm y 7, Int32.add_zero, Int32.add_zero]
          exact ⟨rfl, rfl, rfl⟩
    · have hk2 : tm_k2 v1 := by
        rcases hc with h | h | h
        · exact absurd (Or.inl h) hch
        · exact absurd (Or.inr h) hch
        · exact h
      refine xe_end hE2 q (fun post hp => xe_two hE2 hk2 hx hw hy hwy (by omega) hp) ?_
      refine ye_top hE2 h0 h13 hv (ye_37_2 hE hc hx hw hy hwy (ye_end (w := 1 + w + wy) hE2 q hz ⟨rfl, ?_⟩))
      refine ⟨E + 1, N, oL, fC, oC, upd wt E (nI (1 + w + wy)), upd (tm_cp (tm_cp cK (E * 7) (x * 7) w 0) (E * 7 + w) (y * 7) wy 0) (E * 7 + w + wy) v1, upd (tm_cp (tm_cp cO (E * 7) (x * 7) w 0) (E * 7 + w) (y * 7) wy 0) (E * 7 + w + wy) 0, upd (tm_cp (tm_cp cR (E * 7) (x * 7) w 0) (E * 7 + w) (y * 7) wy 1) (E * 7 + w + wy) 0, rg, oP, oX, oY, oZ, lS, lT, lL, iu, sz, ke, fd, ou, dp, tp, fl, lo, upd kd E v1, upd ex E (nI x), upd ey E (nI y), vs, vn, zy, es, eu, tk, sn, wk, sg, so, nu, la, tu, lz, rfl, rfl, by omega, hN, ?_, hS2, hiu, htk, U, H⟩
      refine tm_VEs hVE (fun j hj => ?_) q ?_
      · rw [pk_un (by omega), pk_un (by omega), pk_un (by omega), tm_cpo (by omega), tm_cpo (by omega), tm_cpo (by omega), tm_cpo (by omega), tm_cpo (by omega), tm_cpo (by omega)]
        exact ⟨rfl, rfl, rfl⟩
      · rw [show 1 + w + wy = w + wy + 1 by omega] at hke ⊢
        refine ⟨by omega, pk_us, Or.inr (Or.inr (Or.inr ⟨x, y, w, wy, ?_⟩))⟩
        rw [Nat.mul_comm 7 E, pk_us, pk_us, pk_us, pk_us, pk_us]
        refine ⟨hk2, rfl, rfl, by omega, ?_, ?_, rfl, rfl⟩
        · refine tm_mono w (w + wy) _ _ _ _ (by omega) (tm_map (E := E) (E' := E + 1) (by omega) hke w w x (7 * x) 0 (E * 7) 0 (fun i hi => ?_) T)
          rw [pk_un (by omega), pk_un (by omega), pk_un (by omega), tm_cpo (b := E * 7 + w) (by omega), tm_cpo (b := E * 7 + w) (by omega), tm_cpo (b := E * 7 + w) (by omega), tm_cpi hi, tm_cpi hi, tm_cpi hi, Nat.mul_comm x 7, Int32.add_zero, Int32.add_zero]
          exact ⟨rfl, rfl, rfl⟩
        · refine tm_mono wy (w + wy) _ _ _ _ (by omega) (tm_map (E := E) (E' := E + 1) (by omega) hke wy wy y (7 * y) 0 (E * 7 + w) 1 (fun i hi => ?_) Ty)
          rw [pk_un (by omega), pk_un (by omega), pk_un (by omega), tm_cpi hi, tm_cpi hi, tm_cpi hi, tm_cpo (by omega), tm_cpo (by omega), tm_cpo (by omega), Nat.mul_comm y 7, Int32.add_zero, Int32.add_zero]
          exact ⟨rfl, rfl, rfl⟩
