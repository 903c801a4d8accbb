/-! state, express -/
theorem st_0 {E : Nat} {x y z : Int32} (h : tm_st E 0 x y z) : (∃ v, v < 6 ∧ x = nI v) ∧ ∃ b, b < E ∧ y = nI b := by
  rcases h with ⟨_, h⟩ | ⟨h, _⟩ | ⟨h, _⟩ | ⟨h, _⟩ | ⟨h, _⟩
  · exact h
  all_goals exact absurd h (by decide)
theorem st_1 {E : Nat} {x y z : Int32} (h : tm_st E 1 x y z) : (∃ a, a < E ∧ x = nI a) ∧ (∃ b, b < E ∧ y = nI b) ∧ ∃ c, c < E ∧ z = nI c := by
  rcases h with ⟨h, _⟩ | ⟨_, h⟩ | ⟨h, _⟩ | ⟨h, _⟩ | ⟨h, _⟩
  · exact absurd h (by decide)
  · exact h
  all_goals exact absurd h (by decide)
theorem st_2 {E : Nat} {x y z : Int32} (h : tm_st E 2 x y z) : (∃ a, a < E ∧ x = nI a) ∧ ∃ m, 1 ≤ m ∧ m ≤ 6 ∧ y = nI m := by
  rcases h with ⟨h, _⟩ | ⟨h, _⟩ | ⟨_, h⟩ | ⟨h, _⟩ | ⟨h, _⟩
  · exact absurd h (by decide)
  · exact absurd h (by decide)
  · exact h
  all_goals exact absurd h (by decide)
theorem st_3 {E : Nat} {x y z : Int32} (h : tm_st E 3 x y z) : (∃ v, v < 6 ∧ x = nI v) ∧ (∃ b, b < E ∧ y = nI b) ∧ ∃ m, 1 ≤ m ∧ m ≤ 6 ∧ z = nI m := by
  rcases h with ⟨h, _⟩ | ⟨h, _⟩ | ⟨h, _⟩ | ⟨_, h⟩ | ⟨h, _⟩
  · exact absurd h (by decide)
  · exact absurd h (by decide)
  · exact absurd h (by decide)
  · exact h
  · exact absurd h (by decide)
theorem st_4 {E : Nat} {x y z : Int32} (h : tm_st E 4 x y z) : ∃ a, a < E ∧ x = nI a := by
  rcases h with ⟨h, _⟩ | ⟨h, _⟩ | ⟨h, _⟩ | ⟨h, _⟩ | ⟨_, h⟩
  · exact absurd h (by decide)
  · exact absurd h (by decide)
  · exact absurd h (by decide)
  · exact absurd h (by decide)
  · exact h
theorem st_n {E : Nat} {p x y z : Int32} (h : tm_st E p x y z) : p = 0 ∨ p = 1 ∨ p = 2 ∨ p = 3 ∨ p = 4 := by
  rcases h with ⟨h, _⟩ | ⟨h, _⟩ | ⟨h, _⟩ | ⟨h, _⟩ | ⟨h, _⟩
  · exact Or.inl h
  · exact Or.inr (Or.inl h)
  · exact Or.inr (Or.inr (Or.inl h))
  · exact Or.inr (Or.inr (Or.inr (Or.inl h)))
  · exact Or.inr (Or.inr (Or.inr (Or.inr h)))
theorem xv_V0 {post : Int32 → Prop} {v : Int32} (h : ¬ ∃ j, j < 6 ∧ v = nI j) (hp : post 0) : wpX_isVariable post v := xv_noV (cv_6.resolve_right h) hp
theorem xv_st {post : Int32 → Prop} {v : Int32} (h1 : (∃ m, 1 ≤ m ∧ m ≤ 6 ∧ v = nI m) → post 1) (h0 : ¬ (∃ m, 1 ≤ m ∧ m ≤ 6 ∧ v = nI m) → post 0) : wpX_canBeNamed post v := by
  unfold wpX_canBeNamed
  rcases pk_ix v (n := 7) (by decide) with h | h | ⟨j, hj, rfl⟩
  · refine br_t (Int32.lt_trans h (by decide)) (h0 ?_)
    rintro ⟨m, a, b, rfl⟩
    exact nI_pos (by omega) h
  · have h6 : ¬ v < 0 := fun z => absurd (Int32.lt_of_le_of_lt h z) (by decide)
    obtain ⟨j, hj, rfl⟩ := nI_of h6
    have h7 := (nI_leI (a := 7) (by decide) hj).mp h
    refine br_f (nI_nlt (b := 1) (by omega) hj) (br_t (nI_lt (a := 6) (by omega) hj) (h0 ?_))
    rintro ⟨m, a, b, e⟩
    have := (nI_eq hj (by omega)).mp e
    omega
  · by_cases q : j = 0
    · subst q
      refine br_t (by decide) (h0 ?_)
      rintro ⟨m, a, b, e⟩
      have := (nI_eq (by omega) (by omega)).mp e
      omega
    · exact br_f (nI_nlt (b := 1) (by omega) (by omega)) (br_f (nI_nlt (a := 6) (by omega) (by decide)) (h1 ⟨j, by omega, by omega, rfl⟩))
section
variable {eN sN oL fC oC : Int32} {wt cK cO cR : Nat → Int32} {rg : Nat → Int64} {oP oX oY oZ lS lT lL : Nat → Int32} {va : Nat → Int64} {iu sz ke : Nat → Int32} {en : Nat → Int64} {fd : Nat → Int32} {ou : Nat → Int64} {yE yN yC dp tp fl lo : Int32} {kd ex ey yW yP yX yY yZ vs vn zy yK es eu tk sn : Nat → Int32} {yO : Nat → Int64} {wk sg so nu la tu lz : Nat → Int32}
theorem yv_V0 {post : Int32 → Prop} {v : Int32} (h : ¬ ∃ j, j < 6 ∧ v = nI j) (hp : post 0) : wpY_isVariable post (yE, yN, yC, dp, tp, fl, lo, kd, ex, ey, yW, yP, yX, yY, yZ, vs, vn, zy, yK, es, eu, tk, sn, yO, wk, sg, so, nu, la, tu, lz) v := yv_noV (cv_6.resolve_right h) hp
theorem yv_st {post : Int32 → Prop} {v : Int32} (h1 : (∃ m, 1 ≤ m ∧ m ≤ 6 ∧ v = nI m) → post 1) (h0 : ¬ (∃ m, 1 ≤ m ∧ m ≤ 6 ∧ v = nI m) → post 0) : wpY_isStretch post (yE, yN, yC, dp, tp, fl, lo, kd, ex, ey, yW, yP, yX, yY, yZ, vs, vn, zy, yK, es, eu, tk, sn, yO, wk, sg, so, nu, la, tu, lz) v := xv_st h1 h0
theorem xv_E1 {post : Int32 → Prop} {E : Nat} {e : Int32} (hE : E ≤ 30) (h : ∃ a, a < E ∧ e = nI a) (hp : post 1) : wpX_isExpression post (nI E, sN, oL, fC, oC, wt, cK, cO, cR, rg, oP, oX, oY, oZ, lS, lT, lL, va, iu, sz, ke, en, fd, ou) e := by
  obtain ⟨a, ha, rfl⟩ := h
  exact br_f (nI_pos (by omega)) (br_f (nI_ge ha (by omega)) hp)
theorem xv_E0 {post : Int32 → Prop} {E : Nat} {e : Int32} (hE : E ≤ 30) (h : ¬ ∃ a, a < E ∧ e = nI a) (hp : post 0) : wpX_isExpression post (nI E, sN, oL, fC, oC, wt, cK, cO, cR, rg, oP, oX, oY, oZ, lS, lT, lL, va, iu, sz, ke, en, fd, ou) e := by
  rcases pk_ix e (n := E) (by omega) with q | q | q
  · exact br_t q hp
  · by_cases q0 : e < 0
    · exact br_t q0 hp
    · exact br_f q0 (br_t q hp)
  · exact absurd q h
theorem yv_E1 {post : Int32 → Prop} {E : Nat} {e : Int32} (hE : E ≤ 30) (h : ∃ a, a < E ∧ e = nI a) (hp : post 1) : wpY_isExpression post (nI E, yN, yC, dp, tp, fl, lo, kd, ex, ey, yW, yP, yX, yY, yZ, vs, vn, zy, yK, es, eu, tk, sn, yO, wk, sg, so, nu, la, tu, lz) e := by
  obtain ⟨a, ha, rfl⟩ := h
  exact br_f (nI_pos (by omega)) (br_f (nI_ge ha (by omega)) hp)
theorem yv_E0 {post : Int32 → Prop} {E : Nat} {e : Int32} (hE : E ≤ 30) (h : ¬ ∃ a, a < E ∧ e = nI a) (hp : post 0) : wpY_isExpression post (nI E, yN, yC, dp, tp, fl, lo, kd, ex, ey, yW, yP, yX, yY, yZ, vs, vn, zy, yK, es, eu, tk, sn, yO, wk, sg, so, nu, la, tu, lz) e := by
  rcases pk_ix e (n := E) (by omega) with q | q | q
  · exact br_t q hp
  · by_cases q0 : e < 0
    · exact br_t q0 hp
    · exact br_f q0 (br_t q hp)
  · exact absurd q h
theorem xn_isSt {post : Int32 → Prop} {E : Nat} {p x y z : Int32} (hE : E ≤ 30) (h1 : tm_st E p x y z → post 1) (h0 : ¬ tm_st E p x y z → post 0) : wpX_isStatement post (nI E, sN, oL, fC, oC, wt, cK, cO, cR, rg, oP, oX, oY, oZ, lS, lT, lL, va, iu, sz, ke, en, fd, ou) p x y z := by
  unfold wpX_isStatement
  by_cases p0 : p = 0
  · subst p0
    refine br_f (by decide) (br_f (by decide) (br_t rfl ?_))
    by_cases hx : ∃ v, v < 6 ∧ x = nI v
    · refine xv_isV hx (br_f (by decide) ?_)
      by_cases hy : ∃ b, b < E ∧ y = nI b
      · exact xv_E1 hE hy (br_f (by decide) (h1 (Or.inl ⟨rfl, hx, hy⟩)))
      · exact xv_E0 hE hy (br_t rfl (h0 fun q => hy (st_0 q).2))
    · exact xv_V0 hx (br_t rfl (h0 fun q => hx (st_0 q).1))
  by_cases p1 : p = 1
  · subst p1
    refine br_f (by decide) (br_f (by decide) (br_f p0 (br_t rfl ?_)))
    by_cases hx : ∃ b, b < E ∧ x = nI b
    · refine xv_E1 hE hx (br_f (by decide) ?_)
      by_cases hy : ∃ b, b < E ∧ y = nI b
      · refine xv_E1 hE hy (br_f (by decide) ?_)
        by_cases hz : ∃ b, b < E ∧ z = nI b
        · exact xv_E1 hE hz (br_f (by decide) (h1 (Or.inr (Or.inl ⟨rfl, hx, hy, hz⟩))))
        · exact xv_E0 hE hz (br_t rfl (h0 fun q => hz (st_1 q).2.2))
      · exact xv_E0 hE hy (br_t rfl (h0 fun q => hy (st_1 q).2.1))
    · exact xv_E0 hE hx (br_t rfl (h0 fun q => hx (st_1 q).1))
  by_cases p2 : p = 2
  · subst p2
    refine br_f (by decide) (br_f (by decide) (br_f p0 (br_f p1 (br_t rfl ?_))))
    by_cases hx : ∃ b, b < E ∧ x = nI b
    · refine xv_E1 hE hx (br_f (by decide) ?_)
      exact xv_st (fun hy => br_f (by decide) (h1 (Or.inr (Or.inr (Or.inl ⟨rfl, hx, hy⟩))))) (fun hy => br_t rfl (h0 fun q => hy (st_2 q).2))
    · exact xv_E0 hE hx (br_t rfl (h0 fun q => hx (st_2 q).1))
  by_cases p3 : p = 3
  · subst p3
    refine br_f (by decide) (br_f (by decide) (br_f p0 (br_f p1 (br_f p2 (br_t rfl ?_)))))
    by_cases hx : ∃ v, v < 6 ∧ x = nI v
    · refine xv_isV hx (br_f (by decide) ?_)
      by_cases hy : ∃ b, b < E ∧ y = nI b
      · refine xv_E1 hE hy (br_f (by decide) ?_)
        exact xv_st (fun hz => br_f (by decide) (h1 (Or.inr (Or.inr (Or.inr (Or.inl ⟨rfl, hx, hy, hz⟩)))))) (fun hz => br_t rfl (h0 fun q => hz (st_3 q).2.2))
      · exact xv_E0 hE hy (br_t rfl (h0 fun q => hy (st_3 q).2.1))
    · exact xv_V0 hx (br_t rfl (h0 fun q => hx (st_3 q).1))
  by_cases p4 : p = 4
  · subst p4
    refine br_f (by decide) (br_f (by decide) (br_f p0 (br_f p1 (br_f p2 (br_f p3 (br_t rfl ?_))))))
    by_cases hx : ∃ b, b < E ∧ x = nI b
    · exact xv_E1 hE hx ⟨rfl, h1 (Or.inr (Or.inr (Or.inr (Or.inr ⟨rfl, hx⟩))))⟩
    · exact xv_E0 hE hx ⟨rfl, h0 fun q => hx (st_4 q)⟩
  have hn : ¬ tm_st E p x y z := fun q => by rcases st_n q with e | e | e | e | e <;> contradiction
  exact br_c (fun _ => h0 hn) (fun _ => br_c (fun _ => h0 hn) (fun _ => br_f p0 (br_f p1 (br_f p2 (br_f p3 (br_f p4 trivial))))))
theorem yn_fits {post : Int32 → Prop} {E : Nat} {p x y z : Int32} (hE : E ≤ 30) (h1 : tm_st E p x y z → post 1) (h0 : ¬ tm_st E p x y z → post 0) : wpY_fits post (nI E, yN, yC, dp, tp, fl, lo, kd, ex, ey, yW, yP, yX, yY, yZ, vs, vn, zy, yK, es, eu, tk, sn, yO, wk, sg, so, nu, la, tu, lz) p x y z := by
  unfold wpY_fits
  by_cases p0 : p = 0
  · subst p0
    refine br_t rfl ?_
    by_cases hx : ∃ v, v < 6 ∧ x = nI v
    · refine yv_isV hx (br_f (by decide) ?_)
      by_cases hy : ∃ b, b < E ∧ y = nI b
      · exact yv_E1 hE hy (br_f (by decide) (h1 (Or.inl ⟨rfl, hx, hy⟩)))
      · exact yv_E0 hE hy (br_t rfl (h0 fun q => hy (st_0 q).2))
    · exact yv_V0 hx (br_t rfl (h0 fun q => hx (st_0 q).1))
  by_cases p1 : p = 1
  · subst p1
    refine br_f p0 (br_t rfl ?_)
    by_cases hx : ∃ b, b < E ∧ x = nI b
    · refine yv_E1 hE hx (br_f (by decide) ?_)
      by_cases hy : ∃ b, b < E ∧ y = nI b
      · refine yv_E1 hE hy (br_f (by decide) ?_)
        by_cases hz : ∃ b, b < E ∧ z = nI b
        · exact yv_E1 hE hz (br_f (by decide) (h1 (Or.inr (Or.inl ⟨rfl, hx, hy, hz⟩))))
        · exact yv_E0 hE hz (br_t rfl (h0 fun q => hz (st_1 q).2.2))
      · exact yv_E0 hE hy (br_t rfl (h0 fun q => hy (st_1 q).2.1))
    · exact yv_E0 hE hx (br_t rfl (h0 fun q => hx (st_1 q).1))
  by_cases p2 : p = 2
  · subst p2
    refine br_f p0 (br_f p1 (br_t rfl ?_))
    by_cases hx : ∃ b, b < E ∧ x = nI b
    · refine yv_E1 hE hx (br_f (by decide) ?_)
      exact yv_st (fun hy => br_f (by decide) (h1 (Or.inr (Or.inr (Or.inl ⟨rfl, hx, hy⟩))))) (fun hy => br_t rfl (h0 fun q => hy (st_2 q).2))
    · exact yv_E0 hE hx (br_t rfl (h0 fun q => hx (st_2 q).1))
  by_cases p3 : p = 3
  · subst p3
    refine br_f p0 (br_f p1 (br_f p2 (br_t rfl ?_)))
    by_cases hx : ∃ v, v < 6 ∧ x = nI v
    · refine yv_isV hx (br_f (by decide) ?_)
      by_cases hy : ∃ b, b < E ∧ y = nI b
      · refine yv_E1 hE hy (br_f (by decide) ?_)
        exact yv_st (fun hz => br_f (by decide) (h1 (Or.inr (Or.inr (Or.inr (Or.inl ⟨rfl, hx, hy, hz⟩)))))) (fun hz => br_t rfl (h0 fun q => hz (st_3 q).2.2))
      · exact yv_E0 hE hy (br_t rfl (h0 fun q => hy (st_3 q).2.1))
    · exact yv_V0 hx (br_t rfl (h0 fun q => hx (st_3 q).1))
  by_cases p4 : p = 4
  · subst p4
    refine br_f p0 (br_f p1 (br_f p2 (br_f p3 (br_t rfl ?_))))
    by_cases hx : ∃ b, b < E ∧ x = nI b
    · exact yv_E1 hE hx (br_f (by decide) (h1 (Or.inr (Or.inr (Or.inr (Or.inr ⟨rfl, hx⟩))))))
    · exact yv_E0 hE hx (br_t rfl (h0 fun q => hx (st_4 q)))
  have hn : ¬ tm_st E p x y z := fun q => by rcases st_n q with e | e | e | e | e <;> contradiction
  exact br_f p0 (br_f p1 (br_f p2 (br_f p3 (br_f p4 (h0 hn)))))
end
theorem i_vc_state {k : Nat} {u : SX} {v : SY} (I : i_Rel k u v) (hk : k + 5 ≤ 2560) (v1 : Int32) (v2 : Int32) (v3 : Int32) (v4 : Int32) : wpX_state (fun r u' => wpY_state (fun r' v' => r' = r ∧ i_Rel (k + 5) u' v') v v1 v2 v3 v4) u v1 v2 v3 v4 := by
  have hR := i_up I
  obtain ⟨E, N, oL, fC, oC, wt, cK, cO, cR, rg, oP, oX, oY, oZ, lS, lT, lL, iu, sz, ke, fd, ou, dp, tp, fl, lo, kd, ex, ey, vs, vn, zy, es, eu, tk, sn, wk, sg, so, nu, la, tu, lz, rfl, rfl, J⟩ := I
  obtain ⟨hE, hN, hVE, hVS, hiu, htk, U, H⟩ := J
  unfold wpX_state wpY_state
  by_cases h14 : N = 14
  · subst h14
    exact br_f (by decide) (br_t rfl ⟨rfl, hR⟩)
  · have hl : N < 14 := by omega
    have hc : (nI N).toNatClampNeg = N := nI_clamp (by omega)
    have hi : vp_in (nI N) 14 := vp_in_nI hl (by decide)
    have h2 : ¬ nI N = 14 := fun q => h14 ((nI_eq (b := 14) (by omega) (by decide)).mp q)
    refine br_t (nI_lt (b := 14) hl (by decide)) ?_
    refine xn_isSt hE (fun hs => br_f (by decide) ?_) (fun hs => br_t rfl ?_)
    · refine ⟨hi, nm_r (by rw [hc]) ⟨hi, nm_r (by rw [hc]) ⟨hi, nm_r (by rw [hc]) ⟨hi, nm_r (by rw [hc]) (nm_r (nI_1 N) ?_)⟩⟩⟩⟩
      refine br_f h2 ?_
      refine yn_fits hE (fun _ => br_f (by decide) ?_) (fun q => absurd hs q)
      refine ⟨hi, nm_r (by rw [hc]) ⟨hi, nm_r (by rw [hc]) ⟨hi, nm_r (by rw [hc]) ⟨hi, nm_r (by rw [hc]) (nm_r (nI_1 N) ⟨rfl, ?_⟩)⟩⟩⟩⟩
      refine ⟨E, N + 1, oL, fC, oC, wt, cK, cO, cR, rg, upd oP N v1, upd oX N v2, upd oY N v3, upd oZ N v4, lS, lT, lL, iu, sz, ke, fd, ou, dp, tp, fl, lo, kd, ex, ey, vs, vn, zy, es, eu, tk, sn, wk, sg, so, nu, la, tu, lz, rfl, rfl, hE, by omega, hVE, fun s h => ?_, hiu, htk, U, H⟩
      by_cases e : s = N
      · subst e
        rw [pk_us, pk_us, pk_us, pk_us]; exact hs
      · rw [pk_un e, pk_un e, pk_un e, pk_un e]
        exact hVS s (by omega)
    · refine br_f h2 ?_
      exact yn_fits hE (fun q => absurd q hs) (fun _ => br_t rfl ⟨rfl, hR⟩)
