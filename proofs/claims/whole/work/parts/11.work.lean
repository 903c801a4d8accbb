/-! every expression: by induction over its tree -/
theorem tm_new {U sz zy vs vn es eu : Nat → Int32} {p : Nat} (H : tm_HO U sz zy vs vn es eu) (hp : p < 20) (h0 : U p = 0) : tm_HO (upd U p 1) (upd sz p 0) (upd zy p 0) vs vn es eu := by
  have mo : ∀ t, ¬ U t = 0 → ¬ upd U p 1 t = 0 := fun t h => yk_mo h
  refine ⟨fun t h => ?_, fun t i m h hz hm hi => ?_, fun v hv => cv_okm (H.2.2 v hv) mo⟩
  · by_cases e : t = p
    · subst e
      rw [pk_us, pk_us]
      exact ⟨hp, rfl, 0, by omega, rfl⟩
    · rw [pk_un e] at h
      rw [pk_un e, pk_un e]
      exact H.1 t h
  · by_cases e : t = p
    · subst e
      rw [pk_us] at hz
      have := (nI_eq (a := 0) (by decide) (by omega)).mp hz
      omega
    · rw [pk_un e] at h hz
      exact cv_okm (H.2.1 t i m h hz hm hi) mo
theorem ev_M0 {vs vn es eu g z1 z2 : Nat → Int32} {w : Nat} (H : tm_HO g z1 z2 vs vn es eu) (hg : ∀ t, 20 ≤ t → g t = 0) : ev_M vs vn es eu g z1 z2 g z1 z2 w :=
  ⟨H, hg, fun t h => ⟨h, rfl, rfl⟩, by omega⟩
theorem ev_Mw {vs vn es eu g z1 z2 g' z1' z2' : Nat → Int32} {w w' : Nat} (M : ev_M vs vn es eu g z1 z2 g' z1' z2' w) (h : w ≤ w') : ev_M vs vn es eu g z1 z2 g' z1' z2' w' :=
  ⟨M.1, M.2.1, M.2.2.1, by have := M.2.2.2; omega⟩
theorem ev_Mt {vs vn es eu g z1 z2 g1 z11 z21 g2 z12 z22 : Nat → Int32} {w wx wy : Nat} (M : ev_M vs vn es eu g z1 z2 g1 z11 z21 wx) (M2 : ev_M vs vn es eu g1 z11 z21 g2 z12 z22 wy) (h : wx + wy + 1 ≤ w) : ev_M vs vn es eu g z1 z2 g2 z12 z22 w := by
  refine ⟨M2.1, M2.2.1, fun t ht => ?_, by have := M.2.2.2; have := M2.2.2.2; omega⟩
  obtain ⟨a, b, c⟩ := M.2.2.1 t ht
  obtain ⟨a', b', c'⟩ := M2.2.2.1 t a
  exact ⟨a', b'.trans b, c'.trans c⟩
section
variable {eN sN oL fC oC : Int32} {wt cK cO cR : Nat → Int32} {rg : Nat → Int64} {oP oX oY oZ lS lT lL : Nat → Int32} {va : Nat → Int64} {iu sz ke : Nat → Int32} {en : Nat → Int64} {fd : Nat → Int32} {ou : Nat → Int64} {yE yN yC dp tp fl lo : Int32} {kd ex ey yW yP yX yY yZ vs vn zy yK es eu tk sn : Nat → Int32} {yO : Nat → Int64} {wk sg so nu la tu lz : Nat → Int32}
theorem ev_all {E : Nat} (hE : E ≤ 30) : ∀ f w e a r : Nat, tm_T E kd ex ey wt cK cO cR f w e a r → ∀ g z1 z2 : Nat → Int32, tm_HO g z1 z2 vs vn es eu → (∀ t, 20 ≤ t → g t = 0) → 2 * cn_c g 20 + w + 1 ≤ 40 → 2 * r + w ≤ 7 → ∀ d t : Nat, d + w ≤ 8 → 2 * t + w ≤ 15 →
    ∃ (o : Option (Int32 × Int32)) (g' z1' z2' : Nat → Int32), ev_M vs vn es eu g z1 z2 g' z1' z2' w ∧ (∀ v, o = some v → cv_ok g' v.1 v.2) ∧ ev_X eN sN oL fC oC wt cK cO cR oP oX oY oZ lS lT lL (cv_f vs vn) ke (cv_f es eu) fd ou o a w r g z1 g' z1' ∧ ev_Y yE yN yC lo kd ex ey yW yP yX yY yZ vs vn ke es eu sn yO la tu lz o e w d t z2 g z2' g' := by
  intro f
  induction f with
  | zero => intro w e a r h; exact absurd h id
  | succ f ih =>
    intro w e a r T g z1 z2 H hg hcn hr d t hd ht
    obtain ⟨he, hwt, h⟩ := T
    have he30 : e < 30 := by omega
    have ve : vp_in (nI e) 30 := vp_in_nI he30 (by decide)
    have ce : (nI e).toNatClampNeg = e := nI_clamp (by omega)
    rcases h with ⟨rfl, hO, hR, hK, hk⟩ | ⟨x, wx, hk, hx, rfl, Tx, hK, hR⟩ | ⟨x, y, wx, wy, hk, hx, hy, rfl, Tx, hK, hO, hR, Ty⟩ | ⟨x, y, wx, wy, hk, hx, hy, rfl, Tx, Ty, hK, hR⟩
    · rcases hk with hk | ⟨hk, v, hv, hxv⟩ | hk
      · refine ⟨some (1, ex e), g, z1, z2, ev_M0 H hg, fun v hv => (by cases hv; exact Or.inr (Or.inl rfl)), eX_leaf (by omega) hK (Or.inl hk) hO hR (Or.inr (Or.inl rfl)) (fun rg P hP => ?_), eY_leaf (by omega) he30 (Or.inl hk) (fun wk sg so nu P hP => ?_)⟩
        · unfold wpX_fetch
          exact br_t hk (xv_val hP)
        · unfold wpY_leaf
          refine ⟨ve, br_t (by rw [ce]; exact hk) ⟨ve, ?_⟩⟩
          rw [ce]
          exact ys_give (by omega) (nm_r (nI_pred d) hP)
      · have ok := H.2.2 v hv
        have nk : ¬ kd e = 0 := by rw [hk]; decide
        have v6 : vp_in (ex e) 6 := by rw [hxv]; exact vp_in_nI hv (by decide)
        have cv : (ex e).toNatClampNeg = v := by rw [hxv]; exact nI_clamp (by omega)
        refine ⟨some (vs v, vn v), g, z1, z2, ev_M0 H hg, fun u hu => (by cases hu; exact ok), eX_leaf (by omega) hK (Or.inr (Or.inl hk)) hO hR (cv_ok_s ok) (fun rg P hP => ?_), eY_leaf (by omega) he30 (Or.inr (Or.inl hk)) (fun wk sg so nu P hP => ?_)⟩
        · unfold wpX_fetch
          refine br_f nk (br_t hk ⟨v6, ?_⟩)
          rw [cv]; exact hP
        · unfold wpY_leaf
          refine ⟨ve, br_f (by rw [ce]; exact nk) ⟨ve, br_t (by rw [ce]; exact hk) ⟨ve, ?_⟩⟩⟩
          rw [ce, cv]
          exact ⟨v6, ve, v6, ys_give (by omega) (nm_r (nI_pred d) hP)⟩
      · have nk : ¬ kd e = 0 := by rw [hk]; decide
        have nk1 : ¬ kd e = 1 := by rw [hk]; decide
        obtain ⟨p, hp, h0, hl⟩ := cn_free 20 (U := g) (by omega)
        refine ⟨some (2, nI p), upd g p 1, upd z1 p 0, upd z2 p 0, ⟨tm_new H hp h0, fun t ht => by rw [pk_un (by omega)]; exact hg t ht, fun t ht => ?_, ?_⟩, fun u hu => ?_, eX_leaf (by omega) hK (Or.inr (Or.inr hk)) hO hR (Or.inr (Or.inr rfl)) (fun rg P hP => ?_), eY_leaf (by omega) he30 (Or.inr (Or.inr hk)) (fun wk sg so nu P hP => ?_)⟩
        · have e : t ≠ p := fun e => by subst e; exact ht h0
          exact ⟨yk_mo ht, pk_un e, pk_un e⟩
        · rw [cn_upd h0 (by decide) 20 hp]; omega
        · cases hu
          exact Or.inr (Or.inr ⟨rfl, p, hp, rfl, by rw [pk_us]; decide⟩)
        · unfold wpX_fetch
          exact br_f nk (br_f nk1 (xs_new hp h0 hl hP))
        · unfold wpY_leaf
          refine ⟨ve, br_f (by rw [ce]; exact nk) ⟨ve, br_f (by rw [ce]; exact nk1) ?_⟩⟩
          exact ys_new hp h0 hl (ys_give (by omega) (nm_r (nI_pred d) hP))
    · obtain ⟨o1, g1, z11, z21, M1, ok1, X1, Y1⟩ := ih wx x a r Tx g z1 z2 H hg (by omega) (by omega) (d + 1) t (by omega) (by omega)
      have hwx := (tm_pos Tx).2.2
      cases o1 with
      | none => exact ⟨none, g1, z11, z21, ev_Mw M1 (by omega), fun v hv => (by cases hv), eX_none (by omega) X1, eY_none (by omega) (by omega) he30 (Or.inl hk) hx Y1⟩
      | some v =>
        obtain ⟨o, ok, fX, fY⟩ := lk_one (e := e) (d := d) (t := t) (kd := kd) M1.1 he30 (by omega) hk (ok1 v rfl)
        refine ⟨o, g1, z11, z21, ev_Mw M1 (by omega), ok, eX_one X1 (by omega) hK hk hR (fun u hu => cv_ok_s (ok u hu)) (fun rg P hP => fX P hP), eY_one (by omega) he30 hk hx Y1 (fun wk sg so nu hs hn => ?_)⟩
        cases o with
        | none => exact fun post hp => fY hs hn post hp
        | some u => exact fun post hp => fY hs hn post hp
    · obtain ⟨o1, g1, z11, z21, M1, ok1, X1, Y1⟩ := ih wx x a r Tx g z1 z2 H hg (by omega) (by omega) (d + 1) t (by omega) (by omega)
      have hwx := (tm_pos Tx).2.2
      have hwy := (tm_pos Ty).2.2
      have hkk : kd e = 7 ∨ kd e = 8 ∨ tm_k2 (kd e) := by rcases hk with h | h; exact Or.inl h; exact Or.inr (Or.inl h)
      cases o1 with
      | none => exact ⟨none, g1, z11, z21, ev_Mw M1 (by omega), fun v hv => (by cases hv), eX_none (by omega) X1, eY_none (by omega) (by omega) he30 (Or.inr hkk) hx Y1⟩
      | some v =>
        have okv := ok1 v rfl
        by_cases hc : (kd e = 7 ∧ v.1 = 0) ∨ (kd e = 8 ∧ ¬ v.1 = 0)
        · exact ⟨some v, g1, z11, z21, ev_Mw M1 (by omega), ok1, eX_keep X1 (by omega) hK hO hR (cv_ok_s okv) hc, eY_keep (by omega) he30 (by omega) hx hc Y1⟩
        · have hc2 : (kd e = 7 ∧ ¬ v.1 = 0) ∨ (kd e = 8 ∧ v.1 = 0) := by
            rcases hk with h | h
            · exact Or.inl ⟨h, fun z => hc (Or.inl ⟨h, z⟩)⟩
            · refine Or.inr ⟨h, ?_⟩
              by_cases z : v.1 = 0
              · exact z
              · exact absurd (Or.inr ⟨h, z⟩) hc
          have hM1 := M1.2.2.2
          obtain ⟨o2, g2, z12, z22, M2, ok2, X2, Y2⟩ := ih wy y (a + wx + 1) r Ty g1 z11 z21 M1.1 M1.2.1 (by omega) (by omega) (d + 1) t (by omega) (by omega)
          exact ⟨o2, g2, z12, z22, ev_Mt M1 M2 (by omega), ok2, eX_go X1 X2 (by omega) hK hR (cv_ok_s okv) hc2, eY_go (by omega) he30 (by omega) hx hy hc2 Y1 Y2⟩
    · obtain ⟨o1, g1, z11, z21, M1, ok1, X1, Y1⟩ := ih wx x a r Tx g z1 z2 H hg (by omega) (by omega) (d + 1) t (by omega) (by omega)
      have hwx := (tm_pos Tx).2.2
      have hwy := (tm_pos Ty).2.2
      cases o1 with
      | none => exact ⟨none, g1, z11, z21, ev_Mw M1 (by omega), fun v hv => (by cases hv), eX_none (by omega) X1, eY_none (by omega) (by omega) he30 (Or.inr (Or.inr (Or.inr hk))) hx Y1⟩
      | some v =>
        have okv := ok1 v rfl
        have hM1 := M1.2.2.2
        obtain ⟨o2, g2, z12, z22, M2, ok2, X2, Y2⟩ := ih wy y (a + wx) (r + 1) Ty g1 z11 z21 M1.1 M1.2.1 (by omega) (by omega) (d + 1) (t + 1) (by omega) (by omega)
        cases o2 with
        | none => exact ⟨none, g2, z12, z22, ev_Mt M1 M2 (by omega), fun v hv => (by cases hv), eX_two_n (by omega) X1 X2, eY_two_n (by omega) (by omega) he30 hk hx hy Y1 Y2⟩
        | some v2 =>
          have okv' := cv_okm okv (fun t h => (M2.2.2.1 t h).1)
          obtain ⟨o, ok, fX, fY⟩ := lk_two (e := e) (d := d) (t := t) (kd := kd) (ke := ke) M2.1 he30 (by omega) hk okv' (ok2 v2 rfl)
          refine ⟨o, g2, z12, z22, ev_Mt M1 M2 (by omega), ok, eX_two X1 X2 (by omega) hK hk hR (fun u hu => cv_ok_s (ok u hu)) (fun rg P hP => fX P hP), eY_two (by omega) he30 hk hx hy Y1 Y2 (fun wk sg so nu hs hn hs2 hn2 => ?_)⟩
          cases o with
          | none => exact fun post hp => fY hs hn hs2 hn2 post hp
          | some u => exact fun post hp => fY hs hn hs2 hn2 post hp
/-- an expression worked out by X -/
theorem xw_work {o : Option (Int32 × Int32)} {e w : Nat} {g z1 g' z1' : Nat → Int32} (he : e < 30) (hw : wt e = nI w) (hw7 : w ≤ 7) (h : ev_X eN sN oL fC oC wt cK cO cR oP oX oY oZ lS lT lL va ke en fd ou o (7 * e) w 0 g z1 g' z1') : ∃ rg' : Nat → Int64, ∀ post : Int64 → SX → Prop, post (ev_o o) (eN, sN, oL, fC, oC, wt, cK, cO, cR, rg', oP, oX, oY, oZ, lS, lT, lL, va, g', z1', ke, en, fd, ou) → wpX_workOut post (eN, sN, oL, fC, oC, wt, cK, cO, cR, rg, oP, oX, oY, oZ, lS, lT, lL, va, g, z1, ke, en, fd, ou) (nI e) := by
  obtain ⟨c, rg', c1, c2, _, h⟩ := h rg
  refine ⟨rg', fun post hp => ?_⟩
  unfold wpX_workOut
  have e1 : nI e * 7 = nI (7 * e) := by rw [Nat.mul_comm]; exact pk_mul e 7
  have e2 : nI (7 * e) + wt (nI e).toNatClampNeg = nI (7 * e + w) := by rw [nI_clamp (by omega), hw, nI_add]
  refine nm_r e1 ⟨vp_in_nI he (by decide), nm_r e2 ⟨1 + c, ?_⟩⟩
  cases o with
  | none => exact h post (7 * e + w) 1 0 (by omega) (by omega) (by omega) hp
  | some v =>
    have hp' : post (rg' 0) (eN, sN, oL, fC, oC, wt, cK, cO, cR, rg', oP, oX, oY, oZ, lS, lT, lL, va, g', z1', ke, en, fd, ou) := by rw [h.1]; exact hp
    exact h.2 post (7 * e + w) 1 0 (by omega) (by omega) (by omega) (br_c (fun _ => hp') (fun _ => br_t (nI_le (Nat.le_refl _) (by omega)) hp'))
/-- and by Y -/
theorem yw_some {v : Int32 × Int32} {e w t : Nat} {z2 g z2' g' : Nat → Int32} (hw7 : w ≤ 7) (h : ev_Y yE yN yC lo kd ex ey yW yP yX yY yZ vs vn yK es eu sn yO la tu lz (some v) e w 0 t z2 g z2' g') : ∃ wk' sg' so' nu' : Nat → Int32, (∀ j, j < t → so' j = so j ∧ nu' j = nu j) ∧ so' t = v.1 ∧ nu' t = v.2 ∧ ∀ post : SY → Prop, post (yE, yN, yC, nI 0, nI (t + 1), 0, lo, kd, ex, ey, yW, yP, yX, yY, yZ, vs, vn, z2', yK, es, eu, g', sn, yO, wk', sg', so', nu', la, tu, lz) → wpY_work post (yE, yN, yC, dp, nI t, 0, lo, kd, ex, ey, yW, yP, yX, yY, yZ, vs, vn, z2, yK, es, eu, g, sn, yO, wk, sg, so, nu, la, tu, lz) (nI e) := by
  obtain ⟨c, wk', sg', so', nu', c1, c2, _, hst, hs, hn, h⟩ := h (upd wk 0 (nI e)) (upd sg 0 0) so nu pk_us pk_us
  refine ⟨wk', sg', so', nu', hst, hs, hn, fun post hp => ?_⟩
  unfold wpY_work
  refine ys_begin (d := 0) (by decide) ⟨1 + c, ?_⟩
  exact h post 1 0 (by omega) (br_c (fun _ => hp) (fun _ => br_t (by decide) hp))
theorem yw_none {e w t : Nat} {z2 g z2' g' : Nat → Int32} (hw7 : w ≤ 7) (h : ev_Y yE yN yC lo kd ex ey yW yP yX yY yZ vs vn yK es eu sn yO la tu lz none e w 0 t z2 g z2' g') : ∃ (dp' tp' : Int32) (wk' sg' so' nu' : Nat → Int32), ∀ post : SY → Prop, post (yE, yN, yC, dp', tp', 1, lo, kd, ex, ey, yW, yP, yX, yY, yZ, vs, vn, z2', yK, es, eu, g', sn, yO, wk', sg', so', nu', la, tu, lz) → wpY_work post (yE, yN, yC, dp, nI t, 0, lo, kd, ex, ey, yW, yP, yX, yY, yZ, vs, vn, z2, yK, es, eu, g, sn, yO, wk, sg, so, nu, la, tu, lz) (nI e) := by
  obtain ⟨c, wk', sg', so', nu', c1, c2, _, hst, dp', tp', h⟩ := h (upd wk 0 (nI e)) (upd sg 0 0) so nu pk_us pk_us
  refine ⟨dp', tp', wk', sg', so', nu', fun post hp => ?_⟩
  unfold wpY_work
  refine ys_begin (d := 0) (by decide) ⟨0 + c + 1, ?_⟩
  exact h post 0 0 (by omega) hp
end
