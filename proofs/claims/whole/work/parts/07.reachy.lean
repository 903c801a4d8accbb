/-! reach of the reference -/
def yk_I (zy vs vn es eu sn : Nat → Int32) : Prop :=
  (∀ t, t < 24 → sn t = 0 ∨ sn t = 1) ∧ (∀ S : Nat → Prop, ck_R vs vn S → ck_C zy es eu S → ∀ t, t < 24 → ¬ sn t = 0 → S t)
theorem yk_put {zy vs vn es eu sn : Nat → Int32} {p : Nat} (Y : yk_I zy vs vn es eu sn) (hm : ∀ S : Nat → Prop, ck_R vs vn S → ck_C zy es eu S → S p) : yk_I zy vs vn es eu (upd sn p 1) := by
  refine ⟨fun t ht => ?_, fun S a b t ht h => ?_⟩
  · by_cases e : t = p
    · subst e; exact Or.inr pk_us
    · rw [pk_un e]; exact Y.1 t ht
  · by_cases e : t = p
    · subst e; exact hm S a b
    · rw [pk_un e] at h; exact Y.2 S a b t ht h
theorem yk_mo {sn : Nat → Int32} {p t : Nat} (h : ¬ sn t = 0) : ¬ upd sn p 1 t = 0 := by
  by_cases e : t = p
  · subst e; rw [pk_us]; decide
  · rw [pk_un e]; exact h
section
variable {yE yN yC dp tp fl lo : Int32} {kd ex ey yW yP yX yY yZ vs vn zy yK es eu tk sn : Nat → Int32} {yO : Nat → Int64} {wk sg so nu la tu lz : Nat → Int32}
theorem yk_cnt {post : Int32 → SY → Prop} (hp : post (nI (cn_c sn 24)) (yE, yN, yC, dp, tp, fl, lo, kd, ex, ey, yW, yP, yX, yY, yZ, vs, vn, zy, yK, es, eu, tk, sn, yO, wk, sg, so, nu, la, tu, lz)) : ∀ d i : Nat, i + d = 24 → wY_reach_140 post yE yN yC dp tp fl lo kd ex ey yW yP yX yY yZ vs vn zy yK es eu tk sn yO wk sg so nu la tu lz (d + 1) (nI (cn_c sn i)) (nI i) := by
  intro d
  induction d with
  | zero =>
    intro i hi
    obtain rfl : i = 24 := by omega
    exact br_t (by decide) hp
  | succ d ih =>
    intro i hi
    have h := ih (i + 1) (by omega)
    have hl := cn_le sn i
    refine br_f (nI_ge (b := 24) (by omega) (by decide)) ⟨vp_in_nI (by omega) (by decide), ?_⟩
    rw [nI_clamp (n := i) (by omega)]
    by_cases q : sn i = 0
    · have e : cn_c sn (i + 1) = cn_c sn i := by show cn_c sn i + (if sn i = 0 then 0 else 1) = _; rw [if_pos q]; rfl
      rw [e] at h
      exact br_t q (nm_r (nI_1 i) h)
    · have e : cn_c sn (i + 1) = cn_c sn i + 1 := by show cn_c sn i + (if sn i = 0 then 0 else 1) = _; rw [if_neg q]
      rw [e] at h
      exact br_f q (nm_r (nI_1 _) (nm_r (nI_1 i) h))
/-- one round over all entries -/
theorem yk_in {U sz s0 : Nat → Int32} {r : Nat} (H : tm_HO U sz zy vs vn es eu) :
    ∀ d k : Nat, k + d = 144 → ∀ sn : Nat → Int32, yk_I zy vs vn es eu sn → (∀ t, t < 24 → ¬ s0 t = 0 → ¬ sn t = 0) →
      ((∃ t, t < 24 ∧ ¬ sn t = 0 ∧ s0 t = 0) ∨ ((∀ t, t < 24 → ¬ sn t = 0 → ¬ s0 t = 0) ∧ ∀ t i, t < 20 → i < 6 → 6 * t + i < k → ¬ s0 t = 0 → nI i < zy t → es (6 * t + i) = 2 → ¬ s0 (eu (6 * t + i)).toNatClampNeg = 0)) →
      ∃ sn' : Nat → Int32, yk_I zy vs vn es eu sn' ∧ (∀ t, t < 24 → ¬ s0 t = 0 → ¬ sn' t = 0) ∧ ((∃ t, t < 24 ∧ ¬ sn' t = 0 ∧ s0 t = 0) ∨ ((∀ t, t < 24 → ¬ sn' t = 0 → ¬ s0 t = 0) ∧ ck_C zy es eu (fun t => ¬ s0 t = 0))) ∧
      ∀ (post : Int32 → SY → Prop) (J : Int32 → (Nat → Int32) → (Nat → Int32) → (Nat → Int32) → (Nat → Int32) → (Nat → Int32) → (Nat → Int32) → (Nat → Int32) → (Nat → Int32) → (Nat → Int32) → (Nat → Int32) → (Nat → Int32) → (Nat → Int32) → (Nat → Int32) → (Nat → Int32) → (Nat → Int32) → (Nat → Int32) → (Nat → Int64) → (Nat → Int32) → (Nat → Int32) → (Nat → Int32) → (Nat → Int32) → (Nat → Int32) → (Nat → Int32) → (Nat → Int32) → Prop), J (nI (r + 1)) kd ex ey yW yP yX yY yZ vs vn zy yK es eu tk sn' yO wk sg so nu la tu lz →
      wY_reach_67 post J (nI r) yE yN yC dp tp fl lo (d + 1) (nI k) kd ex ey yW yP yX yY yZ vs vn zy yK es eu tk sn yO wk sg so nu la tu lz := by
  intro d
  induction d with
  | zero =>
    intro k hk sn Y mo hd
    obtain rfl : k = 144 := by omega
    refine ⟨sn, Y, mo, ?_, fun post J hJ => br_t (by decide) (nm_r (nI_1 r) hJ)⟩
    rcases hd with h | h
    · exact Or.inl h
    · exact Or.inr ⟨h.1, fun t i ht hu hi hz e => h.2 t i ht hi (by omega) hu hz e⟩
  | succ d ih =>
    intro k hk sn Y mo hd
    have d1 : nI k / 6 = nI (k / 6) := pk_div (d := 6) (by omega) (by decide) (by decide)
    have d2 : nI k - nI k / 6 * 6 = nI (k % 6) := pk_rem (d := 6) (by omega) (by decide) (by decide)
    have hk6 : 6 * (k / 6) + k % 6 = k := Nat.div_add_mod k 6
    have hm6 : k % 6 < 6 := Nat.mod_lt _ (by decide)
    have n6 : ¬ (6 : Int32) = 0 := by decide
    have i1 : vp_in (nI k / 6) 24 := by rw [d1]; exact vp_in_nI (by omega) (by decide)
    have c1 : (nI k / 6).toNatClampNeg = k / 6 := by rw [d1]; exact nI_clamp (by omega)
    have ik : vp_in (nI k) 144 := vp_in_nI (by omega) (by decide)
    have ck : (nI k).toNatClampNeg = k := nI_clamp (by omega)
    have n144 : ¬ (144 : Int32) ≤ nI k := nI_ge (b := 144) (by omega) (by decide)
    by_cases qq : ¬ sn (k / 6) = 0 ∧ nI (k % 6) < zy (k / 6) ∧ es k = 2
    · obtain ⟨q1, hl, q3⟩ := qq
      have hU : ¬ U (k / 6) = 0 := Y.2 _ (ck_U H).1 (ck_U H).2.2 (k / 6) (by omega) q1
      obtain ⟨t20, hy, m, hm, hz⟩ := H.1 (k / 6) hU
      have hl2 := hl
      rw [hy, hz, nI_ltI (by omega) (by omega)] at hl2
      have ok := H.2.1 (k / 6) (k % 6) m hU hz hm hl2
      rw [hk6] at ok
      obtain ⟨p, hp, he⟩ := xk_cok ok q3
      have cp : (eu k).toNatClampNeg = p := by rw [he]; exact nI_clamp (by omega)
      have hSp : ∀ S : Nat → Prop, ck_R vs vn S → ck_C zy es eu S → S p := by
        intro S a b
        have := b (k / 6) (k % 6) t20 (Y.2 S a b (k / 6) (by omega) q1) hm6 hl (by rw [hk6]; exact q3)
        rw [hk6, cp] at this; exact this
      obtain ⟨sn', Y', mo', hd', hw⟩ := ih (k + 1) (by omega) (upd sn p 1) (yk_put Y hSp) (fun t ht h => yk_mo (mo t ht h)) (by
        rcases hd with ⟨t, a, b, c⟩ | h
        · exact Or.inl ⟨t, a, yk_mo b, c⟩
        · by_cases q4 : s0 p = 0
          · exact Or.inl ⟨p, by omega, by rw [pk_us]; decide, q4⟩
          · refine Or.inr ⟨fun t ht hu => ?_, fun t i ht hi hlt hu hz' e => ?_⟩
            · by_cases e2 : t = p
              · subst e2; exact q4
              · rw [pk_un e2] at hu; exact h.1 t ht hu
            · by_cases e2 : 6 * t + i = k
              · rw [e2, cp]; exact q4
              · exact h.2 t i ht hi (by omega) hu hz' e)
      refine ⟨sn', Y', mo', hd', fun post J hJ => ?_⟩
      refine br_f n144 ⟨n6, i1, ?_⟩
      rw [c1, d2]
      refine br_f q1 ⟨n6, n6, i1, br_f (Int32.not_le.mpr hl) ⟨ik, ?_⟩⟩
      rw [ck]
      exact br_t q3 ⟨ik, by rw [he]; exact vp_in_nI (by omega) (by decide), nm_r (by rw [cp, cv_b1]) (nm_r (nI_1 k) (hw post J hJ))⟩
    · obtain ⟨sn', Y', mo', hd', hw⟩ := ih (k + 1) (by omega) sn Y mo (by
        rcases hd with h | h
        · exact Or.inl h
        · refine Or.inr ⟨h.1, fun t i ht hi hl hu hz e => ?_⟩
          by_cases e2 : 6 * t + i = k
          · exfalso
            have et : k / 6 = t := by omega
            have ei : k % 6 = i := by omega
            rw [et, ei] at qq
            exact qq ⟨mo t (by omega) hu, hz, by rw [← e2]; exact e⟩
          · exact h.2 t i ht hi (by omega) hu hz e)
      refine ⟨sn', Y', mo', hd', fun post J hJ => ?_⟩
      have hn := hw post J hJ
      refine br_f n144 ⟨n6, i1, ?_⟩
      rw [c1, d2]
      by_cases q1 : sn (k / 6) = 0
      · exact br_t q1 (nm_r (nI_1 k) hn)
      refine br_f q1 ⟨n6, n6, i1, ?_⟩
      by_cases q2 : zy (k / 6) ≤ nI (k % 6)
      · exact br_t q2 (nm_r (nI_1 k) hn)
      refine br_f q2 ⟨ik, ?_⟩
      rw [ck]
      exact br_f (fun q3 => qq ⟨q1, Int32.not_le.mp q2, q3⟩) (nm_r (nI_1 k) hn)
theorem yk_rounds {U sz : Nat → Int32} (H : tm_HO U sz zy vs vn es eu) :
    ∀ d r : Nat, r + d = 24 → ∀ sn : Nat → Int32, yk_I zy vs vn es eu sn → ck_R vs vn (fun t => ¬ sn t = 0) → (ck_C zy es eu (fun t => ¬ sn t = 0) ∨ r ≤ cn_c sn 24) →
      ∃ sn' : Nat → Int32, yk_I zy vs vn es eu sn' ∧ ck_R vs vn (fun t => ¬ sn' t = 0) ∧ ck_C zy es eu (fun t => ¬ sn' t = 0) ∧ ∀ post : Int32 → SY → Prop, post (nI (cn_c sn' 24)) (yE, yN, yC, dp, tp, fl, lo, kd, ex, ey, yW, yP, yX, yY, yZ, vs, vn, zy, yK, es, eu, tk, sn', yO, wk, sg, so, nu, la, tu, lz) →
      wY_reach_59 post yE yN yC dp tp fl lo (d + 1) (nI r) kd ex ey yW yP yX yY yZ vs vn zy yK es eu tk sn yO wk sg so nu la tu lz := by
  intro d
  induction d with
  | zero =>
    intro r hr sn Y hR hc
    obtain rfl : r = 24 := by omega
    have hC : ck_C zy es eu (fun t => ¬ sn t = 0) := by
      rcases hc with h | h
      · exact h
      · exfalso
        have h23 : sn 23 = 0 := by
          by_cases q : sn 23 = 0
          · exact q
          · have := (H.1 23 (Y.2 _ (ck_U H).1 (ck_U H).2.2 23 (by decide) q)).1
            omega
        have e : cn_c sn 24 = cn_c sn 23 := by show cn_c sn 23 + (if sn 23 = 0 then 0 else 1) = _; rw [if_pos h23]; rfl
        have := cn_le sn 23
        omega
    exact ⟨sn, Y, hR, hC, fun post hp => br_t (by decide) ⟨_, yk_cnt hp 24 0 (by decide)⟩⟩
  | succ d ih =>
    intro r hr sn Y hR hc
    obtain ⟨sn', Y', mo, hd, hw⟩ := yk_in (yE := yE) (yN := yN) (yC := yC) (dp := dp) (tp := tp) (fl := fl) (lo := lo) (kd := kd) (ex := ex) (ey := ey) (yW := yW) (yP := yP) (yX := yX) (yY := yY) (yZ := yZ) (yK := yK) (tk := tk) (yO := yO) (wk := wk) (sg := sg) (so := so) (nu := nu) (la := la) (tu := tu) (lz := lz) (s0 := sn) (r := r) H 144 0 (by decide) sn Y (fun t _ h => h) (Or.inr ⟨fun t _ h => h, fun t i _ _ h => absurd h (by omega)⟩)
    obtain ⟨sn2, Y2, R2, C2, hw2⟩ := ih (r + 1) (by omega) sn' Y' (fun v hv e => by
      obtain ⟨p, hp, he⟩ := xk_cok (H.2.2 v hv) e
      have := hR v hv e
      rw [he, nI_clamp (by omega)] at this ⊢
      exact mo p (by omega) this) (by
      rcases hd with ⟨t, ht, h1, h2⟩ | ⟨h1, h2⟩
      · right
        have h3 := cn_lt mo ht h2 h1
        rcases hc with h | h
        · exact absurd h2 (Y'.2 _ hR h t ht h1)
        · omega
      · left
        intro t i ht hu hi hz e
        have hs := h2 t i ht (h1 t (by omega) hu) hi hz e
        have hU : ¬ U t = 0 := Y'.2 _ (ck_U H).1 (ck_U H).2.2 t (by omega) hu
        obtain ⟨t20, hy, m, hm, hz2⟩ := H.1 t hU
        rw [hy, hz2, nI_ltI (by omega) (by omega)] at hz
        obtain ⟨p, hp, he⟩ := xk_cok (H.2.1 t i m hU hz2 hm hz) e
        rw [he, nI_clamp (by omega)] at hs ⊢
        exact mo p (by omega) hs)
    exact ⟨sn2, Y2, R2, C2, fun post hp => br_f (nI_ge (b := 24) (by omega) (by decide)) ⟨_, hw post _ (hw2 post hp)⟩⟩
theorem yk_roots {U sz : Nat → Int32} (H : tm_HO U sz zy vs vn es eu) :
    ∀ d i : Nat, i + d = 6 → ∀ sn : Nat → Int32, yk_I zy vs vn es eu sn → (∀ v, v < i → vs v = 2 → ¬ sn (vn v).toNatClampNeg = 0) →
      ∃ sn' : Nat → Int32, yk_I zy vs vn es eu sn' ∧ ck_R vs vn (fun t => ¬ sn' t = 0) ∧ ck_C zy es eu (fun t => ¬ sn' t = 0) ∧ ∀ post : Int32 → SY → Prop, post (nI (cn_c sn' 24)) (yE, yN, yC, dp, tp, fl, lo, kd, ex, ey, yW, yP, yX, yY, yZ, vs, vn, zy, yK, es, eu, tk, sn', yO, wk, sg, so, nu, la, tu, lz) →
      wY_reach_23 post yE yN yC dp tp fl lo (d + 1) (nI i) kd ex ey yW yP yX yY yZ vs vn zy yK es eu tk sn yO wk sg so nu la tu lz := by
  intro d
  induction d with
  | zero =>
    intro i hi sn Y hd
    obtain rfl : i = 6 := by omega
    obtain ⟨sn2, Y2, R2, C2, hw2⟩ := yk_rounds (yE := yE) (yN := yN) (yC := yC) (dp := dp) (tp := tp) (fl := fl) (lo := lo) (kd := kd) (ex := ex) (ey := ey) (yW := yW) (yP := yP) (yX := yX) (yY := yY) (yZ := yZ) (yK := yK) (tk := tk) (yO := yO) (wk := wk) (sg := sg) (so := so) (nu := nu) (la := la) (tu := tu) (lz := lz) H 24 0 (by decide) sn Y (fun v hv e => hd v hv e) (Or.inr (Nat.zero_le _))
    exact ⟨sn2, Y2, R2, C2, fun post hp => br_t (by decide) ⟨_, hw2 post hp⟩⟩
  | succ d ih =>
    intro i hi sn Y hd
    have ok := H.2.2 i (by omega)
    have ii : vp_in (nI i) 6 := vp_in_nI (by omega) (by decide)
    by_cases q : vs i = 2
    · obtain ⟨p, hp, he⟩ := xk_cok ok q
      have cp : (vn i).toNatClampNeg = p := by rw [he]; exact nI_clamp (by omega)
      obtain ⟨sn2, Y2, R2, C2, hw2⟩ := ih (i + 1) (by omega) (upd sn p 1) (yk_put Y (fun S a b => by rw [← cp]; exact a i (by omega) q)) (fun v hv e => by
        by_cases e2 : v = i
        · subst e2; rw [cp, pk_us]; decide
        · exact yk_mo (hd v (by omega) e))
      refine ⟨sn2, Y2, R2, C2, fun post hpo => ?_⟩
      refine br_f (nI_ge (b := 6) (by omega) (by decide)) ⟨ii, ?_⟩
      rw [nI_clamp (by omega)]
      exact br_t q ⟨ii, by rw [he]; exact vp_in_nI (by omega) (by decide), nm_r (by rw [cp, cv_b1]) (nm_r (nI_1 i) (hw2 post hpo))⟩
    · obtain ⟨sn2, Y2, R2, C2, hw2⟩ := ih (i + 1) (by omega) sn Y (fun v hv e => by
        by_cases e2 : v = i
        · subst e2; exact absurd e q
        · exact hd v (by omega) e)
      refine ⟨sn2, Y2, R2, C2, fun post hpo => ?_⟩
      refine br_f (nI_ge (b := 6) (by omega) (by decide)) ⟨ii, ?_⟩
      rw [nI_clamp (by omega)]
      exact br_f q (nm_r (nI_1 i) (hw2 post hpo))
theorem yk_reach {U sz : Nat → Int32} (H : tm_HO U sz zy vs vn es eu) :
    ∃ sn' : Nat → Int32, yk_I zy vs vn es eu sn' ∧ ck_R vs vn (fun t => ¬ sn' t = 0) ∧ ck_C zy es eu (fun t => ¬ sn' t = 0) ∧ ∀ post : Int32 → SY → Prop, post (nI (cn_c sn' 24)) (yE, yN, yC, dp, tp, fl, lo, kd, ex, ey, yW, yP, yX, yY, yZ, vs, vn, zy, yK, es, eu, tk, sn', yO, wk, sg, so, nu, la, tu, lz) → wpY_reach post (yE, yN, yC, dp, tp, fl, lo, kd, ex, ey, yW, yP, yX, yY, yZ, vs, vn, zy, yK, es, eu, tk, sn, yO, wk, sg, so, nu, la, tu, lz) := by
  have g : ∀ d i : Nat, i + d = 24 → ∀ sn : Nat → Int32, (∀ t, t < i → sn t = 0) → ∃ sn' : Nat → Int32, yk_I zy vs vn es eu sn' ∧ ck_R vs vn (fun t => ¬ sn' t = 0) ∧ ck_C zy es eu (fun t => ¬ sn' t = 0) ∧ ∀ post : Int32 → SY → Prop, post (nI (cn_c sn' 24)) (yE, yN, yC, dp, tp, fl, lo, kd, ex, ey, yW, yP, yX, yY, yZ, vs, vn, zy, yK, es, eu, tk, sn', yO, wk, sg, so, nu, la, tu, lz) → wY_reach_2 post yE yN yC dp tp fl lo (d + 1) (nI i) kd ex ey yW yP yX yY yZ vs vn zy yK es eu tk sn yO wk sg so nu la tu lz := by
    intro d
    induction d with
    | zero =>
      intro i hi sn h2
      obtain rfl : i = 24 := by omega
      obtain ⟨sn2, Y2, R2, C2, hw2⟩ := yk_roots (yE := yE) (yN := yN) (yC := yC) (dp := dp) (tp := tp) (fl := fl) (lo := lo) (kd := kd) (ex := ex) (ey := ey) (yW := yW) (yP := yP) (yX := yX) (yY := yY) (yZ := yZ) (yK := yK) (tk := tk) (yO := yO) (wk := wk) (sg := sg) (so := so) (nu := nu) (la := la) (tu := tu) (lz := lz) H 6 0 (by decide) sn ⟨fun t ht => Or.inl (h2 t ht), fun S _ _ t ht h => absurd (h2 t ht) h⟩ (fun v h => absurd h (by omega))
      exact ⟨sn2, Y2, R2, C2, fun post hp => br_t (by decide) ⟨_, hw2 post hp⟩⟩
    | succ d ih =>
      intro i hi sn h2
      obtain ⟨sn2, Y2, R2, C2, hw2⟩ := ih (i + 1) (by omega) (upd sn i 0) (fun t ht => by
        by_cases e : t = i
        · subst e; exact pk_us
        · rw [pk_un e]; exact h2 t (by omega))
      exact ⟨sn2, Y2, R2, C2, fun post hp => br_f (nI_ge (b := 24) (by omega) (by decide)) ⟨vp_in_nI (by omega) (by decide), nm_r (by rw [nI_clamp (by omega), cv_b0]) (nm_r (nI_1 i) (hw2 post hp))⟩⟩
  obtain ⟨sn2, Y2, R2, C2, hw2⟩ := g 24 0 (by omega) sn (fun t ht => by omega)
  refine ⟨sn2, Y2, R2, C2, fun post hp => ?_⟩
  unfold wpY_reach
  exact ⟨_, hw2 post hp⟩
end
/-- the two sets are one -/
theorem kk_same {U sz zy vs vn es eu iu fd sn : Nat → Int32} {c : Nat} (H : tm_HO U sz zy vs vn es eu) (K : ck_I sz vs vn es eu iu c fd) (kR : ck_R vs vn (fun t => ¬ iu t = 0)) (kC : ck_C sz es eu (fun t => ¬ iu t = 0))
    (Y : yk_I zy vs vn es eu sn) (yR : ck_R vs vn (fun t => ¬ sn t = 0)) (yC : ck_C zy es eu (fun t => ¬ sn t = 0)) : (∀ t, t < 24 → sn t = iu t) ∧ cn_c sn 24 = c ∧ tm_HO iu sz zy vs vn es eu := by
  have hU := ck_U H
  have a : ∀ t, ¬ iu t = 0 → ¬ sn t = 0 := by
    intro t h
    refine (K.2.2.2.2.2.1 (fun t => ¬ sn t = 0 ∧ ¬ U t = 0) (fun v hv e => ⟨yR v hv e, hU.1 v hv e⟩) (fun t i ht hu hi hz e => ⟨?_, hU.2.1 t i ht hu.2 hi hz e⟩) t h).1
    refine yC t i ht hu.1 hi ?_ e
    rw [(H.1 t hu.2).2.1]; exact hz
  have b : ∀ t, t < 24 → ¬ sn t = 0 → ¬ iu t = 0 := by
    intro t ht h
    refine (Y.2 (fun t => ¬ iu t = 0 ∧ ¬ U t = 0) (fun v hv e => ⟨kR v hv e, hU.1 v hv e⟩) (fun t i ht hu hi hz e => ⟨?_, hU.2.2 t i ht hu.2 hi hz e⟩) t ht h).1
    refine kC t i ht hu.1 hi ?_ e
    rw [← (H.1 t hu.2).2.1]; exact hz
  have e : ∀ t, t < 24 → sn t = iu t := by
    intro t ht
    rcases Y.1 t ht with h | h
    · rcases K.2.2.1 t with h2 | h2
      · rw [h, h2]
      · exact absurd h (a t (by rw [h2]; decide))
    · rcases K.2.2.1 t with h2 | h2
      · exact absurd h2 (b t ht (by rw [h]; decide))
      · rw [h, h2]
  refine ⟨e, ?_, ?_⟩
  · have e1 : cn_c sn 24 = cn_c iu 24 := Nat.le_antisymm (cn_mono 24 (fun t ht h => b t ht h)) (cn_mono 24 (fun t ht h => a t h))
    have z : ∀ t, 20 ≤ t → cn_c iu (t + 1) = cn_c iu t := by
      intro t ht
      show cn_c iu t + (if iu t = 0 then 0 else 1) = _
      rw [if_pos (K.2.1 t ht)]; rfl
    rw [e1, z 23 (by decide), z 22 (by decide), z 21 (by decide), z 20 (by decide)]
    exact K.1.symm
  · have s : ∀ t, ¬ iu t = 0 → ¬ U t = 0 := fun t h => K.2.2.2.2.2.1 _ hU.1 hU.2.1 t h
    have g : ∀ {x y : Int32}, cv_ok U x y → (x = 2 → ¬ iu y.toNatClampNeg = 0) → cv_ok iu x y := by
      intro x y h h2
      rcases h with h | h | ⟨h, p, hp, hy, _⟩
      · exact Or.inl h
      · exact Or.inr (Or.inl h)
      · have := h2 h
        rw [hy, nI_clamp (by omega)] at this
        exact Or.inr (Or.inr ⟨h, p, hp, hy, this⟩)
    refine ⟨fun t h => H.1 t (s t h), fun t i m h hz hm hi => ?_, fun v hv => g (H.2.2 v hv) (fun e => kR v hv e)⟩
    exact g (H.2.1 t i m (s t h) hz hm hi) (fun e => kC t i (H.1 t (s t h)).1 h (by omega) (by rw [hz]; exact nI_lt hi (by omega)) e)
theorem i_vc_tables {k : Nat} {u : SX} {v : SY} (I : i_Rel k u v) (hk : k + 5 ≤ 2560) : wpX_tables (fun r u' => wpY_tables (fun r' v' => r' = r ∧ i_Rel (k + 5) u' v') v) u := by
  obtain ⟨E, N, oL, fC, oC, wt, cK, cO, cR, rg, oP, oX, oY, oZ, lS, lT, lL, iu, sz, ke, fd, ou, dp, tp, fl, lo, kd, ex, ey, vs, vn, zy, es, eu, tk, sn, wk, sg, so, nu, la, tu, lz, rfl, rfl, J⟩ := I
  obtain ⟨hE, hN, hVE, hVS, hiu, htk, U, H⟩ := J
  obtain ⟨iu', c, fd', K, kR, kC, hX⟩ := xk_collect (eN := nI E) (sN := nI N) (oL := oL) (fC := fC) (oC := oC) (wt := wt) (cK := cK) (cO := cO) (cR := cR) (rg := rg) (oP := oP) (oX := oX) (oY := oY) (oZ := oZ) (lS := lS) (lT := lT) (lL := lL) (ke := ke) (fd := fd) (ou := ou) H hiu
  obtain ⟨sn', Y, yR, yC, hY⟩ := yk_reach (yE := nI E) (yN := nI N) (yC := oC) (dp := dp) (tp := tp) (fl := fl) (lo := lo) (kd := kd) (ex := ex) (ey := ey) (yW := wt) (yP := oP) (yX := oX) (yY := oY) (yZ := oZ) (yK := ke) (tk := tk) (sn := sn) (yO := ou) (wk := wk) (sg := sg) (so := so) (nu := nu) (la := la) (tu := tu) (lz := lz) H
  obtain ⟨e1, e2, H'⟩ := kk_same H K kR kC Y yR yC
  unfold wpX_tables
  refine hX _ ?_
  unfold wpY_tables
  exact hY _ ⟨by rw [e2], E, N, oL, nI c, oC, wt, cK, cO, cR, rg, oP, oX, oY, oZ, lS, lT, lL, iu', sz, ke, fd', ou, dp, tp, fl, lo, kd, ex, ey, vs, vn, zy, es, eu, tk, sn', wk, sg, so, nu, la, tu, lz, rfl, rfl, hE, hN, hVE, hVS, K.2.1, htk, iu', H'⟩
