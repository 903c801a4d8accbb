/-! named, sound -/
def tm_nm (oP oY oZ : Nat → Int32) (s : Nat) : Nat := if oP s = 2 then s + (oY s).toNatClampNeg else if oP s = 3 then s + (oZ s).toNatClampNeg else s
/-- how many LOOPs below c name s -/
def tm_lo (oP oY oZ : Nat → Int32) (s : Nat) : Nat → Nat
  | 0 => 0
  | c + 1 => tm_lo oP oY oZ s c + (if oP c = 3 ∧ s ≤ tm_nm oP oY oZ c then 1 else 0)
theorem tm_lo_le (oP oY oZ : Nat → Int32) (s c : Nat) : tm_lo oP oY oZ s c ≤ c := by
  induction c with
  | zero => exact Nat.le_refl 0
  | succ c ih =>
    show tm_lo oP oY oZ s c + _ ≤ c + 1
    split <;> omega
theorem tm_lo_mono (oP oY oZ : Nat → Int32) (s : Nat) {c d : Nat} (h : c ≤ d) : tm_lo oP oY oZ s c ≤ tm_lo oP oY oZ s d := by
  induction d with
  | zero => rw [show c = 0 by omega]; exact Nat.le_refl _
  | succ d ih =>
    by_cases e : c = d + 1
    · rw [e]; exact Nat.le_refl _
    · exact Nat.le_trans (ih (by omega)) (Nat.le_add_right _ _)
theorem tm_lo_hit {oP oY oZ : Nat → Int32} {s c : Nat} (h : oP c = 3) (h2 : s ≤ tm_nm oP oY oZ c) : tm_lo oP oY oZ s (c + 1) = tm_lo oP oY oZ s c + 1 := by
  show tm_lo oP oY oZ s c + _ = _
  rw [if_pos ⟨h, h2⟩]
theorem tm_lo_miss {oP oY oZ : Nat → Int32} {s c : Nat} (h : ¬ (oP c = 3 ∧ s ≤ tm_nm oP oY oZ c)) : tm_lo oP oY oZ s (c + 1) = tm_lo oP oY oZ s c := by
  show tm_lo oP oY oZ s c + _ = _
  rw [if_neg h]; rfl
def tm_snd (N : Nat) (oP oY oZ : Nat → Int32) : Prop := ∀ s, s < N → tm_nm oP oY oZ s < N ∧ (∀ i, s < i → i ≤ tm_nm oP oY oZ s → tm_nm oP oY oZ i ≤ tm_nm oP oY oZ s) ∧ tm_lo oP oY oZ s s ≤ 2
theorem tm_nm_b {E : Nat} {oP oX oY oZ : Nat → Int32} {s : Nat} (h : tm_st E (oP s) (oX s) (oY s) (oZ s)) : s ≤ tm_nm oP oY oZ s ∧ tm_nm oP oY oZ s ≤ s + 6 := by
  unfold tm_nm
  rcases h with ⟨h, _⟩ | ⟨h, _⟩ | ⟨h, _, m, h1, h2, h3⟩ | ⟨h, _, _, m, h1, h2, h3⟩ | ⟨h, _⟩ <;> rw [h]
  · rw [if_neg (by decide), if_neg (by decide)]; omega
  · rw [if_neg (by decide), if_neg (by decide)]; omega
  · rw [if_pos rfl, h3, nI_clamp (by omega)]; omega
  · rw [if_neg (by decide), if_pos rfl, h3, nI_clamp (by omega)]; omega
  · rw [if_neg (by decide), if_neg (by decide)]; omega
section
variable {eN sN oL fC oC : Int32} {wt cK cO cR : Nat → Int32} {rg : Nat → Int64} {oP oX oY oZ lS lT lL : Nat → Int32} {va : Nat → Int64} {iu sz ke : Nat → Int32} {en : Nat → Int64} {fd : Nat → Int32} {ou : Nat → Int64} {yE yN yC dp tp fl lo : Int32} {kd ex ey yW yP yX yY yZ vs vn zy yK es eu tk sn : Nat → Int32} {yO : Nat → Int64} {wk sg so nu la tu lz : Nat → Int32}
theorem xn_named {post : Int32 → Prop} {E s : Nat} (hs : s < 14) (h : tm_st E (oP s) (oX s) (oY s) (oZ s)) (hp : post (nI (tm_nm oP oY oZ s))) : wpX_lastNamed post (eN, sN, oL, fC, oC, wt, cK, cO, cR, rg, oP, oX, oY, oZ, lS, lT, lL, va, iu, sz, ke, en, fd, ou) (nI s) := by
  have hi : vp_in (nI s) 14 := vp_in_nI hs (by decide)
  have hc : (nI s).toNatClampNeg = s := nI_clamp (by omega)
  unfold wpX_lastNamed
  unfold tm_nm at hp
  refine ⟨hi, ?_⟩
  rw [hc]
  rcases h with ⟨h, _⟩ | ⟨h, _⟩ | ⟨h, _, m, h1, h2, h3⟩ | ⟨h, _, _, m, h1, h2, h3⟩ | ⟨h, _⟩ <;> rw [h] at hp ⊢
  · rw [if_neg (by decide), if_neg (by decide)] at hp
    exact br_f (by decide) ⟨hi, br_f (by decide) hp⟩
  · rw [if_neg (by decide), if_neg (by decide)] at hp
    exact br_f (by decide) ⟨hi, br_f (by decide) hp⟩
  · rw [if_pos rfl, h3, nI_clamp (by omega), ← nI_add] at hp
    rw [h3]
    exact br_t rfl ⟨hi, hp⟩
  · rw [if_neg (by decide), if_pos rfl, h3, nI_clamp (by omega), ← nI_add] at hp
    rw [h3]
    exact br_f (by decide) ⟨hi, br_t rfl ⟨hi, hp⟩⟩
  · rw [if_neg (by decide), if_neg (by decide)] at hp
    exact br_f (by decide) ⟨hi, br_f (by decide) hp⟩
theorem yn_named {post : Int32 → Prop} {E s : Nat} (hs : s < 14) (h : tm_st E (yP s) (yX s) (yY s) (yZ s)) (hp : post (nI (tm_nm yP yY yZ s))) : wpY_named post (yE, yN, yC, dp, tp, fl, lo, kd, ex, ey, yW, yP, yX, yY, yZ, vs, vn, zy, yK, es, eu, tk, sn, yO, wk, sg, so, nu, la, tu, lz) (nI s) := by
  have hi : vp_in (nI s) 14 := vp_in_nI hs (by decide)
  have hc : (nI s).toNatClampNeg = s := nI_clamp (by omega)
  unfold wpY_named
  unfold tm_nm at hp
  refine ⟨hi, ?_⟩
  rw [hc]
  rcases h with ⟨h, _⟩ | ⟨h, _⟩ | ⟨h, _, m, h1, h2, h3⟩ | ⟨h, _, _, m, h1, h2, h3⟩ | ⟨h, _⟩ <;> rw [h] at hp ⊢
  · rw [if_neg (by decide), if_neg (by decide)] at hp
    exact br_f (by decide) ⟨hi, br_f (by decide) hp⟩
  · rw [if_neg (by decide), if_neg (by decide)] at hp
    exact br_f (by decide) ⟨hi, br_f (by decide) hp⟩
  · rw [if_pos rfl, h3, nI_clamp (by omega), ← nI_add] at hp
    rw [h3]
    exact br_t rfl ⟨hi, hp⟩
  · rw [if_neg (by decide), if_pos rfl, h3, nI_clamp (by omega), ← nI_add] at hp
    rw [h3]
    exact br_f (by decide) ⟨hi, br_t rfl ⟨hi, hp⟩⟩
  · rw [if_neg (by decide), if_neg (by decide)] at hp
    exact br_f (by decide) ⟨hi, br_f (by decide) hp⟩
theorem xn_sl {post : Int32 → Prop} {E N L : Nat} (hV : tm_VS E N oP oX oY oZ) (hN : N ≤ 14) (hL : L < N) : ∀ d i : Nat, i + d = L + 1 → ((∀ j, i ≤ j → j ≤ L → tm_nm oP oY oZ j ≤ L) → post 1) → (¬ (∀ j, i ≤ j → j ≤ L → tm_nm oP oY oZ j ≤ L) → post 0) → wX_namesSoundly_20 post (nI L) eN sN oL fC oC wt cK cO cR rg oP oX oY oZ lS lT lL va iu sz ke en fd ou (d + 1) (nI i) := by
  intro d
  induction d with
  | zero =>
    intro i hi h1 h0
    exact br_t (nI_lt (by omega) (by omega)) (h1 (fun j a b => by omega))
  | succ d ih =>
    intro i hi h1 h0
    refine br_f (nI_nlt (by omega) (by omega)) (xn_named (E := E) (by omega) (hV i (by omega)) ?_)
    have hb := tm_nm_b (hV i (by omega))
    by_cases q : tm_nm oP oY oZ i ≤ L
    · refine br_t (nI_le q (by omega)) (nm_r (nI_1 i) (ih (i + 1) (by omega) (fun z => h1 fun j a b => ?_) (fun z => h0 fun y => z fun j a b => y j (by omega) b)))
      by_cases e : i = j
      · rw [← e]; exact q
      · exact z j (by omega) b
    · exact br_f (nI_ge (by omega) (by omega)) (h0 fun y => q (y i (Nat.le_refl i) (by omega)))
theorem xn_sly {post : Int32 → Prop} {E N s : Nat} (hV : tm_VS E N oP oX oY oZ) (hN : N ≤ 14) (hs : s < N) (h1 : tm_nm oP oY oZ s < N → (∀ i, s < i → i ≤ tm_nm oP oY oZ s → tm_nm oP oY oZ i ≤ tm_nm oP oY oZ s) → post 1) (h0 : ¬ (tm_nm oP oY oZ s < N ∧ (∀ i, s < i → i ≤ tm_nm oP oY oZ s → tm_nm oP oY oZ i ≤ tm_nm oP oY oZ s)) → post 0) : wpX_namesSoundly post (eN, nI N, oL, fC, oC, wt, cK, cO, cR, rg, oP, oX, oY, oZ, lS, lT, lL, va, iu, sz, ke, en, fd, ou) (nI s) := by
  have hb := tm_nm_b (hV s hs)
  unfold wpX_namesSoundly
  refine xn_named (E := E) (by omega) (hV s hs) ?_
  by_cases q : tm_nm oP oY oZ s < N
  · refine br_t (nI_lt q (by omega)) (nm_r (nI_1 s) ⟨_, xn_sl hV hN q (tm_nm oP oY oZ s - s) (s + 1) (by omega) (fun z => h1 q fun i a b => z i a b) (fun z => h0 fun y => z fun i a b => y.2 i a b)⟩)
  · exact br_f (nI_nlt (by omega) (by omega)) (h0 fun y => q y.1)
theorem xn_lo {post : Int32 → Prop} {E N s : Nat} (hV : tm_VS E N oP oX oY oZ) (hN : N ≤ 14) (hs : s < N) (hp : post (nI (tm_lo oP oY oZ s s))) : ∀ d i : Nat, i + d = s → wX_loopsOver_4 post (nI s) eN sN oL fC oC wt cK cO cR rg oP oX oY oZ lS lT lL va iu sz ke en fd ou (d + 1) (nI (tm_lo oP oY oZ s i)) (nI i) := by
  intro d
  induction d with
  | zero =>
    intro i hi
    obtain rfl : i = s := by omega
    exact br_t (nI_le (Nat.le_refl _) (by omega)) hp
  | succ d ih =>
    intro i hi
    have hb := tm_nm_b (hV i (by omega))
    have hc : (nI i).toNatClampNeg = i := nI_clamp (by omega)
    have ih' := ih (i + 1) (by omega)
    refine br_f (nI_ge (by omega) (by omega)) ⟨vp_in_nI (by omega) (by decide), ?_⟩
    rw [hc]
    by_cases q : oP i = 3
    · refine br_t q (xn_named (E := E) (by omega) (hV i (by omega)) ?_)
      by_cases q2 : tm_nm oP oY oZ i < s
      · rw [tm_lo_miss (fun z => by omega)] at ih'
        exact br_t (nI_lt q2 (by omega)) (nm_r (nI_1 i) ih')
      · rw [tm_lo_hit q (by omega)] at ih'
        exact br_f (nI_nlt (by omega) (by omega)) (nm_r (nI_1 _) (nm_r (nI_1 i) ih'))
    · rw [tm_lo_miss (fun z => q z.1)] at ih'
      exact br_f q (nm_r (nI_1 i) ih')
theorem xn_sd {post : Int32 → Prop} {E N : Nat} (hV : tm_VS E N oP oX oY oZ) (hN : N ≤ 14) : ∀ d i : Nat, i + d = N → ((∀ s, i ≤ s → s < N → tm_nm oP oY oZ s < N ∧ (∀ i, s < i → i ≤ tm_nm oP oY oZ s → tm_nm oP oY oZ i ≤ tm_nm oP oY oZ s) ∧ tm_lo oP oY oZ s s ≤ 2) → post 1) → (¬ (∀ s, i ≤ s → s < N → tm_nm oP oY oZ s < N ∧ (∀ i, s < i → i ≤ tm_nm oP oY oZ s → tm_nm oP oY oZ i ≤ tm_nm oP oY oZ s) ∧ tm_lo oP oY oZ s s ≤ 2) → post 0) → wX_sound_2 post eN (nI N) oL fC oC wt cK cO cR rg oP oX oY oZ lS lT lL va iu sz ke en fd ou (d + 1) (nI i) := by
  intro d
  induction d with
  | zero =>
    intro i hi h1 h0
    exact br_t (nI_le (by omega) (by omega)) (h1 fun s a b => by omega)
  | succ d ih =>
    intro i hi h1 h0
    refine br_f (nI_ge (by omega) (by omega)) (xn_sly hV hN (by omega) (fun a b => br_f (by decide) ?_) (fun a => br_t rfl (h0 fun y => a ⟨(y i (Nat.le_refl i) (by omega)).1, (y i (Nat.le_refl i) (by omega)).2.1⟩)))
    unfold wpX_loopsOver
    refine ⟨_, xn_lo hV hN (by omega) ?_ i 0 (by omega)⟩
    have hl := tm_lo_le oP oY oZ i i
    by_cases q : tm_lo oP oY oZ i i ≤ 2
    · refine br_t (nI_le (b := 2) q (by decide)) (nm_r (nI_1 i) (ih (i + 1) (by omega) (fun z => h1 fun s c e => ?_) (fun z => h0 fun y => z fun s c e => y s (by omega) e)))
      by_cases e2 : i = s
      · subst e2; exact ⟨a, b, q⟩
      · exact z s (by omega) e
    · exact br_f (nI_ge (a := 2) (by omega) (by omega)) (h0 fun y => q (y i (Nat.le_refl i) (by omega)).2.2)
theorem xn_sound {post : Int32 → Prop} {E N : Nat} (hV : tm_VS E N oP oX oY oZ) (hN : N ≤ 14) (h1 : tm_snd N oP oY oZ → post 1) (h0 : ¬ tm_snd N oP oY oZ → post 0) : wpX_sound post (eN, nI N, oL, fC, oC, wt, cK, cO, cR, rg, oP, oX, oY, oZ, lS, lT, lL, va, iu, sz, ke, en, fd, ou) := by
  unfold wpX_sound
  exact ⟨_, xn_sd hV hN N 0 (by omega) (fun z => h1 fun s hs => z s (Nat.zero_le s) hs) (fun z => h0 fun y => z fun s _ hs => y s hs)⟩
theorem yn_in {post J2 : Int32 → Prop} {E N i : Nat} (hV : tm_VS E N yP yX yY yZ) (hN : N ≤ 14) (hi : i < N) : ∀ d k : Nat, k + d = i → (((∀ j, k ≤ j → j < i → i ≤ tm_nm yP yY yZ j → tm_nm yP yY yZ i ≤ tm_nm yP yY yZ j) ∧ tm_lo yP yY yZ i i ≤ 2) → J2 (nI (i + 1))) → (¬ ((∀ j, k ≤ j → j < i → i ≤ tm_nm yP yY yZ j → tm_nm yP yY yZ i ≤ tm_nm yP yY yZ j) ∧ tm_lo yP yY yZ i i ≤ 2) → post 0) → wY_sound_28 post J2 (nI i) yE yN yC dp tp fl lo kd ex ey yW yP yX yY yZ vs vn zy yK es eu tk sn yO wk sg so nu la tu lz (d + 1) (nI (tm_lo yP yY yZ i k)) (nI k) := by
  intro d
  induction d with
  | zero =>
    intro k hk h1 h0
    obtain rfl : k = i := by omega
    have hl := tm_lo_le yP yY yZ k k
    refine br_t (nI_le (Nat.le_refl _) (by omega)) ?_
    by_cases q : tm_lo yP yY yZ k k ≤ 2
    · exact br_t (nI_le (b := 2) q (by decide)) (nm_r (nI_1 k) (h1 ⟨fun j a b => by omega, q⟩))
    · exact br_f (nI_ge (a := 2) (by omega) (by omega)) (h0 fun y => q y.2)
  | succ d ih =>
    intro k hk h1 h0
    have hb := tm_nm_b (hV k (by omega))
    have hb2 := tm_nm_b (hV i hi)
    have hc : (nI k).toNatClampNeg = k := nI_clamp (by omega)
    have hin : vp_in (nI k) 14 := vp_in_nI (by omega) (by decide)
    have ih' := ih (k + 1) (by omega)
    refine br_f (nI_ge (by omega) (by omega)) (yn_named (E := E) (by omega) (hV k (by omega)) ?_)
    by_cases q : tm_nm yP yY yZ k < i
    · refine br_t (nI_lt q (by omega)) (br_t rfl (br_t rfl (nm_r (nI_1 k) ?_)))
      rw [tm_lo_miss (fun z => by omega)] at ih'
      exact ih' (fun z => h1 ⟨fun j a b c => by
        by_cases e : k = j
        · subst e; omega
        · exact z.1 j (by omega) b c, z.2⟩) (fun z => h0 fun y => z ⟨fun j a b c => y.1 j (by omega) b c, y.2⟩)
    · refine br_f (nI_nlt (by omega) (by omega)) (br_f (by decide) (yn_named (E := E) (by omega) (hV i hi) (yn_named (E := E) (by omega) (hV k (by omega)) ?_)))
      by_cases q2 : tm_nm yP yY yZ i ≤ tm_nm yP yY yZ k
      · refine br_t (nI_le q2 (by omega)) (br_f (by decide) ⟨hin, ?_⟩)
        rw [hc]
        have g1 : ((∀ j, k + 1 ≤ j → j < i → i ≤ tm_nm yP yY yZ j → tm_nm yP yY yZ i ≤ tm_nm yP yY yZ j) ∧ tm_lo yP yY yZ i i ≤ 2) → J2 (nI (i + 1)) := fun z => h1 ⟨fun j a b c => by
          by_cases e : k = j
          · subst e; exact q2
          · exact z.1 j (by omega) b c, z.2⟩
        have g0 : ¬ ((∀ j, k + 1 ≤ j → j < i → i ≤ tm_nm yP yY yZ j → tm_nm yP yY yZ i ≤ tm_nm yP yY yZ j) ∧ tm_lo yP yY yZ i i ≤ 2) → post 0 := fun z => h0 fun y => z ⟨fun j a b c => y.1 j (by omega) b c, y.2⟩
        by_cases q3 : yP k = 3
        · rw [tm_lo_hit q3 (by omega)] at ih'
          exact br_t q3 (nm_r (nI_1 _) (nm_r (nI_1 k) (ih' g1 g0)))
        · rw [tm_lo_miss (fun z => q3 z.1)] at ih'
          exact br_f q3 (nm_r (nI_1 k) (ih' g1 g0))
      · exact br_f (nI_ge (by omega) (by omega)) (h0 fun y => q2 (y.1 k (Nat.le_refl k) (by omega) (by omega)))
theorem yn_sd {post : Int32 → Prop} {E N : Nat} (hV : tm_VS E N yP yX yY yZ) (hN : N ≤ 14) : ∀ d i : Nat, i + d = N → ((∀ s, i ≤ s → s < N → tm_nm yP yY yZ s < N ∧ (∀ j, j < s → s ≤ tm_nm yP yY yZ j → tm_nm yP yY yZ s ≤ tm_nm yP yY yZ j) ∧ tm_lo yP yY yZ s s ≤ 2) → post 1) → (¬ (∀ s, i ≤ s → s < N → tm_nm yP yY yZ s < N ∧ (∀ j, j < s → s ≤ tm_nm yP yY yZ j → tm_nm yP yY yZ s ≤ tm_nm yP yY yZ j) ∧ tm_lo yP yY yZ s s ≤ 2) → post 0) → wY_sound_2 post yE (nI N) yC dp tp fl lo kd ex ey yW yP yX yY yZ vs vn zy yK es eu tk sn yO wk sg so nu la tu lz (d + 1) (nI i) := by
  intro d
  induction d with
  | zero =>
    intro i hi h1 h0
    exact br_t (nI_le (by omega) (by omega)) (h1 fun s a b => by omega)
  | succ d ih =>
    intro i hi h1 h0
    have hb := tm_nm_b (hV i (by omega))
    refine br_f (nI_ge (by omega) (by omega)) (yn_named (E := E) (by omega) (hV i (by omega)) ?_)
    by_cases q : tm_nm yP yY yZ i < N
    · refine br_t (nI_lt q (by omega)) ⟨_, yn_in hV hN (by omega) i 0 (by omega) (fun z => ih (i + 1) (by omega) (fun z2 => h1 fun s c e => ?_) (fun z2 => h0 fun y => z2 fun s c e => y s (by omega) e)) (fun z => h0 fun y => z ⟨fun j _ b c => (y i (Nat.le_refl i) (by omega)).2.1 j b c, (y i (Nat.le_refl i) (by omega)).2.2⟩)⟩
      by_cases e2 : i = s
      · subst e2; exact ⟨q, fun j b c => z.1 j (Nat.zero_le j) b c, z.2⟩
      · exact z2 s (by omega) e
    · exact br_f (nI_nlt (by omega) (by omega)) (h0 fun y => q (y i (Nat.le_refl i) (by omega)).1)
theorem yn_sound {post : Int32 → Prop} {E N : Nat} (hV : tm_VS E N yP yX yY yZ) (hN : N ≤ 14) (h1 : tm_snd N yP yY yZ → post 1) (h0 : ¬ tm_snd N yP yY yZ → post 0) : wpY_sound post (yE, nI N, yC, dp, tp, fl, lo, kd, ex, ey, yW, yP, yX, yY, yZ, vs, vn, zy, yK, es, eu, tk, sn, yO, wk, sg, so, nu, la, tu, lz) := by
  unfold wpY_sound
  refine ⟨_, yn_sd hV hN N 0 (by omega) (fun z => h1 fun s hs => ?_) (fun z => h0 fun y => z fun s _ hs => ?_)⟩
  · exact ⟨(z s (Nat.zero_le s) hs).1, fun i a b => (z i (Nat.zero_le i) (by have := (z s (Nat.zero_le s) hs).1; omega)).2.1 s a b, (z s (Nat.zero_le s) hs).2.2⟩
  · exact ⟨(y s hs).1, fun j a b => (y j (by omega)).2.1 s a b, (y s hs).2.2⟩
end
theorem i_vc_sound {k : Nat} {u : SX} {v : SY} (I : i_Rel k u v) (hk : k + 5 ≤ 2560) : wpX_sound (fun r => wpY_sound (fun r' => r' = r ∧ i_Rel (k + 5) u v) v) u := by
  have hR := i_up I
  obtain ⟨E, N, oL, fC, oC, wt, cK, cO, cR, rg, oP, oX, oY, oZ, lS, lT, lL, iu, sz, ke, fd, ou, dp, tp, fl, lo, kd, ex, ey, vs, vn, zy, es, eu, tk, sn, wk, sg, so, nu, la, tu, lz, rfl, rfl, J⟩ := I
  obtain ⟨hE, hN, hVE, hVS, hiu, htk, U, H⟩ := J
  exact xn_sound hVS hN (fun a => yn_sound hVS hN (fun _ => ⟨rfl, hR⟩) (fun b => absurd a b)) (fun a => yn_sound hVS hN (fun b => absurd b a) (fun _ => ⟨rfl, hR⟩))
