/-! the relation: the same places, the same keys; a long is the pair's; sizes agree where a table is in use -/
def cv_f (s n : Nat → Int32) : Nat → Int64 := fun j => cv_e (s j) (n j)
theorem cv_fu (s n : Nat → Int32) (k : Nat) (a b : Int32) : vp_updL (cv_f s n) k (cv_e a b) = cv_f (upd s k a) (upd n k b) := by
  funext j
  unfold vp_updL cv_f upd
  by_cases h : j = k
  · simp only [h, if_true]
  · simp only [h, if_false]
def tm_k2 (k : Int32) : Prop := k = 2 ∨ k = 3 ∨ k = 4 ∨ k = 5 ∨ k = 6 ∨ k = 10
/-- expression e, of weight w, has its code at a, its value in register r -/
def tm_T (E : Nat) (kd ex ey wt cK cO cR : Nat → Int32) : Nat → Nat → Nat → Nat → Nat → Prop
  | 0, _, _, _, _ => False
  | f + 1, w, e, a, r => e < E ∧ wt e = nI w ∧
    ((w = 1 ∧ cO a = ex e ∧ cR a = nI r ∧ cK a = kd e ∧ (kd e = 0 ∨ (kd e = 1 ∧ ∃ v, v < 6 ∧ ex e = nI v) ∨ kd e = 11)) ∨
     (∃ x wx, (kd e = 9 ∨ kd e = 12) ∧ ex e = nI x ∧ w = wx + 1 ∧ tm_T E kd ex ey wt cK cO cR f wx x a r ∧ cK (a + wx) = kd e ∧ cR (a + wx) = nI r) ∨
     (∃ x y wx wy, (kd e = 7 ∨ kd e = 8) ∧ ex e = nI x ∧ ey e = nI y ∧ w = wx + 1 + wy ∧ tm_T E kd ex ey wt cK cO cR f wx x a r ∧ cK (a + wx) = kd e ∧ cO (a + wx) = nI wy ∧ cR (a + wx) = nI r ∧ tm_T E kd ex ey wt cK cO cR f wy y (a + wx + 1) r) ∨
     (∃ x y wx wy, tm_k2 (kd e) ∧ ex e = nI x ∧ ey e = nI y ∧ w = wx + wy + 1 ∧ tm_T E kd ex ey wt cK cO cR f wx x a r ∧ tm_T E kd ex ey wt cK cO cR f wy y (a + wx) (r + 1) ∧ cK (a + wx + wy) = kd e ∧ cR (a + wx + wy) = nI r))
def tm_VE (E : Nat) (kd ex ey wt cK cO cR : Nat → Int32) : Prop := ∀ e, e < E → ∃ w, w ≤ 7 ∧ tm_T E kd ex ey wt cK cO cR w w e (7 * e) 0
def tm_st (E : Nat) (p x y z : Int32) : Prop :=
  (p = 0 ∧ (∃ v, v < 6 ∧ x = nI v) ∧ ∃ b, b < E ∧ y = nI b) ∨
  (p = 1 ∧ (∃ a, a < E ∧ x = nI a) ∧ (∃ b, b < E ∧ y = nI b) ∧ ∃ c, c < E ∧ z = nI c) ∨
  (p = 2 ∧ (∃ a, a < E ∧ x = nI a) ∧ ∃ m, 1 ≤ m ∧ m ≤ 6 ∧ y = nI m) ∨
  (p = 3 ∧ (∃ v, v < 6 ∧ x = nI v) ∧ (∃ b, b < E ∧ y = nI b) ∧ ∃ m, 1 ≤ m ∧ m ≤ 6 ∧ z = nI m) ∨
  (p = 4 ∧ ∃ a, a < E ∧ x = nI a)
def tm_VS (E N : Nat) (oP oX oY oZ : Nat → Int32) : Prop := ∀ s, s < N → tm_st E (oP s) (oX s) (oY s) (oZ s)
/-- the heap: U are the places in use -/
def tm_HO (U sz zy vs vn es eu : Nat → Int32) : Prop :=
  (∀ t, ¬ U t = 0 → t < 20 ∧ zy t = sz t ∧ ∃ m, m ≤ 6 ∧ sz t = nI m) ∧
  (∀ t i m, ¬ U t = 0 → sz t = nI m → m ≤ 6 → i < m → cv_ok U (es (6 * t + i)) (eu (6 * t + i))) ∧
  (∀ v, v < 6 → cv_ok U (vs v) (vn v))
def tm_I (E N : Nat) (wt cK cO cR kd ex ey oP oX oY oZ iu sz zy vs vn es eu tk : Nat → Int32) : Prop :=
  E ≤ 30 ∧ N ≤ 14 ∧ tm_VE E kd ex ey wt cK cO cR ∧ tm_VS E N oP oX oY oZ ∧ (∀ t, 20 ≤ t → iu t = 0) ∧ (∀ t, 24 ≤ t → tk t = 0) ∧ ∃ U, tm_HO U sz zy vs vn es eu
def i_Rel (_ : Nat) (u : SX) (v : SY) : Prop :=
  ∃ (E N : Nat) (oL fC oC : Int32) (wt cK cO cR : Nat → Int32) (rg : Nat → Int64) (oP oX oY oZ lS lT lL iu sz ke fd : Nat → Int32) (ou : Nat → Int64)
    (dp tp fl lo : Int32) (kd ex ey vs vn zy es eu tk sn wk sg so nu la tu lz : Nat → Int32),
    u = (nI E, nI N, oL, fC, oC, wt, cK, cO, cR, rg, oP, oX, oY, oZ, lS, lT, lL, cv_f vs vn, iu, sz, ke, cv_f es eu, fd, ou) ∧
    v = (nI E, nI N, oC, dp, tp, fl, lo, kd, ex, ey, wt, oP, oX, oY, oZ, vs, vn, zy, ke, es, eu, tk, sn, ou, wk, sg, so, nu, la, tu, lz) ∧
    tm_I E N wt cK cO cR kd ex ey oP oX oY oZ iu sz zy vs vn es eu tk
theorem i_up {k : Nat} {u : SX} {v : SY} (h : i_Rel k u v) : i_Rel (k + 5) u v := h
theorem tm_f0 : (fun _ => 0 : Nat → Int64) = cv_f (fun _ => 0) (fun _ => 0) := funext fun _ => cv_00.symm
theorem i_vc0 : wpX_init (fun u => wpY_init (fun v => i_Rel 0 u v)) := by
  unfold wpX_init wpY_init
  refine ⟨0, 0, 0, 0, 0, fun _ => 0, fun _ => 0, fun _ => 0, fun _ => 0, fun _ => 0, fun _ => 0, fun _ => 0, fun _ => 0, fun _ => 0, fun _ => 0, fun _ => 0, fun _ => 0, fun _ => 0, fun _ => 0, fun _ => 0, fun _ => 0, fun _ => 0, 0, 0, 0, 0,
    fun _ => 0, fun _ => 0, fun _ => 0, fun _ => 0, fun _ => 0, fun _ => 0, fun _ => 0, fun _ => 0, fun _ => 0, fun _ => 0, fun _ => 0, fun _ => 0, fun _ => 0, fun _ => 0, fun _ => 0, fun _ => 0, fun _ => 0, ?_, rfl, ?_⟩
  · rw [← tm_f0]; rfl
  · refine ⟨by omega, by omega, fun e he => absurd he (by omega), fun e he => absurd he (by omega), fun _ _ => rfl, fun _ _ => rfl, fun _ => 0, ?_, ?_, ?_⟩
    · exact fun t h => absurd rfl h
    · exact fun t i m h => absurd rfl h
    · exact fun v _ => Or.inl ⟨rfl, rfl⟩
section
variable {eN sN oL fC oC : Int32} {wt cK cO cR : Nat → Int32} {rg : Nat → Int64} {oP oX oY oZ lS lT lL : Nat → Int32} {va : Nat → Int64} {iu sz ke : Nat → Int32} {en : Nat → Int64} {fd : Nat → Int32} {ou : Nat → Int64} {yE yN yC dp tp fl lo : Int32} {kd ex ey yW yP yX yY yZ vs vn zy yK es eu tk sn : Nat → Int32} {yO : Nat → Int64} {wk sg so nu la tu lz : Nat → Int32}
theorem xv_seen {post : Int32 → Prop} {U : Nat → Int32} {s n : Int32} (h : cv_ok U s n) (hp : post (if s = 2 then sz n.toNatClampNeg else n)) : wpX_seenNumber post (eN, sN, oL, fC, oC, wt, cK, cO, cR, rg, oP, oX, oY, oZ, lS, lT, lL, va, iu, sz, ke, en, fd, ou) (cv_e s n) := by
  unfold wpX_seenNumber
  refine xv_num (cv_ok_s h) ?_
  by_cases e : s = 2
  · refine xv_tabT (cv_ok_s h) e ?_
    rw [if_pos e] at hp
    rcases h with h | h | h
    · exact absurd (h.1.symm.trans e) (by decide)
    · exact absurd (h.symm.trans e) (by decide)
    · obtain ⟨_, p, hp20, rfl, _⟩ := h
      exact br_f (by decide) ⟨vp_in_nI hp20 (by decide), hp⟩
  · refine xv_tabF (cv_ok_s h) e ?_
    rw [if_neg e] at hp
    exact br_t rfl hp
/-- both searches find the same place -/
theorem fe_scan {t m : Nat} (key : Int32) (ht : t < 20) (hm : m ≤ 6) (hx : sz t = nI m) (hy : zy t = nI m) : ∀ d i : Nat, i + d = m → ∃ r : Int32, (r = -1 ∨ ∃ i, i < m ∧ r = nI (6 * t + i)) ∧
    (∀ {eN sN oL fC oC : Int32} {wt cK cO cR : Nat → Int32} {rg : Nat → Int64} {oP oX oY oZ lS lT lL : Nat → Int32} {va : Nat → Int64} {iu : Nat → Int32} {en : Nat → Int64} {fd : Nat → Int32} {ou : Nat → Int64}, ∀ post : Int32 → Prop, post r → wX_findEntry_8 post (nI t) key (nI (t * 6)) eN sN oL fC oC wt cK cO cR rg oP oX oY oZ lS lT lL va iu sz ke en fd ou (d + 1) (nI i)) ∧
    (∀ {yE yN yC dp tp fl lo : Int32} {kd ex ey yW yP yX yY yZ vs vn es eu tk sn : Nat → Int32} {yO : Nat → Int64} {wk sg so nu la tu lz : Nat → Int32}, ∀ post : Int32 → Prop, post r → wY_find_5 post (nI t) key yE yN yC dp tp fl lo kd ex ey yW yP yX yY yZ vs vn zy ke es eu tk sn yO wk sg so nu la tu lz (d + 1) (nI (6 * t + i))) := by
  intro d
  have h1 : vp_in (nI t) 20 := vp_in_nI ht (by decide)
  have h2 : vp_in (nI t) 24 := vp_in_nI (by omega) (by decide)
  have hc : (nI t).toNatClampNeg = t := nI_clamp (by omega)
  have hb : (6 : Int32) * nI t + zy (nI t).toNatClampNeg = nI (6 * t + m) := by
    rw [hc, hy, show (6 : Int32) = nI 6 from rfl, pk_mul, nI_add]
  induction d with
  | zero =>
    intro i hi
    refine ⟨-1, Or.inl rfl, fun post hp => ?_, fun post hp => ?_⟩
    · exact ⟨h1, br_t (by rw [hc, hx]; exact nI_le (by omega) (by omega)) hp⟩
    · exact ⟨h2, br_t (by rw [hb]; exact nI_le (by omega) (by omega)) hp⟩
  | succ d ih =>
    intro i hi
    have hX : ¬ sz (nI t).toNatClampNeg ≤ nI i := by rw [hc, hx]; exact nI_ge (by omega) (by omega)
    have hY : ¬ (6 : Int32) * nI t + zy (nI t).toNatClampNeg ≤ nI (6 * t + i) := by rw [hb]; exact nI_ge (by omega) (by omega)
    have e1 : nI (t * 6) + nI i = nI (6 * t + i) := by rw [nI_add, Nat.mul_comm]
    have h3 : vp_in (nI (t * 6) + nI i) 120 := by rw [e1]; exact vp_in_nI (by omega) (by decide)
    have h4 : vp_in (nI (6 * t + i)) 144 := vp_in_nI (by omega) (by decide)
    by_cases z : ke (nI (6 * t + i)).toNatClampNeg = key
    · refine ⟨nI (6 * t + i), Or.inr ⟨i, by omega, rfl⟩, fun post hp => ⟨h1, br_f hX ⟨h3, br_t (by rw [e1]; exact z) (by rw [e1]; exact hp)⟩⟩, fun post hp => ⟨h2, br_f hY ⟨h4, br_t z hp⟩⟩⟩
    · obtain ⟨r, hr, a, b⟩ := ih (i + 1) (by omega)
      refine ⟨r, hr, fun post hp => ⟨h1, br_f hX ⟨h3, br_f (by rw [e1]; exact z) (nm_r (nI_1 i) (a post hp))⟩⟩, fun post hp => ⟨h2, br_f hY ⟨h4, br_f z (nm_r (nI_1 _) (b post hp))⟩⟩⟩
theorem fe_find {t m : Nat} (key : Int32) (ht : t < 20) (hm : m ≤ 6) (hx : sz t = nI m) (hy : zy t = nI m) : ∃ r : Int32, (r = -1 ∨ ∃ i, i < m ∧ r = nI (6 * t + i)) ∧
    (∀ {eN sN oL fC oC : Int32} {wt cK cO cR : Nat → Int32} {rg : Nat → Int64} {oP oX oY oZ lS lT lL : Nat → Int32} {va : Nat → Int64} {iu : Nat → Int32} {en : Nat → Int64} {fd : Nat → Int32} {ou : Nat → Int64}, ∀ post : Int32 → Prop, post r → wpX_findEntry post (eN, sN, oL, fC, oC, wt, cK, cO, cR, rg, oP, oX, oY, oZ, lS, lT, lL, va, iu, sz, ke, en, fd, ou) (nI t) key) ∧
    (∀ {yE yN yC dp tp fl lo : Int32} {kd ex ey yW yP yX yY yZ vs vn es eu tk sn : Nat → Int32} {yO : Nat → Int64} {wk sg so nu la tu lz : Nat → Int32}, ∀ post : Int32 → Prop, post r → wpY_find post (yE, yN, yC, dp, tp, fl, lo, kd, ex, ey, yW, yP, yX, yY, yZ, vs, vn, zy, ke, es, eu, tk, sn, yO, wk, sg, so, nu, la, tu, lz) (nI t) key) := by
  obtain ⟨r, hr, a, b⟩ := fe_scan (ke := ke) key ht hm hx hy m 0 (by omega)
  refine ⟨r, hr, fun post hp => ?_, fun post hp => ?_⟩
  · unfold wpX_findEntry
    exact nm_r (pk_mul t 6) ⟨_, a post hp⟩
  · unfold wpY_find
    exact nm_r (pk_mul 6 t) ⟨_, b post hp⟩
/-- the entry that both find, as a value -/
theorem fe_entry {U : Nat → Int32} (H : tm_HO U sz zy vs vn es eu) {t : Nat} (key : Int32) (hU : ¬ U t = 0) : ∃ (r s n : Int32), cv_ok U s n ∧
    (∀ {eN sN oL fC oC : Int32} {wt cK cO cR : Nat → Int32} {rg : Nat → Int64} {oP oX oY oZ lS lT lL : Nat → Int32} {va : Nat → Int64} {iu fd : Nat → Int32} {ou : Nat → Int64}, ∀ post : Int64 → Prop, post (cv_e s n) → wpX_entryOf post (eN, sN, oL, fC, oC, wt, cK, cO, cR, rg, oP, oX, oY, oZ, lS, lT, lL, va, iu, sz, ke, cv_f es eu, fd, ou) (nI t) key) ∧
    (∀ {yE yN yC dp tp fl lo : Int32} {kd ex ey yW yP yX yY yZ vs vn es eu tk sn : Nat → Int32} {yO : Nat → Int64} {wk sg so nu la tu lz : Nat → Int32}, ∀ post : Int32 → Prop, post r → wpY_find post (yE, yN, yC, dp, tp, fl, lo, kd, ex, ey, yW, yP, yX, yY, yZ, vs, vn, zy, ke, es, eu, tk, sn, yO, wk, sg, so, nu, la, tu, lz) (nI t) key) ∧
    ((r = -1 ∧ s = 0 ∧ n = 0) ∨ (∃ j, j < 120 ∧ r = nI j ∧ s = es j ∧ n = eu j)) := by
  obtain ⟨ht, hzy, m, hm, hz⟩ := H.1 t hU
  obtain ⟨r, hr, a, b⟩ := fe_find (ke := ke) key ht hm hz (hzy.trans hz)
  rcases hr with rfl | ⟨i, hi, rfl⟩
  · refine ⟨-1, 0, 0, Or.inl ⟨rfl, rfl⟩, fun post hp => ?_, b, Or.inl ⟨rfl, rfl, rfl⟩⟩
    unfold wpX_entryOf
    refine a _ (br_t rfl ?_)
    rw [cv_00] at hp; exact hp
  · refine ⟨_, es (6 * t + i), eu (6 * t + i), H.2.1 t i m hU hz hm hi, fun post hp => ?_, b, Or.inr ⟨6 * t + i, by omega, rfl, rfl, rfl⟩⟩
    unfold wpX_entryOf
    refine a _ (br_f ?_ ⟨vp_in_nI (by omega) (by decide), ?_⟩)
    · intro z
      have := congrArg Int32.toInt z
      rw [nI_toInt (by omega), show (-1 : Int32).toInt = -1 from by decide] at this
      omega
    · rw [nI_clamp (by omega)]; exact hp
end
theorem tm_kind {P : Prop} {s n : Int32} {U : Nat → Int32} (h : cv_ok U s n) (h0 : s = 0 → n = 0 → P) (h1 : s = 1 → P) (h2 : ∀ p, s = 2 → p < 20 → n = nI p → ¬ U p = 0 → P) : P := by
  rcases h with h | h | h
  · exact h0 h.1 h.2
  · exact h1 h
  · obtain ⟨h, p, a, b, c⟩ := h
    exact h2 p h a b c
theorem i_vc_sort {k : Nat} {u : SX} {v : SY} (I : i_Rel k u v) (hk : k + 5 ≤ 2560) (v1 : Int32) : wpX_sort (fun r => wpY_sort (fun r' => r' = r ∧ i_Rel (k + 5) u v) v v1) u v1 := by
  have hR := i_up I
  obtain ⟨E, N, oL, fC, oC, wt, cK, cO, cR, rg, oP, oX, oY, oZ, lS, lT, lL, iu, sz, ke, fd, ou, dp, tp, fl, lo, kd, ex, ey, vs, vn, zy, es, eu, tk, sn, wk, sg, so, nu, la, tu, lz, rfl, rfl, J⟩ := I
  obtain ⟨hE, hN, hVE, hVS, hiu, htk, U, H⟩ := J
  unfold wpX_sort
  rcases cv_6 (v := v1) with h | ⟨j, hj, rfl⟩
  · refine xv_noV h (br_t rfl ?_)
    unfold wpY_sort
    refine yv_noV h (br_t rfl ⟨rfl, hR⟩)
  · have hi : vp_in (nI j) 6 := vp_in_nI hj (by decide)
    have hc : (nI j).toNatClampNeg = j := nI_clamp (by omega)
    refine xv_isV ⟨j, hj, rfl⟩ (br_f (by decide) ⟨hi, ?_⟩)
    rw [hc]
    refine xv_srt (cv_ok_s (H.2.2 j hj)) ?_
    unfold wpY_sort
    refine yv_isV ⟨j, hj, rfl⟩ (br_f (by decide) ⟨hi, ?_⟩)
    rw [hc]
    exact ⟨rfl, hR⟩
theorem i_vc_number {k : Nat} {u : SX} {v : SY} (I : i_Rel k u v) (hk : k + 5 ≤ 2560) (v1 : Int32) : wpX_number (fun r => wpY_number (fun r' => r' = r ∧ i_Rel (k + 5) u v) v v1) u v1 := by
  have hR := i_up I
  obtain ⟨E, N, oL, fC, oC, wt, cK, cO, cR, rg, oP, oX, oY, oZ, lS, lT, lL, iu, sz, ke, fd, ou, dp, tp, fl, lo, kd, ex, ey, vs, vn, zy, es, eu, tk, sn, wk, sg, so, nu, la, tu, lz, rfl, rfl, J⟩ := I
  obtain ⟨hE, hN, hVE, hVS, hiu, htk, U, H⟩ := J
  unfold wpX_number
  rcases cv_6 (v := v1) with h | ⟨j, hj, rfl⟩
  · refine xv_noV h (br_t rfl ?_)
    unfold wpY_number
    refine yv_noV h (br_t rfl ⟨rfl, hR⟩)
  · have hi : vp_in (nI j) 6 := vp_in_nI hj (by decide)
    have hc : (nI j).toNatClampNeg = j := nI_clamp (by omega)
    have ok := H.2.2 j hj
    refine xv_isV ⟨j, hj, rfl⟩ (br_f (by decide) ⟨hi, ?_⟩)
    rw [hc]
    refine xv_seen ok ?_
    unfold wpY_number
    refine yv_isV ⟨j, hj, rfl⟩ (br_f (by decide) ⟨hi, ?_⟩)
    rw [hc]
    refine tm_kind ok (fun e e2 => ?_) (fun e => ?_) (fun p e hp en hU => ?_)
    · refine br_t e ⟨?_, hR⟩
      rw [if_neg (by rw [e]; decide), e2]
    · refine br_f (by rw [e]; decide) ⟨hi, br_t e ⟨hi, ?_, hR⟩⟩
      rw [if_neg (by rw [e]; decide)]
    · refine br_f (by rw [e]; decide) ⟨hi, br_f (by rw [e]; decide) ⟨hi, ?_, ?_, hR⟩⟩
      · rw [en]; exact vp_in_nI (by omega) (by decide)
      · rw [if_pos e, en, nI_clamp (by omega)]
        exact (H.1 p hU).2.1
theorem i_vc_entrySort {k : Nat} {u : SX} {v : SY} (I : i_Rel k u v) (hk : k + 5 ≤ 2560) (v1 : Int32) (v2 : Int32) : wpX_entrySort (fun r => wpY_entrySort (fun r' => r' = r ∧ i_Rel (k + 5) u v) v v1 v2) u v1 v2 := by
  have hR := i_up I
  obtain ⟨E, N, oL, fC, oC, wt, cK, cO, cR, rg, oP, oX, oY, oZ, lS, lT, lL, iu, sz, ke, fd, ou, dp, tp, fl, lo, kd, ex, ey, vs, vn, zy, es, eu, tk, sn, wk, sg, so, nu, la, tu, lz, rfl, rfl, J⟩ := I
  obtain ⟨hE, hN, hVE, hVS, hiu, htk, U, H⟩ := J
  unfold wpX_entrySort
  rcases cv_6 (v := v1) with h | ⟨j, hj, rfl⟩
  · refine xv_noV h (br_t rfl ?_)
    unfold wpY_entrySort
    refine yv_noV h (br_t rfl ⟨rfl, hR⟩)
  · have hi : vp_in (nI j) 6 := vp_in_nI hj (by decide)
    have hc : (nI j).toNatClampNeg = j := nI_clamp (by omega)
    have ok := H.2.2 j hj
    refine xv_isV ⟨j, hj, rfl⟩ (br_f (by decide) ⟨hi, ?_⟩)
    rw [hc]
    by_cases e2 : vs j = 2
    · refine tm_kind ok (fun e _ => absurd (e.symm.trans e2) (by decide)) (fun e => absurd (e.symm.trans e2) (by decide)) (fun p e hp en hU => ?_)
      refine xv_tabT (cv_ok_s ok) e ?_
      refine br_f (by decide) ⟨hi, ?_⟩
      refine xv_num (cv_ok_s ok) ?_
      rw [en]
      obtain ⟨r, s, n, ok2, a, b, c⟩ := fe_entry (ke := ke) H v2 hU
      refine a _ ?_
      refine xv_srt (cv_ok_s ok2) ?_
      unfold wpY_entrySort
      refine yv_isV ⟨j, hj, rfl⟩ (br_f (by decide) ⟨hi, ?_⟩)
      rw [hc, en]
      refine br_t e ⟨hi, b _ ?_⟩
      rcases c with ⟨rfl, rfl, rfl⟩ | ⟨q, hq, rfl, rfl, rfl⟩
      · exact br_f (by decide) ⟨rfl, hR⟩
      · refine br_t (nI_pos' (by omega)) ⟨vp_in_nI (by omega) (by decide), ?_, hR⟩
        rw [nI_clamp (by omega)]
    · refine xv_tabF (cv_ok_s ok) e2 ?_
      refine br_t rfl ?_
      unfold wpY_entrySort
      refine yv_isV ⟨j, hj, rfl⟩ (br_f (by decide) ⟨hi, ?_⟩)
      rw [hc]
      exact br_f e2 ⟨rfl, hR⟩
theorem i_vc_entryNumber {k : Nat} {u : SX} {v : SY} (I : i_Rel k u v) (hk : k + 5 ≤ 2560) (v1 : Int32) (v2 : Int32) : wpX_entryNumber (fun r => wpY_entryNumber (fun r' => r' = r ∧ i_Rel (k + 5) u v) v v1 v2) u v1 v2 := by
  have hR := i_up I
  obtain ⟨E, N, oL, fC, oC, wt, cK, cO, cR, rg, oP, oX, oY, oZ, lS, lT, lL, iu, sz, ke, fd, ou, dp, tp, fl, lo, kd, ex, ey, vs, vn, zy, es, eu, tk, sn, wk, sg, so, nu, la, tu, lz, rfl, rfl, J⟩ := I
  obtain ⟨hE, hN, hVE, hVS, hiu, htk, U, H⟩ := J
  unfold wpX_entryNumber
  rcases cv_6 (v := v1) with h | ⟨j, hj, rfl⟩
  · refine xv_noV h (br_t rfl ?_)
    unfold wpY_entryNumber
    refine yv_noV h (br_t rfl ⟨rfl, hR⟩)
  · have hi : vp_in (nI j) 6 := vp_in_nI hj (by decide)
    have hc : (nI j).toNatClampNeg = j := nI_clamp (by omega)
    have ok := H.2.2 j hj
    refine xv_isV ⟨j, hj, rfl⟩ (br_f (by decide) ⟨hi, ?_⟩)
    rw [hc]
    by_cases e2 : vs j = 2
    · refine tm_kind ok (fun e _ => absurd (e.symm.trans e2) (by decide)) (fun e => absurd (e.symm.trans e2) (by decide)) (fun p e hp en hU => ?_)
      refine xv_tabT (cv_ok_s ok) e ?_
      refine br_f (by decide) ⟨hi, ?_⟩
      refine xv_num (cv_ok_s ok) ?_
      rw [en]
      obtain ⟨r, s, n, ok2, a, b, c⟩ := fe_entry (ke := ke) H v2 hU
      refine a _ ?_
      refine xv_seen ok2 ?_
      unfold wpY_entryNumber
      refine yv_isV ⟨j, hj, rfl⟩ (br_f (by decide) ⟨hi, ?_⟩)
      rw [hc, en]
      refine br_t e ⟨hi, b _ ?_⟩
      rcases c with ⟨rfl, rfl, rfl⟩ | ⟨q, hq, rfl, rfl, rfl⟩
      · exact br_f (by decide) ⟨rfl, hR⟩
      · have hq2 : vp_in (nI q) 144 := vp_in_nI (by omega) (by decide)
        refine br_t (nI_pos' (by omega)) ⟨hq2, ?_⟩
        rw [nI_clamp (by omega)]
        by_cases e3 : es q = 2
        · refine tm_kind ok2 (fun e _ => absurd (e.symm.trans e3) (by decide)) (fun e => absurd (e.symm.trans e3) (by decide)) (fun p' e' hp' en' hU' => ?_)
          refine br_t e3 ⟨hq2, ?_, ?_, hR⟩
          · rw [en']; exact vp_in_nI (by omega) (by decide)
          · rw [if_pos e3, en', nI_clamp (by omega)]
            exact (H.1 p' hU').2.1
        · refine br_f e3 ⟨hq2, ?_, hR⟩
          rw [if_neg e3]
    · refine xv_tabF (cv_ok_s ok) e2 ?_
      refine br_t rfl ?_
      unfold wpY_entryNumber
      refine yv_isV ⟨j, hj, rfl⟩ (br_f (by decide) ⟨hi, ?_⟩)
      rw [hc]
      exact br_f e2 ⟨rfl, hR⟩
theorem i_vc_same {k : Nat} {u : SX} {v : SY} (I : i_Rel k u v) (hk : k + 5 ≤ 2560) (v1 : Int32) (v2 : Int32) : wpX_same (fun r => wpY_same (fun r' => r' = r ∧ i_Rel (k + 5) u v) v v1 v2) u v1 v2 := by
  have hR := i_up I
  obtain ⟨E, N, oL, fC, oC, wt, cK, cO, cR, rg, oP, oX, oY, oZ, lS, lT, lL, iu, sz, ke, fd, ou, dp, tp, fl, lo, kd, ex, ey, vs, vn, zy, es, eu, tk, sn, wk, sg, so, nu, la, tu, lz, rfl, rfl, J⟩ := I
  obtain ⟨hE, hN, hVE, hVS, hiu, htk, U, H⟩ := J
  unfold wpX_same
  rcases cv_6 (v := v1) with h | ⟨j, hj, rfl⟩
  · refine xv_noV h (br_t rfl ?_)
    unfold wpY_same
    refine yv_noV h (br_t rfl ⟨rfl, hR⟩)
  · refine xv_isV ⟨j, hj, rfl⟩ (br_f (by decide) ?_)
    rcases cv_6 (v := v2) with h | ⟨i, hi, rfl⟩
    · refine xv_noV h (br_t rfl ?_)
      unfold wpY_same
      refine yv_isV ⟨j, hj, rfl⟩ (br_f (by decide) ?_)
      refine yv_noV h (br_t rfl ⟨rfl, hR⟩)
    · have hj2 : vp_in (nI j) 6 := vp_in_nI hj (by decide)
      have hi2 : vp_in (nI i) 6 := vp_in_nI hi (by decide)
      refine xv_isV ⟨i, hi, rfl⟩ (br_f (by decide) ⟨hj2, hi2, ?_⟩)
      rw [show (nI j).toNatClampNeg = j from nI_clamp (by omega), show (nI i).toNatClampNeg = i from nI_clamp (by omega)]
      have e := cv_inj (cv_ok_s (H.2.2 j hj)) (cv_ok_s (H.2.2 i hi))
      have fin : ∀ r : Int32, (r = 1 ↔ (vs j = vs i ∧ vn j = vn i)) → (r = 0 ∨ r = 1) → wpY_same (fun r' => r' = r ∧ i_Rel (k + 5) (nI E, nI N, oL, fC, oC, wt, cK, cO, cR, rg, oP, oX, oY, oZ, lS, lT, lL, cv_f vs vn, iu, sz, ke, cv_f es eu, fd, ou) (nI E, nI N, oC, dp, tp, fl, lo, kd, ex, ey, wt, oP, oX, oY, oZ, vs, vn, zy, ke, es, eu, tk, sn, ou, wk, sg, so, nu, la, tu, lz)) (nI E, nI N, oC, dp, tp, fl, lo, kd, ex, ey, wt, oP, oX, oY, oZ, vs, vn, zy, ke, es, eu, tk, sn, ou, wk, sg, so, nu, la, tu, lz) (nI j) (nI i) := by
        intro r hr hr2
        unfold wpY_same
        refine yv_isV ⟨j, hj, rfl⟩ (br_f (by decide) ?_)
        refine yv_isV ⟨i, hi, rfl⟩ (br_f (by decide) ⟨hj2, hi2, ?_⟩)
        rw [show (nI j).toNatClampNeg = j from nI_clamp (by omega), show (nI i).toNatClampNeg = i from nI_clamp (by omega)]
        have n0 : ¬ (vs j = vs i ∧ vn j = vn i) → (0 : Int32) = r := fun z => by
          rcases hr2 with rfl | rfl
          · rfl
          · exact absurd (hr.mp rfl) z
        refine br_c (fun q1 => ⟨hj2, br_c (fun q2 => ⟨?_, hR⟩) (fun q2 => ⟨hj2, hi2, br_c (fun q3 => ⟨(hr.mpr ⟨q1, q3⟩).symm, hR⟩) (fun q3 => ⟨n0 (fun z => q3 z.2), hR⟩)⟩)⟩) (fun q1 => ⟨n0 (fun z => q1 z.1), hR⟩)
        refine (hr.mpr ⟨q1, ?_⟩).symm
        have a1 : vn j = 0 := tm_kind (H.2.2 j hj) (fun _ e => e) (fun e => absurd (e.symm.trans q2) (by decide)) (fun p e _ _ _ => absurd (e.symm.trans q2) (by decide))
        have a2 : vn i = 0 := tm_kind (H.2.2 i hi) (fun _ e => e) (fun e => absurd (e.symm.trans (q1.symm.trans q2)) (by decide)) (fun p e _ _ _ => absurd (e.symm.trans (q1.symm.trans q2)) (by decide))
        rw [a1, a2]
      refine br_c (fun q => ?_) (fun q => ?_)
      · exact fin 1 ⟨fun _ => e.mp q, fun _ => rfl⟩ (Or.inr rfl)
      · exact fin 0 ⟨fun z => absurd z (by decide), fun z => absurd (e.mpr z) q⟩ (Or.inl rfl)
theorem i_vc_shown {k : Nat} {u : SX} {v : SY} (I : i_Rel k u v) (hk : k + 5 ≤ 2560) : wpX_shown (fun r => wpY_shown (fun r' => r' = r ∧ i_Rel (k + 5) u v) v) u := by
  have hR := i_up I
  obtain ⟨E, N, oL, fC, oC, wt, cK, cO, cR, rg, oP, oX, oY, oZ, lS, lT, lL, iu, sz, ke, fd, ou, dp, tp, fl, lo, kd, ex, ey, vs, vn, zy, es, eu, tk, sn, wk, sg, so, nu, la, tu, lz, rfl, rfl, J⟩ := I
  exact ⟨rfl, hR⟩
theorem i_vc_output {k : Nat} {u : SX} {v : SY} (I : i_Rel k u v) (hk : k + 5 ≤ 2560) (v1 : Int32) : wpX_output (fun r => wpY_output (fun r' => r' = r ∧ i_Rel (k + 5) u v) v v1) u v1 := by
  have hR := i_up I
  obtain ⟨E, N, oL, fC, oC, wt, cK, cO, cR, rg, oP, oX, oY, oZ, lS, lT, lL, iu, sz, ke, fd, ou, dp, tp, fl, lo, kd, ex, ey, vs, vn, zy, es, eu, tk, sn, wk, sg, so, nu, la, tu, lz, rfl, rfl, J⟩ := I
  unfold wpX_output wpY_output
  by_cases h0 : v1 < 0
  · exact br_t h0 (br_t h0 ⟨rfl, hR⟩)
  · obtain ⟨j, hj, rfl⟩ := nI_of h0
    by_cases h1 : oC ≤ nI j
    · exact br_f h0 (br_t h1 (br_f h0 (br_t h1 ⟨rfl, hR⟩)))
    · by_cases h2 : j < 30
      · have hi : vp_in (nI j) 30 := vp_in_nI h2 (by decide)
        exact br_f h0 (br_f h1 (br_f (nI_ge (b := 30) h2 (by decide)) ⟨hi, br_f h0 (br_f h1 (br_f (nI_nlt (a := 29) (b := j) (by omega) (by decide)) ⟨hi, rfl, hR⟩))⟩))
      · exact br_f h0 (br_f h1 (br_t (nI_le (a := 30) (by omega) hj) (br_f h0 (br_f h1 (br_t (nI_lt (a := 29) (by omega) hj) ⟨rfl, hR⟩)))))
theorem i_vc_retract {k : Nat} {u : SX} {v : SY} (I : i_Rel k u v) (hk : k + 5 ≤ 2560) : wpX_retract (fun r u' => wpY_retract (fun r' v' => r' = r ∧ i_Rel (k + 5) u' v') v) u := by
  have hR := i_up I
  obtain ⟨E, N, oL, fC, oC, wt, cK, cO, cR, rg, oP, oX, oY, oZ, lS, lT, lL, iu, sz, ke, fd, ou, dp, tp, fl, lo, kd, ex, ey, vs, vn, zy, es, eu, tk, sn, wk, sg, so, nu, la, tu, lz, rfl, rfl, J⟩ := I
  obtain ⟨hE, hN, hVE, hVS, hiu, htk, U, H⟩ := J
  unfold wpX_retract wpY_retract
  by_cases h0 : N = 0
  · subst h0
    exact br_t rfl (br_t rfl ⟨rfl, hR⟩)
  · obtain ⟨M, rfl⟩ : ∃ M, N = M + 1 := ⟨N - 1, by omega⟩
    have h1 : ¬ nI (M + 1) = 0 := nI_ne0 (by omega) (by omega)
    refine br_f h1 (nm_r (nI_pred M) (br_f h1 (nm_r (nI_pred M) ⟨rfl, ?_⟩)))
    exact ⟨E, M, oL, fC, oC, wt, cK, cO, cR, rg, oP, oX, oY, oZ, lS, lT, lL, iu, sz, ke, fd, ou, dp, tp, fl, lo, kd, ex, ey, vs, vn, zy, es, eu, tk, sn, wk, sg, so, nu, la, tu, lz, rfl, rfl, hE, by omega, hVE, fun s hs => hVS s (by omega), hiu, htk, U, H⟩
