/-! expressions: the register code and the tree walk come to one outcome -/
def ev_M (vs vn es eu g z1 z2 g' z1' z2' : Nat → Int32) (w : Nat) : Prop :=
  tm_HO g' z1' z2' vs vn es eu ∧ (∀ t, 20 ≤ t → g' t = 0) ∧ (∀ t, ¬ g t = 0 → ¬ g' t = 0 ∧ z1' t = z1 t ∧ z2' t = z2 t) ∧ 2 * cn_c g' 20 ≤ 2 * cn_c g 20 + w + 1
def ev_X (eN sN oL fC oC : Int32) (wt cK cO cR oP oX oY oZ lS lT lL : Nat → Int32) (va : Nat → Int64) (ke : Nat → Int32) (en : Nat → Int64) (fd : Nat → Int32) (ou : Nat → Int64) (o : Option (Int32 × Int32)) (a w r : Nat) (iu sz iu' sz' : Nat → Int32) : Prop :=
  ∀ rg : Nat → Int64, ∃ (c : Nat) (rg' : Nat → Int64), 1 ≤ c ∧ c ≤ w ∧ (∀ j, j < r → rg' j = rg j) ∧
    (match o with
      | none => ∀ (post : Int64 → SX → Prop) (En m k : Nat), a + w ≤ En → En ≤ 210 → k + w ≤ 7 → post 3 (eN, sN, oL, fC, oC, wt, cK, cO, cR, rg', oP, oX, oY, oZ, lS, lT, lL, va, iu', sz', ke, en, fd, ou) → wX_workOut_17 post (nI En) (m + c) (nI a) (nI k) eN sN oL fC oC wt cK cO cR rg oP oX oY oZ lS lT lL va iu sz ke en fd ou
      | some v => rg' r = cv_e v.1 v.2 ∧ ∀ (post : Int64 → SX → Prop) (En m k : Nat), a + w ≤ En → En ≤ 210 → k + w ≤ 7 → wX_workOut_17 post (nI En) m (nI (a + w)) (nI (k + c)) eN sN oL fC oC wt cK cO cR rg' oP oX oY oZ lS lT lL va iu' sz' ke en fd ou → wX_workOut_17 post (nI En) (m + c) (nI a) (nI k) eN sN oL fC oC wt cK cO cR rg oP oX oY oZ lS lT lL va iu sz ke en fd ou)
def ev_Y (yE yN yC lo : Int32) (kd ex ey yW yP yX yY yZ vs vn yK es eu sn : Nat → Int32) (yO : Nat → Int64) (la tu lz : Nat → Int32) (o : Option (Int32 × Int32)) (e w d t : Nat) (zy tk zy' tk' : Nat → Int32) : Prop :=
  ∀ wk sg so nu : Nat → Int32, wk d = nI e → sg d = 0 → ∃ (c : Nat) (wk' sg' so' nu' : Nat → Int32), 1 ≤ c ∧ c ≤ 3 * w ∧ (∀ j, j < d → wk' j = wk j ∧ sg' j = sg j) ∧ (∀ j, j < t → so' j = so j ∧ nu' j = nu j) ∧
    (match o with
      | none => ∃ dp' tp' : Int32, ∀ (post : SY → Prop) (m k : Nat), k + 3 * w ≤ 21 → post (yE, yN, yC, dp', tp', 1, lo, kd, ex, ey, yW, yP, yX, yY, yZ, vs, vn, zy', yK, es, eu, tk', sn, yO, wk', sg', so', nu', la, tu, lz) → wY_work_12 post (m + c + 1) (nI k) yE yN yC (nI (d + 1)) (nI t) 0 lo kd ex ey yW yP yX yY yZ vs vn zy yK es eu tk sn yO wk sg so nu la tu lz
      | some v => so' t = v.1 ∧ nu' t = v.2 ∧ ∀ (post : SY → Prop) (m k : Nat), k + 3 * w ≤ 21 → wY_work_12 post m (nI (k + c)) yE yN yC (nI d) (nI (t + 1)) 0 lo kd ex ey yW yP yX yY yZ vs vn zy' yK es eu tk' sn yO wk' sg' so' nu' la tu lz → wY_work_12 post (m + c) (nI k) yE yN yC (nI (d + 1)) (nI t) 0 lo kd ex ey yW yP yX yY yZ vs vn zy yK es eu tk sn yO wk sg so nu la tu lz)
section
variable {eN sN oL fC oC : Int32} {wt cK cO cR : Nat → Int32} {rg : Nat → Int64} {oP oX oY oZ lS lT lL : Nat → Int32} {va : Nat → Int64} {iu sz ke : Nat → Int32} {en : Nat → Int64} {fd : Nat → Int32} {ou : Nat → Int64} {yE yN yC dp tp fl lo : Int32} {kd ex ey yW yP yX yY yZ vs vn zy yK es eu tk sn : Nat → Int32} {yO : Nat → Int64} {wk sg so nu la tu lz : Nat → Int32}
theorem eX_leaf {v : Int32 × Int32} {a r : Nat} {kk oo : Int32} {iu' sz' : Nat → Int32} (hr : r < 4) (hK : cK a = kk) (hkk : kk = 0 ∨ kk = 1 ∨ kk = 11) (hO : cO a = oo) (hR : cR a = nI r) (hv : cv_s v.1 v.2)
    (hf : ∀ (rg : Nat → Int64) (P : Int64 → SX → Prop), P (cv_e v.1 v.2) (eN, sN, oL, fC, oC, wt, cK, cO, cR, rg, oP, oX, oY, oZ, lS, lT, lL, va, iu', sz', ke, en, fd, ou) → wpX_fetch P (eN, sN, oL, fC, oC, wt, cK, cO, cR, rg, oP, oX, oY, oZ, lS, lT, lL, va, iu, sz, ke, en, fd, ou) kk oo) : ev_X eN sN oL fC oC wt cK cO cR oP oX oY oZ lS lT lL va ke en fd ou (some v) a 1 r iu sz iu' sz' := by
  intro rg
  refine ⟨1, vp_updL rg r (cv_e v.1 v.2), by omega, by omega, fun j hj => pk_uLn (by omega), pk_uLs, fun post En m k h1 h2 h3 hp => ?_⟩
  refine xs_leaf (by omega) h2 (by omega) hr hK hkk hO hR (hf rg) (x205_ok (s := 0) hr ?_ hp)
  rw [pk_uLs]; exact cv_ne3 hv
theorem eX_none {a w wx r : Nat} {iu' sz' : Nat → Int32} (hw : wx ≤ w) (h1 : ev_X eN sN oL fC oC wt cK cO cR oP oX oY oZ lS lT lL va ke en fd ou none a wx r iu sz iu' sz') : ev_X eN sN oL fC oC wt cK cO cR oP oX oY oZ lS lT lL va ke en fd ou none a w r iu sz iu' sz' := by
  intro rg
  obtain ⟨c, rg', c1, c2, hlo, h⟩ := h1 rg
  exact ⟨c, rg', c1, by omega, hlo, fun post En m k h1 h2 h3 hp => h post En m k (by omega) h2 (by omega) hp⟩
theorem eX_one {o : Option (Int32 × Int32)} {v : Int32 × Int32} {a wx r : Nat} {kk : Int32} {iu1 sz1 : Nat → Int32} (h1 : ev_X eN sN oL fC oC wt cK cO cR oP oX oY oZ lS lT lL va ke en fd ou (some v) a wx r iu sz iu1 sz1) (hr : r < 4) (hK : cK (a + wx) = kk) (hkk : kk = 9 ∨ kk = 12) (hR : cR (a + wx) = nI r) (ho : ∀ u, o = some u → cv_s u.1 u.2)
    (hf : ∀ (rg : Nat → Int64) (P : Int64 → Prop), P (ev_o o) → wpX_ofOne P (eN, sN, oL, fC, oC, wt, cK, cO, cR, rg, oP, oX, oY, oZ, lS, lT, lL, va, iu1, sz1, ke, en, fd, ou) kk (cv_e v.1 v.2)) : ev_X eN sN oL fC oC wt cK cO cR oP oX oY oZ lS lT lL va ke en fd ou o a (wx + 1) r iu sz iu1 sz1 := by
  intro rg
  obtain ⟨c, rg', c1, c2, hlo, hv, h⟩ := h1 rg
  have hf' : ∀ P : Int64 → Prop, P (ev_o o) → wpX_ofOne P (eN, sN, oL, fC, oC, wt, cK, cO, cR, rg', oP, oX, oY, oZ, lS, lT, lL, va, iu1, sz1, ke, en, fd, ou) kk (rg' r) := by rw [hv]; exact hf rg'
  refine ⟨c + 1, vp_updL rg' r (ev_o o), by omega, by omega, fun j hj => by rw [pk_uLn (by omega)]; exact hlo j hj, ?_⟩
  cases o with
  | none =>
    intro post En m k h1 h2 h3 hp
    rw [show m + (c + 1) = (m + 1) + c by omega]
    exact h post En (m + 1) k (by omega) h2 (by omega) (xs_one (by omega) h2 (by omega) hr hK hkk hR hf' (x205_no hr pk_uLs hp))
  | some u =>
    refine ⟨pk_uLs, fun post En m k h1 h2 h3 hp => ?_⟩
    rw [show m + (c + 1) = (m + 1) + c by omega]
    refine h post En (m + 1) k (by omega) h2 (by omega) (xs_one (by omega) h2 (by omega) hr hK hkk hR hf' (x205_ok (s := 0) hr ?_ hp))
    rw [pk_uLs]; exact cv_ne3 (ho u rfl)
theorem eX_two {o : Option (Int32 × Int32)} {v v2 : Int32 × Int32} {a wx wy r : Nat} {kk : Int32} {iu1 sz1 iu2 sz2 : Nat → Int32} (h1 : ev_X eN sN oL fC oC wt cK cO cR oP oX oY oZ lS lT lL va ke en fd ou (some v) a wx r iu sz iu1 sz1) (h2 : ev_X eN sN oL fC oC wt cK cO cR oP oX oY oZ lS lT lL va ke en fd ou (some v2) (a + wx) wy (r + 1) iu1 sz1 iu2 sz2) (hr : r + 1 < 4) (hK : cK (a + wx + wy) = kk) (hkk : tm_k2 kk) (hR : cR (a + wx + wy) = nI r) (ho : ∀ u, o = some u → cv_s u.1 u.2)
    (hf : ∀ (rg : Nat → Int64) (P : Int64 → Prop), P (ev_o o) → wpX_ofTwo P (eN, sN, oL, fC, oC, wt, cK, cO, cR, rg, oP, oX, oY, oZ, lS, lT, lL, va, iu2, sz2, ke, en, fd, ou) kk (cv_e v.1 v.2) (cv_e v2.1 v2.2)) : ev_X eN sN oL fC oC wt cK cO cR oP oX oY oZ lS lT lL va ke en fd ou o a (wx + wy + 1) r iu sz iu2 sz2 := by
  intro rg
  obtain ⟨c, rg1, c1, c2, hlo, hv, h⟩ := h1 rg
  obtain ⟨c', rg2, c1', c2', hlo', hv', h'⟩ := h2 rg1
  have hvr : rg2 r = cv_e v.1 v.2 := by rw [hlo' r (by omega), hv]
  have hf' : ∀ P : Int64 → Prop, P (ev_o o) → wpX_ofTwo P (eN, sN, oL, fC, oC, wt, cK, cO, cR, rg2, oP, oX, oY, oZ, lS, lT, lL, va, iu2, sz2, ke, en, fd, ou) kk (rg2 r) (rg2 (r + 1)) := by rw [hvr, hv']; exact hf rg2
  refine ⟨c + c' + 1, vp_updL rg2 r (ev_o o), by omega, by omega, fun j hj => by rw [pk_uLn (by omega), hlo' j (by omega)]; exact hlo j hj, ?_⟩
  cases o with
  | none =>
    intro post En m k h1 h2 h3 hp
    rw [show m + (c + c' + 1) = (m + 1 + c') + c by omega]
    exact h post En _ k (by omega) h2 (by omega) (h' post En (m + 1) (k + c) (by omega) h2 (by omega) (xs_two (by omega) h2 (by omega) hr hK hkk hR hf' (x205_no (by omega) pk_uLs hp)))
  | some u =>
    refine ⟨pk_uLs, fun post En m k h1 h2 h3 hp => ?_⟩
    rw [show m + (c + c' + 1) = (m + 1 + c') + c by omega]
    refine h post En _ k (by omega) h2 (by omega) (h' post En (m + 1) (k + c) (by omega) h2 (by omega) (xs_two (by omega) h2 (by omega) hr hK hkk hR hf' (x205_ok (s := 0) (by omega) ?_ ?_)))
    · rw [pk_uLs]; exact cv_ne3 (ho u rfl)
    · rw [show a + (wx + wy + 1) = a + wx + wy + (1 + 0) by omega, show k + (c + c' + 1) = k + c + c' + 1 by omega] at hp
      exact hp
theorem eX_two_n {v : Int32 × Int32} {a w wx wy r : Nat} {iu1 sz1 iu2 sz2 : Nat → Int32} (hw : wx + wy ≤ w) (h1 : ev_X eN sN oL fC oC wt cK cO cR oP oX oY oZ lS lT lL va ke en fd ou (some v) a wx r iu sz iu1 sz1) (h2 : ev_X eN sN oL fC oC wt cK cO cR oP oX oY oZ lS lT lL va ke en fd ou none (a + wx) wy (r + 1) iu1 sz1 iu2 sz2) : ev_X eN sN oL fC oC wt cK cO cR oP oX oY oZ lS lT lL va ke en fd ou none a w r iu sz iu2 sz2 := by
  intro rg
  obtain ⟨c, rg1, c1, c2, hlo, hv, h⟩ := h1 rg
  obtain ⟨c', rg2, c1', c2', hlo', h'⟩ := h2 rg1
  refine ⟨c + c', rg2, by omega, by omega, fun j hj => by rw [hlo' j (by omega)]; exact hlo j hj, fun post En m k h1 h2 h3 hp => ?_⟩
  rw [show m + (c + c') = (m + c') + c by omega]
  exact h post En _ k (by omega) h2 (by omega) (h' post En m (k + c) (by omega) h2 (by omega) hp)
theorem eX_keep {v : Int32 × Int32} {a wx wy r : Nat} {kk : Int32} {iu1 sz1 : Nat → Int32} (h1 : ev_X eN sN oL fC oC wt cK cO cR oP oX oY oZ lS lT lL va ke en fd ou (some v) a wx r iu sz iu1 sz1) (hr : r < 4) (hK : cK (a + wx) = kk) (hO : cO (a + wx) = nI wy) (hR : cR (a + wx) = nI r) (hv : cv_s v.1 v.2) (hk : (kk = 7 ∧ v.1 = 0) ∨ (kk = 8 ∧ ¬ v.1 = 0)) : ev_X eN sN oL fC oC wt cK cO cR oP oX oY oZ lS lT lL va ke en fd ou (some v) a (wx + 1 + wy) r iu sz iu1 sz1 := by
  intro rg
  obtain ⟨c, rg1, c1, c2, hlo, hv1, h⟩ := h1 rg
  refine ⟨c + 1, rg1, by omega, by omega, hlo, hv1, fun post En m k h1 h2 h3 hp => ?_⟩
  rw [show m + (c + 1) = (m + 1) + c by omega]
  refine h post En (m + 1) k (by omega) h2 (by omega) (xs_ch (s := wy) (by omega) h2 (by omega) hr hK hR (Or.inl ⟨hO, ?_⟩) (x205_ok hr ?_ ?_))
  · rw [hv1, cv_0 hv]; exact hk
  · rw [hv1]; exact cv_ne3 hv
  · rw [show a + (wx + 1 + wy) = a + wx + (1 + wy) by omega] at hp
    exact hp
theorem eX_go {o : Option (Int32 × Int32)} {v : Int32 × Int32} {a wx wy r : Nat} {kk : Int32} {iu1 sz1 iu2 sz2 : Nat → Int32} (h1 : ev_X eN sN oL fC oC wt cK cO cR oP oX oY oZ lS lT lL va ke en fd ou (some v) a wx r iu sz iu1 sz1) (h2 : ev_X eN sN oL fC oC wt cK cO cR oP oX oY oZ lS lT lL va ke en fd ou o (a + wx + 1) wy r iu1 sz1 iu2 sz2) (hr : r < 4) (hK : cK (a + wx) = kk) (hR : cR (a + wx) = nI r) (hv : cv_s v.1 v.2) (hk : (kk = 7 ∧ ¬ v.1 = 0) ∨ (kk = 8 ∧ v.1 = 0)) : ev_X eN sN oL fC oC wt cK cO cR oP oX oY oZ lS lT lL va ke en fd ou o a (wx + 1 + wy) r iu sz iu2 sz2 := by
  intro rg
  obtain ⟨c, rg1, c1, c2, hlo, hv1, h⟩ := h1 rg
  obtain ⟨c', rg2, c1', c2', hlo', h'⟩ := h2 rg1
  have hkk : (kk = 7 ∧ ¬ rg1 r = 0) ∨ (kk = 8 ∧ rg1 r = 0) := by rw [hv1, cv_0 hv]; exact hk
  have h3r : ¬ rg1 r = 3 := by rw [hv1]; exact cv_ne3 hv
  refine ⟨c + 1 + c', rg2, by omega, by omega, fun j hj => by rw [hlo' j hj]; exact hlo j hj, ?_⟩
  cases o with
  | none =>
    intro post En m k h1 h2 h3 hp
    rw [show m + (c + 1 + c') = (m + c' + 1) + c by omega]
    exact h post En _ k (by omega) h2 (by omega) (xs_ch (s := 0) (by omega) h2 (by omega) hr hK hR (Or.inr ⟨rfl, hkk⟩) (x205_ok hr h3r (h' post En m (k + c + 1) (by omega) h2 (by omega) hp)))
  | some u =>
    refine ⟨h'.1, fun post En m k h1 h2 h3 hp => ?_⟩
    rw [show m + (c + 1 + c') = (m + c' + 1) + c by omega]
    refine h post En _ k (by omega) h2 (by omega) (xs_ch (s := 0) (by omega) h2 (by omega) hr hK hR (Or.inr ⟨rfl, hkk⟩) (x205_ok hr h3r (h'.2 post En m (k + c + 1) (by omega) h2 (by omega) ?_)))
    rw [show a + (wx + 1 + wy) = a + wx + 1 + wy by omega, show k + (c + 1 + c') = k + c + 1 + c' by omega] at hp
    exact hp
/-! the tree walk -/
theorem eY_leaf {v : Int32 × Int32} {e d t : Nat} {zy' tk' : Nat → Int32} (hd : d < 8) (he : e < 30) (hk : kd e = 0 ∨ kd e = 1 ∨ kd e = 11)
    (hf : ∀ (wk sg so nu : Nat → Int32) (P : SY → Prop), P (yE, yN, yC, nI d, nI (t + 1), 0, lo, kd, ex, ey, yW, yP, yX, yY, yZ, vs, vn, zy', yK, es, eu, tk', sn, yO, wk, sg, upd so t v.1, upd nu t v.2, la, tu, lz) → wpY_leaf P (yE, yN, yC, nI (d + 1), nI t, 0, lo, kd, ex, ey, yW, yP, yX, yY, yZ, vs, vn, zy, yK, es, eu, tk, sn, yO, wk, sg, so, nu, la, tu, lz) (nI e)) : ev_Y yE yN yC lo kd ex ey yW yP yX yY yZ vs vn yK es eu sn yO la tu lz (some v) e 1 d t zy tk zy' tk' := by
  intro wk sg so nu hwk hsg
  refine ⟨1, wk, upd sg d 1, upd so t v.1, upd nu t v.2, by omega, by omega, fun j hj => ⟨rfl, pk_un (by omega)⟩, fun j hj => ⟨pk_un (by omega), pk_un (by omega)⟩, pk_us, pk_us, fun post m k hk3 hp => ?_⟩
  exact yw_step (by omega) hd (fun P hP => ys_leaf hd he hwk hsg hk (hf wk (upd sg d 1) so nu P hP)) hp
theorem eY_lo {d : Nat} {wk sg wk1 sg1 : Nat → Int32} {x y z : Int32} (hlo : ∀ j, j < d + 1 → wk1 j = upd wk (d + 1) x j ∧ sg1 j = upd (upd sg d y) (d + 1) z j) : (∀ j, j < d → wk1 j = wk j ∧ sg1 j = sg j) ∧ wk1 d = wk d ∧ sg1 d = y := by
  refine ⟨fun j hj => ?_, ?_, ?_⟩
  · have := hlo j (by omega)
    rw [pk_un (by omega), pk_un (by omega), pk_un (by omega)] at this
    exact this
  · rw [(hlo d (by omega)).1, pk_un (by omega)]
  · rw [(hlo d (by omega)).2, pk_un (by omega), pk_us]
theorem eY_none {e w wx x d t : Nat} {zy' tk' : Nat → Int32} (hw : wx + 1 ≤ w) (hd : d + 1 < 8) (he : e < 30) (hk : (kd e = 9 ∨ kd e = 12) ∨ (kd e = 7 ∨ kd e = 8 ∨ tm_k2 (kd e))) (hx : ex e = nI x) (h1 : ev_Y yE yN yC lo kd ex ey yW yP yX yY yZ vs vn yK es eu sn yO la tu lz none x wx (d + 1) t zy tk zy' tk') : ev_Y yE yN yC lo kd ex ey yW yP yX yY yZ vs vn yK es eu sn yO la tu lz none e w d t zy tk zy' tk' := by
  intro wk sg so nu hwk hsg
  obtain ⟨c, wk1, sg1, so1, nu1, c1, c2, hlo, hst, dp', tp', h⟩ := h1 (upd wk (d + 1) (nI x)) (upd (upd sg d 1) (d + 1) 0) so nu pk_us pk_us
  refine ⟨c + 1, wk1, sg1, so1, nu1, by omega, by omega, (eY_lo hlo).1, hst, dp', tp', fun post m k hk3 hp => ?_⟩
  rw [show m + (c + 1) + 1 = (m + c + 1) + 1 by omega]
  refine yw_step (by omega) (by omega) (fun P hP => ys_first hd he hwk hsg hk (by rw [hx]; exact hP)) ?_
  exact h post m (k + 1) (by omega) hp
theorem eY_one {o : Option (Int32 × Int32)} {v : Int32 × Int32} {e wx x d t : Nat} {zy1 tk1 : Nat → Int32} (hd : d + 1 < 8) (he : e < 30) (hk : kd e = 9 ∨ kd e = 12) (hx : ex e = nI x) (h1 : ev_Y yE yN yC lo kd ex ey yW yP yX yY yZ vs vn yK es eu sn yO la tu lz (some v) x wx (d + 1) t zy tk zy1 tk1)
    (hf : ∀ (wk sg so nu : Nat → Int32), so t = v.1 → nu t = v.2 → (match o with
      | none => ∀ post : SY → Prop, post (yE, yN, yC, nI d, nI t, 1, lo, kd, ex, ey, yW, yP, yX, yY, yZ, vs, vn, zy1, yK, es, eu, tk1, sn, yO, wk, sg, so, nu, la, tu, lz) → wpY_one post (yE, yN, yC, nI (d + 1), nI (t + 1), 0, lo, kd, ex, ey, yW, yP, yX, yY, yZ, vs, vn, zy1, yK, es, eu, tk1, sn, yO, wk, sg, so, nu, la, tu, lz) (nI e)
      | some v => ∀ post : SY → Prop, post (yE, yN, yC, nI d, nI (t + 1), 0, lo, kd, ex, ey, yW, yP, yX, yY, yZ, vs, vn, zy1, yK, es, eu, tk1, sn, yO, wk, sg, upd so t v.1, upd nu t v.2, la, tu, lz) → wpY_one post (yE, yN, yC, nI (d + 1), nI (t + 1), 0, lo, kd, ex, ey, yW, yP, yX, yY, yZ, vs, vn, zy1, yK, es, eu, tk1, sn, yO, wk, sg, so, nu, la, tu, lz) (nI e))) : ev_Y yE yN yC lo kd ex ey yW yP yX yY yZ vs vn yK es eu sn yO la tu lz o e (wx + 1) d t zy tk zy1 tk1 := by
  intro wk sg so nu hwk hsg
  obtain ⟨c, wk1, sg1, so1, nu1, c1, c2, hlo, hst, hs, hn, h⟩ := h1 (upd wk (d + 1) (nI x)) (upd (upd sg d 1) (d + 1) 0) so nu pk_us pk_us
  obtain ⟨l1, l2, l3⟩ := eY_lo hlo
  rw [hwk] at l2
  have f := hf wk1 (upd sg1 d 2) so1 nu1 hs hn
  cases o with
  | none =>
    refine ⟨c + 2, wk1, upd sg1 d 2, so1, nu1, by omega, by omega, fun j hj => by rw [pk_un (by omega)]; exact l1 j hj, hst, nI d, nI t, fun post m k hk3 hp => ?_⟩
    rw [show m + (c + 2) + 1 = ((m + 1 + 1) + c) + 1 by omega]
    refine yw_step (by omega) (by omega) (fun P hP => ys_first hd he hwk hsg (Or.inl hk) (by rw [hx]; exact hP)) ?_
    refine h post (m + 1 + 1) (k + 1) (by omega) ?_
    refine yw_step (by omega) (by omega) (fun P hP => ys_one (by omega) he l2 l3 hk (f P hP)) ?_
    exact yw_fail hp
  | some u =>
    refine ⟨c + 2, wk1, upd sg1 d 2, upd so1 t u.1, upd nu1 t u.2, by omega, by omega, fun j hj => by rw [pk_un (by omega)]; exact l1 j hj, fun j hj => by rw [pk_un (by omega), pk_un (by omega)]; exact hst j hj, pk_us, pk_us, fun post m k hk3 hp => ?_⟩
    rw [show m + (c + 2) = ((m + 1) + c) + 1 by omega]
    refine yw_step (by omega) (by omega) (fun P hP => ys_first hd he hwk hsg (Or.inl hk) (by rw [hx]; exact hP)) ?_
    refine h post (m + 1) (k + 1) (by omega) ?_
    refine yw_step (by omega) (by omega) (fun P hP => ys_one (by omega) he l2 l3 hk (f P hP)) ?_
    rw [show k + (c + 2) = k + 1 + c + 1 by omega] at hp
    exact hp
theorem eY_two {o : Option (Int32 × Int32)} {v v2 : Int32 × Int32} {e wx x wy y d t : Nat} {zy1 tk1 zy2 tk2 : Nat → Int32} (hd : d + 1 < 8) (he : e < 30) (hk : tm_k2 (kd e)) (hx : ex e = nI x) (hy : ey e = nI y) (h1 : ev_Y yE yN yC lo kd ex ey yW yP yX yY yZ vs vn yK es eu sn yO la tu lz (some v) x wx (d + 1) t zy tk zy1 tk1) (h2 : ev_Y yE yN yC lo kd ex ey yW yP yX yY yZ vs vn yK es eu sn yO la tu lz (some v2) y wy (d + 1) (t + 1) zy1 tk1 zy2 tk2)
    (hf : ∀ (wk sg so nu : Nat → Int32), so t = v.1 → nu t = v.2 → so (t + 1) = v2.1 → nu (t + 1) = v2.2 → (match o with
      | none => ∀ post : SY → Prop, post (yE, yN, yC, nI d, nI t, 1, lo, kd, ex, ey, yW, yP, yX, yY, yZ, vs, vn, zy2, yK, es, eu, tk2, sn, yO, wk, sg, so, nu, la, tu, lz) → wpY_two post (yE, yN, yC, nI (d + 1), nI (t + 2), 0, lo, kd, ex, ey, yW, yP, yX, yY, yZ, vs, vn, zy2, yK, es, eu, tk2, sn, yO, wk, sg, so, nu, la, tu, lz) (nI e)
      | some v => ∀ post : SY → Prop, post (yE, yN, yC, nI d, nI (t + 1), 0, lo, kd, ex, ey, yW, yP, yX, yY, yZ, vs, vn, zy2, yK, es, eu, tk2, sn, yO, wk, sg, upd so t v.1, upd nu t v.2, la, tu, lz) → wpY_two post (yE, yN, yC, nI (d + 1), nI (t + 2), 0, lo, kd, ex, ey, yW, yP, yX, yY, yZ, vs, vn, zy2, yK, es, eu, tk2, sn, yO, wk, sg, so, nu, la, tu, lz) (nI e))) : ev_Y yE yN yC lo kd ex ey yW yP yX yY yZ vs vn yK es eu sn yO la tu lz o e (wx + wy + 1) d t zy tk zy2 tk2 := by
  intro wk sg so nu hwk hsg
  obtain ⟨c, wk1, sg1, so1, nu1, c1, c2, hlo, hst, hs, hn, h⟩ := h1 (upd wk (d + 1) (nI x)) (upd (upd sg d 1) (d + 1) 0) so nu pk_us pk_us
  obtain ⟨l1, l2, l3⟩ := eY_lo hlo
  rw [hwk] at l2
  obtain ⟨c', wk2, sg2, so2, nu2, c1', c2', hlo', hst', hs', hn', h'⟩ := h2 (upd wk1 (d + 1) (nI y)) (upd (upd sg1 d 2) (d + 1) 0) so1 nu1 pk_us pk_us
  obtain ⟨l1', l2', l3'⟩ := eY_lo hlo'
  rw [l2] at l2'
  have f := hf wk2 (upd sg2 d 3) so2 nu2 (by rw [(hst' t (by omega)).1, hs]) (by rw [(hst' t (by omega)).2, hn]) hs' hn'
  have lw : ∀ j, j < d → wk2 j = wk j ∧ upd sg2 d 3 j = sg j := fun j hj => by rw [pk_un (by omega), (l1' j hj).1, (l1' j hj).2]; exact l1 j hj
  have ls : ∀ j, j < t → so2 j = so j ∧ nu2 j = nu j := fun j hj => by rw [(hst' j (by omega)).1, (hst' j (by omega)).2]; exact hst j hj
  cases o with
  | none =>
    refine ⟨c + c' + 3, wk2, upd sg2 d 3, so2, nu2, by omega, by omega, lw, ls, nI d, nI t, fun post m k hk3 hp => ?_⟩
    rw [show m + (c + c' + 3) + 1 = ((((m + 1 + 1) + c') + 1) + c) + 1 by omega]
    refine yw_step (by omega) (by omega) (fun P hP => ys_first hd he hwk hsg (Or.inr (Or.inr (Or.inr hk))) (by rw [hx]; exact hP)) ?_
    refine h post _ (k + 1) (by omega) ?_
    refine yw_step (by omega) (by omega) (fun P hP => ys_snd hd he l2 l3 hk (by rw [hy]; exact hP)) ?_
    refine h' post (m + 1 + 1) (k + 1 + c + 1) (by omega) ?_
    refine yw_step (by omega) (by omega) (fun P hP => ys_two (by omega) he l2' l3' hk (f P hP)) ?_
    exact yw_fail hp
  | some u =>
    refine ⟨c + c' + 3, wk2, upd sg2 d 3, upd so2 t u.1, upd nu2 t u.2, by omega, by omega, lw, fun j hj => by rw [pk_un (by omega), pk_un (by omega)]; exact ls j hj, pk_us, pk_us, fun post m k hk3 hp => ?_⟩
    rw [show m + (c + c' + 3) = ((((m + 1) + c') + 1) + c) + 1 by omega]
    refine yw_step (by omega) (by omega) (fun P hP => ys_first hd he hwk hsg (Or.inr (Or.inr (Or.inr hk))) (by rw [hx]; exact hP)) ?_
    refine h post _ (k + 1) (by omega) ?_
    refine yw_step (by omega) (by omega) (fun P hP => ys_snd hd he l2 l3 hk (by rw [hy]; exact hP)) ?_
    refine h' post (m + 1) (k + 1 + c + 1) (by omega) ?_
    refine yw_step (by omega) (by omega) (fun P hP => ys_two (by omega) he l2' l3' hk (f P hP)) ?_
    rw [show k + (c + c' + 3) = k + 1 + c + 1 + c' + 1 by omega] at hp
    exact hp
theorem eY_two_n {v : Int32 × Int32} {e w wx x wy y d t : Nat} {zy1 tk1 zy2 tk2 : Nat → Int32} (hw : wx + wy + 1 ≤ w) (hd : d + 1 < 8) (he : e < 30) (hk : tm_k2 (kd e)) (hx : ex e = nI x) (hy : ey e = nI y) (h1 : ev_Y yE yN yC lo kd ex ey yW yP yX yY yZ vs vn yK es eu sn yO la tu lz (some v) x wx (d + 1) t zy tk zy1 tk1) (h2 : ev_Y yE yN yC lo kd ex ey yW yP yX yY yZ vs vn yK es eu sn yO la tu lz none y wy (d + 1) (t + 1) zy1 tk1 zy2 tk2) : ev_Y yE yN yC lo kd ex ey yW yP yX yY yZ vs vn yK es eu sn yO la tu lz none e w d t zy tk zy2 tk2 := by
  intro wk sg so nu hwk hsg
  obtain ⟨c, wk1, sg1, so1, nu1, c1, c2, hlo, hst, hs, hn, h⟩ := h1 (upd wk (d + 1) (nI x)) (upd (upd sg d 1) (d + 1) 0) so nu pk_us pk_us
  obtain ⟨l1, l2, l3⟩ := eY_lo hlo
  rw [hwk] at l2
  obtain ⟨c', wk2, sg2, so2, nu2, c1', c2', hlo', hst', dp', tp', h'⟩ := h2 (upd wk1 (d + 1) (nI y)) (upd (upd sg1 d 2) (d + 1) 0) so1 nu1 pk_us pk_us
  obtain ⟨l1', l2', l3'⟩ := eY_lo hlo'
  refine ⟨c + c' + 2, wk2, sg2, so2, nu2, by omega, by omega, fun j hj => by rw [(l1' j hj).1, (l1' j hj).2]; exact l1 j hj, fun j hj => by rw [(hst' j (by omega)).1, (hst' j (by omega)).2]; exact hst j hj, dp', tp', fun post m k hk3 hp => ?_⟩
  rw [show m + (c + c' + 2) + 1 = (((m + c' + 1) + 1) + c) + 1 by omega]
  refine yw_step (by omega) (by omega) (fun P hP => ys_first hd he hwk hsg (Or.inr (Or.inr (Or.inr hk))) (by rw [hx]; exact hP)) ?_
  refine h post _ (k + 1) (by omega) ?_
  refine yw_step (by omega) (by omega) (fun P hP => ys_snd hd he l2 l3 hk (by rw [hy]; exact hP)) ?_
  exact h' post m (k + 1 + c + 1) (by omega) hp
theorem eY_keep {v : Int32 × Int32} {e wx x wy d t : Nat} {zy1 tk1 : Nat → Int32} (hd : d + 1 < 8) (he : e < 30) (ht : t < 8) (hx : ex e = nI x) (hk : (kd e = 7 ∧ v.1 = 0) ∨ (kd e = 8 ∧ ¬ v.1 = 0)) (h1 : ev_Y yE yN yC lo kd ex ey yW yP yX yY yZ vs vn yK es eu sn yO la tu lz (some v) x wx (d + 1) t zy tk zy1 tk1) : ev_Y yE yN yC lo kd ex ey yW yP yX yY yZ vs vn yK es eu sn yO la tu lz (some v) e (wx + 1 + wy) d t zy tk zy1 tk1 := by
  intro wk sg so nu hwk hsg
  obtain ⟨c, wk1, sg1, so1, nu1, c1, c2, hlo, hst, hs, hn, h⟩ := h1 (upd wk (d + 1) (nI x)) (upd (upd sg d 1) (d + 1) 0) so nu pk_us pk_us
  obtain ⟨l1, l2, l3⟩ := eY_lo hlo
  rw [hwk] at l2
  have hkk : kd e = 7 ∨ kd e = 8 ∨ tm_k2 (kd e) := by rcases hk with h | h; exact Or.inl h.1; exact Or.inr (Or.inl h.1)
  refine ⟨c + 2, wk1, upd sg1 d 2, so1, nu1, by omega, by omega, fun j hj => by rw [pk_un (by omega)]; exact l1 j hj, hst, hs, hn, fun post m k hk3 hp => ?_⟩
  rw [show m + (c + 2) = ((m + 1) + c) + 1 by omega]
  refine yw_step (by omega) (by omega) (fun P hP => ys_first hd he hwk hsg (Or.inr hkk) (by rw [hx]; exact hP)) ?_
  refine h post (m + 1) (k + 1) (by omega) ?_
  refine yw_step (by omega) (by omega) (fun P hP => ys_ch_keep (by omega) he l2 l3 ht (by rw [hs]; exact hk) hP) ?_
  rw [show k + (c + 2) = k + 1 + c + 1 by omega] at hp
  exact hp
theorem eY_go {o : Option (Int32 × Int32)} {v : Int32 × Int32} {e wx x wy y d t : Nat} {zy1 tk1 zy2 tk2 : Nat → Int32} (hd : d + 1 < 8) (he : e < 30) (ht : t < 8) (hx : ex e = nI x) (hy : ey e = nI y) (hk : (kd e = 7 ∧ ¬ v.1 = 0) ∨ (kd e = 8 ∧ v.1 = 0)) (h1 : ev_Y yE yN yC lo kd ex ey yW yP yX yY yZ vs vn yK es eu sn yO la tu lz (some v) x wx (d + 1) t zy tk zy1 tk1) (h2 : ev_Y yE yN yC lo kd ex ey yW yP yX yY yZ vs vn yK es eu sn yO la tu lz o y wy (d + 1) t zy1 tk1 zy2 tk2) : ev_Y yE yN yC lo kd ex ey yW yP yX yY yZ vs vn yK es eu sn yO la tu lz o e (wx + 1 + wy) d t zy tk zy2 tk2 := by
  intro wk sg so nu hwk hsg
  obtain ⟨c, wk1, sg1, so1, nu1, c1, c2, hlo, hst, hs, hn, h⟩ := h1 (upd wk (d + 1) (nI x)) (upd (upd sg d 1) (d + 1) 0) so nu pk_us pk_us
  obtain ⟨l1, l2, l3⟩ := eY_lo hlo
  rw [hwk] at l2
  have hkc : kd e = 7 ∨ kd e = 8 := by rcases hk with h | h; exact Or.inl h.1; exact Or.inr h.1
  have hkk : kd e = 7 ∨ kd e = 8 ∨ tm_k2 (kd e) := by rcases hkc with h | h; exact Or.inl h; exact Or.inr (Or.inl h)
  obtain ⟨c', wk2, sg2, so2, nu2, c1', c2', hlo', hst', h'⟩ := h2 (upd wk1 (d + 1) (nI y)) (upd (upd sg1 d 2) (d + 1) 0) so1 nu1 pk_us pk_us
  obtain ⟨l1', l2', l3'⟩ := eY_lo hlo'
  rw [l2] at l2'
  have ls : ∀ j, j < t → so2 j = so j ∧ nu2 j = nu j := fun j hj => by rw [(hst' j (by omega)).1, (hst' j (by omega)).2]; exact hst j hj
  cases o with
  | none =>
    obtain ⟨dp', tp', h'⟩ := h'
    refine ⟨c + c' + 2, wk2, sg2, so2, nu2, by omega, by omega, fun j hj => by rw [(l1' j hj).1, (l1' j hj).2]; exact l1 j hj, ls, dp', tp', fun post m k hk3 hp => ?_⟩
    rw [show m + (c + c' + 2) + 1 = (((m + c' + 1) + 1) + c) + 1 by omega]
    refine yw_step (by omega) (by omega) (fun P hP => ys_first hd he hwk hsg (Or.inr hkk) (by rw [hx]; exact hP)) ?_
    refine h post _ (k + 1) (by omega) ?_
    refine yw_step (by omega) (by omega) (fun P hP => ys_ch_go hd he l2 l3 ht (by rw [hs]; exact hk) (by rw [hy]; exact hP)) ?_
    exact h' post m (k + 1 + c + 1) (by omega) hp
  | some u =>
    obtain ⟨hs', hn', h'⟩ := h'
    refine ⟨c + c' + 3, wk2, upd sg2 d 3, so2, nu2, by omega, by omega, fun j hj => by rw [pk_un (by omega), (l1' j hj).1, (l1' j hj).2]; exact l1 j hj, ls, hs', hn', fun post m k hk3 hp => ?_⟩
    rw [show m + (c + c' + 3) = ((((m + 1) + c') + 1) + c) + 1 by omega]
    refine yw_step (by omega) (by omega) (fun P hP => ys_first hd he hwk hsg (Or.inr hkk) (by rw [hx]; exact hP)) ?_
    refine h post _ (k + 1) (by omega) ?_
    refine yw_step (by omega) (by omega) (fun P hP => ys_ch_go hd he l2 l3 ht (by rw [hs]; exact hk) (by rw [hy]; exact hP)) ?_
    refine h' post (m + 1) (k + 1 + c + 1) (by omega) ?_
    refine yw_step (by omega) (by omega) (fun P hP => ys_ch_end (by omega) he l2' l3' hkc hP) ?_
    rw [show k + (c + c' + 3) = k + 1 + c + 1 + c' + 1 by omega] at hp
    exact hp
end
