section
/-! rows pasted from kit/rows, and the values: a long is 4 times the number plus the sort -/
theorem pk_us {f : Nat → Int32} {k : Nat} {x : Int32} : upd f k x k = x := if_pos rfl
theorem pk_un {f : Nat → Int32} {k j : Nat} {x : Int32} (h : j ≠ k) : upd f k x j = f j := if_neg h
theorem pk_uLs {f : Nat → Int64} {k : Nat} {x : Int64} : vp_updL f k x k = x := if_pos rfl
theorem pk_uLn {f : Nat → Int64} {k j : Nat} {x : Int64} (h : j ≠ k) : vp_updL f k x j = f j := if_neg h
theorem pk_sub {a b : Nat} (h : b ≤ a) : nI a - nI b = nI (a - b) := by
  obtain ⟨c, rfl⟩ : ∃ c, a = c + b := ⟨a - b, by omega⟩
  rw [← nI_add, Int32.add_sub_cancel, Nat.add_sub_cancel]
theorem pk_m1 (n : Nat) : nI (n + 1) + (-1) = nI n := by
  rw [← nI_1, Int32.add_assoc, show (1 : Int32) + (-1) = 0 from rfl, Int32.add_zero]
theorem pk_mul (a b : Nat) : nI a * nI b = nI (a * b) := (Int32.ofNat_mul a b).symm
theorem pk_div {a d : Nat} (ha : a < 2 ^ 31) (h0 : 0 < d) (hd : d < 2 ^ 31) : nI a / nI d = nI (a / d) := by
  apply Int32.toInt_inj.mp
  rw [lg_idiv_nonneg (by rw [nI_toInt ha]; omega) (by rw [nI_toInt hd]; omega), nI_toInt ha, nI_toInt hd, nI_toInt (Nat.lt_of_le_of_lt (Nat.div_le_self a d) ha)]
  first | rfl | exact (Int.natCast_ediv _ _).symm
theorem pk_rem {a d : Nat} (ha : a < 2 ^ 31) (h0 : 0 < d) (hd : d < 2 ^ 31) : nI a - nI a / nI d * nI d = nI (a % d) := by
  rw [pk_div ha h0 hd, pk_mul, pk_sub (Nat.div_mul_le_self a d)]
  exact congrArg nI (by have := Nat.div_add_mod' a d; omega)
theorem pk_ix (x : Int32) {n : Nat} (hn : n < 2 ^ 31) : x < 0 ∨ nI n ≤ x ∨ ∃ j : Nat, j < n ∧ x = nI j := by
  by_cases h : x < 0
  · exact Or.inl h
  · obtain ⟨j, hj, rfl⟩ := nI_of h
    by_cases h2 : j < n
    · exact Or.inr (Or.inr ⟨j, h2, rfl⟩)
    · exact Or.inr (Or.inl (nI_le (by omega) hj))
theorem pk_le {x y : Int32} {A B : Prop} (a b : Nat) (f : a ≤ b → A) (g : b < a → B) (hx : x = nI a := by rfl) (hy : y = nI b := by rfl) (ha : a < 2 ^ 31 := by omega) (hb : b < 2 ^ 31 := by omega) : (x ≤ y → A) ∧ (¬ x ≤ y → B) := by
  subst hx hy
  rw [nI_leI ha hb]
  exact ⟨f, fun z => g (by omega)⟩
theorem pk_lt {x y : Int32} {A B : Prop} (a b : Nat) (f : a < b → A) (g : b ≤ a → B) (hx : x = nI a := by rfl) (hy : y = nI b := by rfl) (ha : a < 2 ^ 31 := by omega) (hb : b < 2 ^ 31 := by omega) : (x < y → A) ∧ (¬ x < y → B) := by
  subst hx hy
  rw [nI_ltI ha hb]
  exact ⟨f, fun z => g (by omega)⟩
theorem pk_eq {x y : Int32} {A B : Prop} (a b : Nat) (f : a = b → A) (g : a ≠ b → B) (hx : x = nI a := by rfl) (hy : y = nI b := by rfl) (ha : a < 2 ^ 31 := by omega) (hb : b < 2 ^ 31 := by omega) : (x = y → A) ∧ (¬ x = y → B) := by
  subst hx hy
  rw [nI_eq ha hb]
  exact ⟨f, g⟩
theorem pk_in {x : Int32} (n N : Nat) (h : n < N) (hx : x = nI n := by rfl) (hN : N < 2 ^ 31 := by omega) : vp_in x N := by
  subst hx
  exact vp_in_nI h hN
theorem pk_cl {x : Int32} (n : Nat) (hx : x = nI n := by rfl) (h : n < 2 ^ 31 := by omega) : x.toNatClampNeg = n := by
  subst hx
  exact nI_clamp h
theorem cv_b1 : vp_nar .boolean 1 = 1 := by decide
theorem cv_b0 : vp_nar .boolean 0 = 0 := by decide
/-- the long of a value -/
def cv_e (s n : Int32) : Int64 := 4 * n.toInt64 + s.toInt64
/-- a value that may stand: nothing, an int, a table in use -/
def cv_ok (U : Nat → Int32) (s n : Int32) : Prop := (s = 0 ∧ n = 0) ∨ s = 1 ∨ (s = 2 ∧ ∃ p, p < 20 ∧ n = nI p ∧ ¬ U p = 0)
def cv_s (s n : Int32) : Prop := (s = 0 ∧ n = 0) ∨ s = 1 ∨ s = 2
theorem cv_ok_s {U : Nat → Int32} {s n : Int32} (h : cv_ok U s n) : cv_s s n := by
  rcases h with h | h | h
  · exact Or.inl h
  · exact Or.inr (Or.inl h)
  · exact Or.inr (Or.inr h.1)
theorem cv_rng {s n : Int32} (h : cv_s s n) : 0 ≤ s.toInt ∧ s.toInt < 3 := by
  rcases h with ⟨h, _⟩ | h | h <;> subst h <;> decide
theorem cv_toInt {s n : Int32} (h : cv_s s n) : (cv_e s n).toInt = 4 * n.toInt + s.toInt := by
  have h1 := cv_rng h
  have h2 := n.toInt_lt
  have h3 := n.le_toInt
  unfold cv_e
  rw [Int64.toInt_add, Int64.toInt_mul, Int32.toInt_toInt64, Int32.toInt_toInt64, show (4 : Int64).toInt = 4 from by decide]
  rw [Int.bmod_eq_of_le (n := 4 * n.toInt) (by omega) (by omega)]
  exact Int.bmod_eq_of_le (by omega) (by omega)
theorem cv_mod (x : Int64) : (((x &&& 3).toBitVec.toNat : Nat) : Int) = x.toInt % 4 := by
  rw [Int64.toBitVec_and, BitVec.toNat_and, show (3 : Int64).toBitVec.toNat = 2 ^ 2 - 1 from by decide, Nat.and_two_pow_sub_one_eq_mod]
  have e : x.toInt = x.toBitVec.toInt := rfl
  rw [e, BitVec.toInt_eq_toNat_cond]
  split <;> omega
theorem cv_and {s n : Int32} (h : cv_s s n) : cv_e s n &&& 3 = s.toInt64 := by
  have h1 := cv_mod (cv_e s n)
  have h0 := cv_rng h
  rw [cv_toInt h] at h1
  apply Int64.toBitVec_inj.mp
  apply BitVec.eq_of_toNat_eq
  have h2 : (s.toInt64.toBitVec.toNat : Int) = s.toInt := by
    rcases h with ⟨h, _⟩ | h | h <;> subst h <;> decide
  omega
theorem cv_srt {s n : Int32} (h : cv_s s n) : (cv_e s n &&& 3).toInt32 = s := by
  rw [cv_and h]
  rcases h with ⟨h, _⟩ | h | h <;> subst h <;> decide
theorem cv_tab {s n : Int32} (h : cv_s s n) : (cv_e s n &&& 3) = 2 ↔ s = 2 := by
  rw [cv_and h]
  rcases h with ⟨h, _⟩ | h | h <;> subst h <;> decide
theorem cv_int {s n : Int32} (h : cv_s s n) : (cv_e s n &&& 3) = 1 ↔ s = 1 := by
  rw [cv_and h]
  rcases h with ⟨h, _⟩ | h | h <;> subst h <;> decide
theorem cv_num {s n : Int32} (h : cv_s s n) : ((cv_e s n) >>> ((2 : Int32).toInt64 &&& 63)).toInt32 = n := by
  have h1 := cv_rng h
  have h2 := n.toInt_lt
  have h3 := n.le_toInt
  apply Int32.toInt_inj.mp
  rw [Int64.toInt_toInt32]
  have e : ((cv_e s n) >>> ((2 : Int32).toInt64 &&& 63)).toInt = (cv_e s n).toInt >>> 2 := by
    show ((cv_e s n).toBitVec.sshiftRight (((2 : Int32).toInt64 &&& 63).toBitVec.smod 64).toNat).toInt = _
    rw [show (((2 : Int32).toInt64 &&& 63).toBitVec.smod 64).toNat = 2 from by decide, BitVec.toInt_sshiftRight]
    rfl
  rw [e, cv_toInt h, Int.shiftRight_eq_div_pow]
  rw [show (4 * n.toInt + s.toInt) / ((2 ^ 2 : Nat) : Int) = n.toInt from by omega]
  exact Int.bmod_eq_of_le (by omega) (by omega)
theorem cv_ne3 {s n : Int32} (h : cv_s s n) : ¬ cv_e s n = 3 := by
  intro e
  have h1 := cv_rng h
  have h2 := cv_toInt h
  rw [e, show (3 : Int64).toInt = 3 from by decide] at h2
  omega
theorem cv_inj {s n t m : Int32} (h : cv_s s n) (h' : cv_s t m) : cv_e s n = cv_e t m ↔ s = t ∧ n = m := by
  constructor
  · intro e
    refine ⟨?_, ?_⟩
    · rw [← cv_srt h, ← cv_srt h', e]
    · rw [← cv_num h, ← cv_num h', e]
  · rintro ⟨rfl, rfl⟩; rfl
theorem cv_00 : cv_e 0 0 = 0 := by decide
theorem cv_11 : cv_e 1 1 = 5 := by decide
theorem cv_0 {s n : Int32} (h : cv_s s n) : cv_e s n = 0 ↔ s = 0 := by
  rw [← cv_00, cv_inj h (Or.inl ⟨rfl, rfl⟩)]
  constructor
  · exact fun e => e.1
  · intro e
    rcases h with h | h | h
    · exact h
    · rw [e] at h; exact absurd h (by decide)
    · rw [e] at h; exact absurd h (by decide)
/-! what the small value methods answer -/
theorem xv_tabT {post : Int32 → Prop} {s n : Int32} (h : cv_s s n) (e : s = 2) (hp : post 1) : wpX_isTable post (cv_e s n) := br_t ((cv_tab h).mpr e) hp
theorem xv_tabF {post : Int32 → Prop} {s n : Int32} (h : cv_s s n) (e : ¬ s = 2) (hp : post 0) : wpX_isTable post (cv_e s n) := br_f (fun z => e ((cv_tab h).mp z)) hp
theorem xv_intT {post : Int32 → Prop} {s n : Int32} (h : cv_s s n) (e : s = 1) (hp : post 1) : wpX_isInt post (cv_e s n) := br_t ((cv_int h).mpr e) hp
theorem xv_intF {post : Int32 → Prop} {s n : Int32} (h : cv_s s n) (e : ¬ s = 1) (hp : post 0) : wpX_isInt post (cv_e s n) := br_f (fun z => e ((cv_int h).mp z)) hp
theorem xv_num {post : Int32 → Prop} {s n : Int32} (h : cv_s s n) (hp : post n) : wpX_numberOf post (cv_e s n) := by
  unfold wpX_numberOf; rw [cv_num h]; exact hp
theorem xv_srt {post : Int32 → Prop} {s n : Int32} (h : cv_s s n) (hp : post s) : wpX_sortOf post (cv_e s n) := by
  unfold wpX_sortOf; rw [cv_srt h]; exact hp
theorem xv_val {post : Int64 → Prop} {s n : Int32} (hp : post (cv_e s n)) : wpX_valueOf post s n := hp
theorem xv_isV {post : Int32 → Prop} {v : Int32} (h : ∃ j, j < 6 ∧ v = nI j) (hp : post 1) : wpX_isVariable post v := by
  obtain ⟨j, hj, rfl⟩ := h
  exact br_f (nI_pos (by omega)) (br_f (nI_ge (b := 6) hj (by decide)) hp)
theorem xv_noV {post : Int32 → Prop} {v : Int32} (h : v < 0 ∨ nI 6 ≤ v) (hp : post 0) : wpX_isVariable post v := by
  by_cases h0 : v < 0
  · exact br_t h0 hp
  · exact br_f h0 (br_t (h.resolve_left h0) hp)
theorem cv_6 {v : Int32} : (v < 0 ∨ nI 6 ≤ v) ∨ ∃ j, j < 6 ∧ v = nI j := by
  rcases pk_ix v (n := 6) (by decide) with h | h | h
  · exact Or.inl (Or.inl h)
  · exact Or.inl (Or.inr h)
  · exact Or.inr h
section
variable {yE yN yC dp tp fl lo : Int32} {kd ex ey yW yP yX yY yZ vs vn zy yK es eu tk sn : Nat → Int32} {yO : Nat → Int64} {wk sg so nu la tu lz : Nat → Int32}
theorem yv_isV {post : Int32 → Prop} {v : Int32} (h : ∃ j, j < 6 ∧ v = nI j) (hp : post 1) : wpY_isVariable post (yE, yN, yC, dp, tp, fl, lo, kd, ex, ey, yW, yP, yX, yY, yZ, vs, vn, zy, yK, es, eu, tk, sn, yO, wk, sg, so, nu, la, tu, lz) v := by
  obtain ⟨j, hj, rfl⟩ := h
  exact br_f (nI_pos (by omega)) (br_f (nI_nlt (a := 5) (b := j) (by omega) (by decide)) hp)
theorem yv_noV {post : Int32 → Prop} {v : Int32} (h : v < 0 ∨ nI 6 ≤ v) (hp : post 0) : wpY_isVariable post (yE, yN, yC, dp, tp, fl, lo, kd, ex, ey, yW, yP, yX, yY, yZ, vs, vn, zy, yK, es, eu, tk, sn, yO, wk, sg, so, nu, la, tu, lz) v := by
  by_cases h0 : v < 0
  · exact br_t h0 hp
  · refine br_f h0 (br_t ?_ hp)
    obtain ⟨j, hj, rfl⟩ := nI_of h0
    have h6 := (nI_leI (a := 6) (by decide) hj).mp (h.resolve_left h0)
    exact nI_lt (a := 5) (by omega) hj
end
end
section
/-! the relation: the same places, the same keys; a long is the pair's; sizes agree where a table is in use -/
def cv_f (s n : Nat → Int32) : Nat → Int64 := fun j => cv_e (s j) (n j)
theorem cv_fu (s n : Nat → Int32) (k : Nat) (a b : Int32) : vp_updL (cv_f s n) k (cv_e a b) = cv_f (upd s k a) (upd n k b) := by
  funext j
  unfold vp_updL cv_f upd
  by_cases h : j = k
  · simp only [h, if_true]
  · simp only [h, if_false]
def tm_k2 (k : Int32) : Prop := k = 2 ∨ k = 3 ∨ k = 4 ∨ k = 5 ∨ k = 6 ∨ k = 10
/-- expression e, of weight w, has its code at a, its value in register r -/
def tm_T (E : Nat) (kd ex ey wt cK cO cR : Nat → Int32) : Nat → Nat → Nat → Nat → Nat → Prop
  | 0, _, _, _, _ => False
  | f + 1, w, e, a, r => e < E ∧ wt e = nI w ∧
    ((w = 1 ∧ cO a = ex e ∧ cR a = nI r ∧ cK a = kd e ∧ (kd e = 0 ∨ (kd e = 1 ∧ ∃ v, v < 6 ∧ ex e = nI v) ∨ kd e = 11)) ∨
     (∃ x wx, (kd e = 9 ∨ kd e = 12) ∧ ex e = nI x ∧ w = wx + 1 ∧ tm_T E kd ex ey wt cK cO cR f wx x a r ∧ cK (a + wx) = kd e ∧ cR (a + wx) = nI r) ∨
     (∃ x y wx wy, (kd e = 7 ∨ kd e = 8) ∧ ex e = nI x ∧ ey e = nI y ∧ w = wx + 1 + wy ∧ tm_T E kd ex ey wt cK cO cR f wx x a r ∧ cK (a + wx) = kd e ∧ cO (a + wx) = nI wy ∧ cR (a + wx) = nI r ∧ tm_T E kd ex ey wt cK cO cR f wy y (a + wx + 1) r) ∨
     (∃ x y wx wy, tm_k2 (kd e) ∧ ex e = nI x ∧ ey e = nI y ∧ w = wx + wy + 1 ∧ tm_T E kd ex ey wt cK cO cR f wx x a r ∧ tm_T E kd ex ey wt cK cO cR f wy y (a + wx) (r + 1) ∧ cK (a + wx + wy) = kd e ∧ cR (a + wx + wy) = nI r))
def tm_VE (E : Nat) (kd ex ey wt cK cO cR : Nat → Int32) : Prop := ∀ e, e < E → ∃ w, w ≤ 7 ∧ tm_T E kd ex ey wt cK cO cR w w e (7 * e) 0
def tm_st (E : Nat) (p x y z : Int32) : Prop :=
  (p = 0 ∧ (∃ v, v < 6 ∧ x = nI v) ∧ ∃ b, b < E ∧ y = nI b) ∨
  (p = 1 ∧ (∃ a, a < E ∧ x = nI a) ∧ (∃ b, b < E ∧ y = nI b) ∧ ∃ c, c < E ∧ z = nI c) ∨
  (p = 2 ∧ (∃ a, a < E ∧ x = nI a) ∧ ∃ m, 1 ≤ m ∧ m ≤ 6 ∧ y = nI m) ∨
  (p = 3 ∧ (∃ v, v < 6 ∧ x = nI v) ∧ (∃ b, b < E ∧ y = nI b) ∧ ∃ m, 1 ≤ m ∧ m ≤ 6 ∧ z = nI m) ∨
  (p = 4 ∧ ∃ a, a < E ∧ x = nI a)
def tm_VS (E N : Nat) (oP oX oY oZ : Nat → Int32) : Prop := ∀ s, s < N → tm_st E (oP s) (oX s) (oY s) (oZ s)
/-- the heap: U are the places in use -/
def tm_HO (U sz zy vs vn es eu : Nat → Int32) : Prop :=
  (∀ t, ¬ U t = 0 → t < 20 ∧ zy t = sz t ∧ ∃ m, m ≤ 6 ∧ sz t = nI m) ∧
  (∀ t i m, ¬ U t = 0 → sz t = nI m → m ≤ 6 → i < m → cv_ok U (es (6 * t + i)) (eu (6 * t + i))) ∧
  (∀ v, v < 6 → cv_ok U (vs v) (vn v))
def tm_I (E N : Nat) (wt cK cO cR kd ex ey oP oX oY oZ iu sz zy vs vn es eu tk : Nat → Int32) : Prop :=
  E ≤ 30 ∧ N ≤ 14 ∧ tm_VE E kd ex ey wt cK cO cR ∧ tm_VS E N oP oX oY oZ ∧ (∀ t, 20 ≤ t → iu t = 0) ∧ (∀ t, 24 ≤ t → tk t = 0) ∧ ∃ U, tm_HO U sz zy vs vn es eu
def i_Rel (_ : Nat) (u : SX) (v : SY) : Prop :=
  ∃ (E N : Nat) (oL fC oC : Int32) (wt cK cO cR : Nat → Int32) (rg : Nat → Int64) (oP oX oY oZ lS lT lL iu sz ke fd : Nat → Int32) (ou : Nat → Int64)
    (dp tp fl lo : Int32) (kd ex ey vs vn zy es eu tk sn wk sg so nu la tu lz : Nat → Int32),
    u = (nI E, nI N, oL, fC, oC, wt, cK, cO, cR, rg, oP, oX, oY, oZ, lS, lT, lL, cv_f vs vn, iu, sz, ke, cv_f es eu, fd, ou) ∧
    v = (nI E, nI N, oC, dp, tp, fl, lo, kd, ex, ey, wt, oP, oX, oY, oZ, vs, vn, zy, ke, es, eu, tk, sn, ou, wk, sg, so, nu, la, tu, lz) ∧
    tm_I E N wt cK cO cR kd ex ey oP oX oY oZ iu sz zy vs vn es eu tk
theorem i_up {k : Nat} {u : SX} {v : SY} (h : i_Rel k u v) : i_Rel (k + 5) u v := h
theorem tm_f0 : (fun _ => 0 : Nat → Int64) = cv_f (fun _ => 0) (fun _ => 0) := funext fun _ => cv_00.symm
theorem i_vc0 : wpX_init (fun u => wpY_init (fun v => i_Rel 0 u v)) := by
  unfold wpX_init wpY_init
  refine ⟨0, 0, 0, 0, 0, fun _ => 0, fun _ => 0, fun _ => 0, fun _ => 0, fun _ => 0, fun _ => 0, fun _ => 0, fun _ => 0, fun _ => 0, fun _ => 0, fun _ => 0, fun _ => 0, fun _ => 0, fun _ => 0, fun _ => 0, fun _ => 0, fun _ => 0, 0, 0, 0, 0,
    fun _ => 0, fun _ => 0, fun _ => 0, fun _ => 0, fun _ => 0, fun _ => 0, fun _ => 0, fun _ => 0, fun _ => 0, fun _ => 0, fun _ => 0, fun _ => 0, fun _ => 0, fun _ => 0, fun _ => 0, fun _ => 0, fun _ => 0, ?_, rfl, ?_⟩
  · rw [← tm_f0]; rfl
  · refine ⟨by omega, by omega, fun e he => absurd he (by omega), fun e he => absurd he (by omega), fun _ _ => rfl, fun _ _ => rfl, fun _ => 0, ?_, ?_, ?_⟩
    · exact fun t h => absurd rfl h
    · exact fun t i m h => absurd rfl h
    · exact fun v _ => Or.inl ⟨rfl, rfl⟩
section
variable {eN sN oL fC oC : Int32} {wt cK cO cR : Nat → Int32} {rg : Nat → Int64} {oP oX oY oZ lS lT lL : Nat → Int32} {va : Nat → Int64} {iu sz ke : Nat → Int32} {en : Nat → Int64} {fd : Nat → Int32} {ou : Nat → Int64} {yE yN yC dp tp fl lo : Int32} {kd ex ey yW yP yX yY yZ vs vn zy yK es eu tk sn : Nat → Int32} {yO : Nat → Int64} {wk sg so nu la tu lz : Nat → Int32}
theorem xv_seen {post : Int32 → Prop} {U : Nat → Int32} {s n : Int32} (h : cv_ok U s n) (hp : post (if s = 2 then sz n.toNatClampNeg else n)) : wpX_seenNumber post (eN, sN, oL, fC, oC, wt, cK, cO, cR, rg, oP, oX, oY, oZ, lS, lT, lL, va, iu, sz, ke, en, fd, ou) (cv_e s n) := by
  unfold wpX_seenNumber
  refine xv_num (cv_ok_s h) ?_
  by_cases e : s = 2
  · refine xv_tabT (cv_ok_s h) e ?_
    rw [if_pos e] at hp
    rcases h with h | h | h
    · exact absurd (h.1.symm.trans e) (by decide)
    · exact absurd (h.symm.trans e) (by decide)
    · obtain ⟨_, p, hp20, rfl, _⟩ := h
      exact br_f (by decide) ⟨vp_in_nI hp20 (by decide), hp⟩
  · refine xv_tabF (cv_ok_s h) e ?_
    rw [if_neg e] at hp
    exact br_t rfl hp
/-- both searches find the same place -/
theorem fe_scan {t m : Nat} (key : Int32) (ht : t < 20) (hm : m ≤ 6) (hx : sz t = nI m) (hy : zy t = nI m) : ∀ d i : Nat, i + d = m → ∃ r : Int32, (r = -1 ∨ ∃ i, i < m ∧ r = nI (6 * t + i)) ∧
    (∀ {eN sN oL fC oC : Int32} {wt cK cO cR : Nat → Int32} {rg : Nat → Int64} {oP oX oY oZ lS lT lL : Nat → Int32} {va : Nat → Int64} {iu : Nat → Int32} {en : Nat → Int64} {fd : Nat → Int32} {ou : Nat → Int64}, ∀ post : Int32 → Prop, post r → wX_findEntry_8 post (nI t) key (nI (t * 6)) eN sN oL fC oC wt cK cO cR rg oP oX oY oZ lS lT lL va iu sz ke en fd ou (d + 1) (nI i)) ∧
    (∀ {yE yN yC dp tp fl lo : Int32} {kd ex ey yW yP yX yY yZ vs vn es eu tk sn : Nat → Int32} {yO : Nat → Int64} {wk sg so nu la tu lz : Nat → Int32}, ∀ post : Int32 → Prop, post r → wY_find_5 post (nI t) key yE yN yC dp tp fl lo kd ex ey yW yP yX yY yZ vs vn zy ke es eu tk sn yO wk sg so nu la tu lz (d + 1) (nI (6 * t + i))) := by
  intro d
  have h1 : vp_in (nI t) 20 := vp_in_nI ht (by decide)
  have h2 : vp_in (nI t) 24 := vp_in_nI (by omega) (by decide)
  have hc : (nI t).toNatClampNeg = t := nI_clamp (by omega)
  have hb : (6 : Int32) * nI t + zy (nI t).toNatClampNeg = nI (6 * t + m) := by
    rw [hc, hy, show (6 : Int32) = nI 6 from rfl, pk_mul, nI_add]
  induction d with
  | zero =>
    intro i hi
    refine ⟨-1, Or.inl rfl, fun post hp => ?_, fun post hp => ?_⟩
    · exact ⟨h1, br_t (by rw [hc, hx]; exact nI_le (by omega) (by omega)) hp⟩
    · exact ⟨h2, br_t (by rw [hb]; exact nI_le (by omega) (by omega)) hp⟩
  | succ d ih =>
    intro i hi
    have hX : ¬ sz (nI t).toNatClampNeg ≤ nI i := by rw [hc, hx]; exact nI_ge (by omega) (by omega)
    have hY : ¬ (6 : Int32) * nI t + zy (nI t).toNatClampNeg ≤ nI (6 * t + i) := by rw [hb]; exact nI_ge (by omega) (by omega)
    have e1 : nI (t * 6) + nI i = nI (6 * t + i) := by rw [nI_add, Nat.mul_comm]
    have h3 : vp_in (nI (t * 6) + nI i) 120 := by rw [e1]; exact vp_in_nI (by omega) (by decide)
    have h4 : vp_in (nI (6 * t + i)) 144 := vp_in_nI (by omega) (by decide)
    by_cases z : ke (nI (6 * t + i)).toNatClampNeg = key
    · refine ⟨nI (6 * t + i), Or.inr ⟨i, by omega, rfl⟩, fun post hp => ⟨h1, br_f hX ⟨h3, br_t (by rw [e1]; exact z) (by rw [e1]; exact hp)⟩⟩, fun post hp => ⟨h2, br_f hY ⟨h4, br_t z hp⟩⟩⟩
    · obtain ⟨r, hr, a, b⟩ := ih (i + 1) (by omega)
      refine ⟨r, hr, fun post hp => ⟨h1, br_f hX ⟨h3, br_f (by rw [e1]; exact z) (nm_r (nI_1 i) (a post hp))⟩⟩, fun post hp => ⟨h2, br_f hY ⟨h4, br_f z (nm_r (nI_1 _) (b post hp))⟩⟩⟩
theorem fe_find {t m : Nat} (key : Int32) (ht : t < 20) (hm : m ≤ 6) (hx : sz t = nI m) (hy : zy t = nI m) : ∃ r : Int32, (r = -1 ∨ ∃ i, i < m ∧ r = nI (6 * t + i)) ∧
    (∀ {eN sN oL fC oC : Int32} {wt cK cO cR : Nat → Int32} {rg : Nat → Int64} {oP oX oY oZ lS lT lL : Nat → Int32} {va : Nat → Int64} {iu : Nat → Int32} {en : Nat → Int64} {fd : Nat → Int32} {ou : Nat → Int64}, ∀ post : Int32 → Prop, post r → wpX_findEntry post (eN, sN, oL, fC, oC, wt, cK, cO, cR, rg, oP, oX, oY, oZ, lS, lT, lL, va, iu, sz, ke, en, fd, ou) (nI t) key) ∧
    (∀ {yE yN yC dp tp fl lo : Int32} {kd ex ey yW yP yX yY yZ vs vn es eu tk sn : Nat → Int32} {yO : Nat → Int64} {wk sg so nu la tu lz : Nat → Int32}, ∀ post : Int32 → Prop, post r → wpY_find post (yE, yN, yC, dp, tp, fl, lo, kd, ex, ey, yW, yP, yX, yY, yZ, vs, vn, zy, ke, es, eu, tk, sn, yO, wk, sg, so, nu, la, tu, lz) (nI t) key) := by
  obtain ⟨r, hr, a, b⟩ := fe_scan (ke := ke) key ht hm hx hy m 0 (by omega)
  refine ⟨r, hr, fun post hp => ?_, fun post hp => ?_⟩
  · unfold wpX_findEntry
    exact nm_r (pk_mul t 6) ⟨_, a post hp⟩
  · unfold wpY_find
    exact nm_r (pk_mul 6 t) ⟨_, b post hp⟩
/-- the entry that both find, as a value -/
theorem fe_entry {U : Nat → Int32} (H : tm_HO U sz zy vs vn es eu) {t : Nat} (key : Int32) (hU : ¬ U t = 0) : ∃ (r s n : Int32), cv_ok U s n ∧
    (∀ {eN sN oL fC oC : Int32} {wt cK cO cR : Nat → Int32} {rg : Nat → Int64} {oP oX oY oZ lS lT lL : Nat → Int32} {va : Nat → Int64} {iu fd : Nat → Int32} {ou : Nat → Int64}, ∀ post : Int64 → Prop, post (cv_e s n) → wpX_entryOf post (eN, sN, oL, fC, oC, wt, cK, cO, cR, rg, oP, oX, oY, oZ, lS, lT, lL, va, iu, sz, ke, cv_f es eu, fd, ou) (nI t) key) ∧
    (∀ {yE yN yC dp tp fl lo : Int32} {kd ex ey yW yP yX yY yZ vs vn es eu tk sn : Nat → Int32} {yO : Nat → Int64} {wk sg so nu la tu lz : Nat → Int32}, ∀ post : Int32 → Prop, post r → wpY_find post (yE, yN, yC, dp, tp, fl, lo, kd, ex, ey, yW, yP, yX, yY, yZ, vs, vn, zy, ke, es, eu, tk, sn, yO, wk, sg, so, nu, la, tu, lz) (nI t) key) ∧
    ((r = -1 ∧ s = 0 ∧ n = 0) ∨ (∃ j, j < 120 ∧ r = nI j ∧ s = es j ∧ n = eu j)) := by
  obtain ⟨ht, hzy, m, hm, hz⟩ := H.1 t hU
  obtain ⟨r, hr, a, b⟩ := fe_find (ke := ke) key ht hm hz (hzy.trans hz)
  rcases hr with rfl | ⟨i, hi, rfl⟩
  · refine ⟨-1, 0, 0, Or.inl ⟨rfl, rfl⟩, fun post hp => ?_, b, Or.inl ⟨rfl, rfl, rfl⟩⟩
    unfold wpX_entryOf
    refine a _ (br_t rfl ?_)
    rw [cv_00] at hp; exact hp
  · refine ⟨_, es (6 * t + i), eu (6 * t + i), H.2.1 t i m hU hz hm hi, fun post hp => ?_, b, Or.inr ⟨6 * t + i, by omega, rfl, rfl, rfl⟩⟩
    unfold wpX_entryOf
    refine a _ (br_f ?_ ⟨vp_in_nI (by omega) (by decide), ?_⟩)
    · intro z
      have := congrArg Int32.toInt z
      rw [nI_toInt (by omega), show (-1 : Int32).toInt = -1 from by decide] at this
      omega
    · rw [nI_clamp (by omega)]; exact hp
end
theorem tm_kind {P : Prop} {s n : Int32} {U : Nat → Int32} (h : cv_ok U s n) (h0 : s = 0 → n = 0 → P) (h1 : s = 1 → P) (h2 : ∀ p, s = 2 → p < 20 → n = nI p → ¬ U p = 0 → P) : P := by
  rcases h with h | h | h
  · exact h0 h.1 h.2
  · exact h1 h
  · obtain ⟨h, p, a, b, c⟩ := h
    exact h2 p h a b c
theorem i_vc_sort {k : Nat} {u : SX} {v : SY} (I : i_Rel k u v) (hk : k + 5 ≤ 2560) (v1 : Int32) : wpX_sort (fun r => wpY_sort (fun r' => r' = r ∧ i_Rel (k + 5) u v) v v1) u v1 := by
  have hR := i_up I
  obtain ⟨E, N, oL, fC, oC, wt, cK, cO, cR, rg, oP, oX, oY, oZ, lS, lT, lL, iu, sz, ke, fd, ou, dp, tp, fl, lo, kd, ex, ey, vs, vn, zy, es, eu, tk, sn, wk, sg, so, nu, la, tu, lz, rfl, rfl, J⟩ := I
  obtain ⟨hE, hN, hVE, hVS, hiu, htk, U, H⟩ := J
  unfold wpX_sort
  rcases cv_6 (v := v1) with h | ⟨j, hj, rfl⟩
  · refine xv_noV h (br_t rfl ?_)
    unfold wpY_sort
    refine yv_noV h (br_t rfl ⟨rfl, hR⟩)
  · have hi : vp_in (nI j) 6 := vp_in_nI hj (by decide)
    have hc : (nI j).toNatClampNeg = j := nI_clamp (by omega)
    refine xv_isV ⟨j, hj, rfl⟩ (br_f (by decide) ⟨hi, ?_⟩)
    rw [hc]
    refine xv_srt (cv_ok_s (H.2.2 j hj)) ?_
    unfold wpY_sort
    refine yv_isV ⟨j, hj, rfl⟩ (br_f (by decide) ⟨hi, ?_⟩)
    rw [hc]
    exact ⟨rfl, hR⟩
theorem i_vc_number {k : Nat} {u : SX} {v : SY} (I : i_Rel k u v) (hk : k + 5 ≤ 2560) (v1 : Int32) : wpX_number (fun r => wpY_number (fun r' => r' = r ∧ i_Rel (k + 5) u v) v v1) u v1 := by
  have hR := i_up I
  obtain ⟨E, N, oL, fC, oC, wt, cK, cO, cR, rg, oP, oX, oY, oZ, lS, lT, lL, iu, sz, ke, fd, ou, dp, tp, fl, lo, kd, ex, ey, vs, vn, zy, es, eu, tk, sn, wk, sg, so, nu, la, tu, lz, rfl, rfl, J⟩ := I
  obtain ⟨hE, hN, hVE, hVS, hiu, htk, U, H⟩ := J
  unfold wpX_number
  rcases cv_6 (v := v1) with h | ⟨j, hj, rfl⟩
  · refine xv_noV h (br_t rfl ?_)
    unfold wpY_number
    refine yv_noV h (br_t rfl ⟨rfl, hR⟩)
  · have hi : vp_in (nI j) 6 := vp_in_nI hj (by decide)
    have hc : (nI j).toNatClampNeg = j := nI_clamp (by omega)
    have ok := H.2.2 j hj
    refine xv_isV ⟨j, hj, rfl⟩ (br_f (by decide) ⟨hi, ?_⟩)
    rw [hc]
    refine xv_seen ok ?_
    unfold wpY_number
    refine yv_isV ⟨j, hj, rfl⟩ (br_f (by decide) ⟨hi, ?_⟩)
    rw [hc]
    refine tm_kind ok (fun e e2 => ?_) (fun e => ?_) (fun p e hp en hU => ?_)
    · refine br_t e ⟨?_, hR⟩
      rw [if_neg (by rw [e]; decide), e2]
    · refine br_f (by rw [e]; decide) ⟨hi, br_t e ⟨hi, ?_, hR⟩⟩
      rw [if_neg (by rw [e]; decide)]
    · refine br_f (by rw [e]; decide) ⟨hi, br_f (by rw [e]; decide) ⟨hi, ?_, ?_, hR⟩⟩
      · rw [en]; exact vp_in_nI (by omega) (by decide)
      · rw [if_pos e, en, nI_clamp (by omega)]
        exact (H.1 p hU).2.1
theorem i_vc_entrySort {k : Nat} {u : SX} {v : SY} (I : i_Rel k u v) (hk : k + 5 ≤ 2560) (v1 : Int32) (v2 : Int32) : wpX_entrySort (fun r => wpY_entrySort (fun r' => r' = r ∧ i_Rel (k + 5) u v) v v1 v2) u v1 v2 := by
  have hR := i_up I
  obtain ⟨E, N, oL, fC, oC, wt, cK, cO, cR, rg, oP, oX, oY, oZ, lS, lT, lL, iu, sz, ke, fd, ou, dp, tp, fl, lo, kd, ex, ey, vs, vn, zy, es, eu, tk, sn, wk, sg, so, nu, la, tu, lz, rfl, rfl, J⟩ := I
  obtain ⟨hE, hN, hVE, hVS, hiu, htk, U, H⟩ := J
  unfold wpX_entrySort
  rcases cv_6 (v := v1) with h | ⟨j, hj, rfl⟩
  · refine xv_noV h (br_t rfl ?_)
    unfold wpY_entrySort
    refine yv_noV h (br_t rfl ⟨rfl, hR⟩)
  · have hi : vp_in (nI j) 6 := vp_in_nI hj (by decide)
    have hc : (nI j).toNatClampNeg = j := nI_clamp (by omega)
    have ok := H.2.2 j hj
    refine xv_isV ⟨j, hj, rfl⟩ (br_f (by decide) ⟨hi, ?_⟩)
    rw [hc]
    by_cases e2 : vs j = 2
    · refine tm_kind ok (fun e _ => absurd (e.symm.trans e2) (by decide)) (fun e => absurd (e.symm.trans e2) (by decide)) (fun p e hp en hU => ?_)
      refine xv_tabT (cv_ok_s ok) e ?_
      refine br_f (by decide) ⟨hi, ?_⟩
      refine xv_num (cv_ok_s ok) ?_
      rw [en]
      obtain ⟨r, s, n, ok2, a, b, c⟩ := fe_entry (ke := ke) H v2 hU
      refine a _ ?_
      refine xv_srt (cv_ok_s ok2) ?_
      unfold wpY_entrySort
      refine yv_isV ⟨j, hj, rfl⟩ (br_f (by decide) ⟨hi, ?_⟩)
      rw [hc, en]
      refine br_t e ⟨hi, b _ ?_⟩
      rcases c with ⟨rfl, rfl, rfl⟩ | ⟨q, hq, rfl, rfl, rfl⟩
      · exact br_f (by decide) ⟨rfl, hR⟩
      · refine br_t (nI_pos' (by omega)) ⟨vp_in_nI (by omega) (by decide), ?_, hR⟩
        rw [nI_clamp (by omega)]
    · refine xv_tabF (cv_ok_s ok) e2 ?_
      refine br_t rfl ?_
      unfold wpY_entrySort
      refine yv_isV ⟨j, hj, rfl⟩ (br_f (by decide) ⟨hi, ?_⟩)
      rw [hc]
      exact br_f e2 ⟨rfl, hR⟩
theorem i_vc_entryNumber {k : Nat} {u : SX} {v : SY} (I : i_Rel k u v) (hk : k + 5 ≤ 2560) (v1 : Int32) (v2 : Int32) : wpX_entryNumber (fun r => wpY_entryNumber (fun r' => r' = r ∧ i_Rel (k + 5) u v) v v1 v2) u v1 v2 := by
  have hR := i_up I
  obtain ⟨E, N, oL, fC, oC, wt, cK, cO, cR, rg, oP, oX, oY, oZ, lS, lT, lL, iu, sz, ke, fd, ou, dp, tp, fl, lo, kd, ex, ey, vs, vn, zy, es, eu, tk, sn, wk, sg, so, nu, la, tu, lz, rfl, rfl, J⟩ := I
  obtain ⟨hE, hN, hVE, hVS, hiu, htk, U, H⟩ := J
  unfold wpX_entryNumber
  rcases cv_6 (v := v1) with h | ⟨j, hj, rfl⟩
  · refine xv_noV h (br_t rfl ?_)
    unfold wpY_entryNumber
    refine yv_noV h (br_t rfl ⟨rfl, hR⟩)
  · have hi : vp_in (nI j) 6 := vp_in_nI hj (by decide)
    have hc : (nI j).toNatClampNeg = j := nI_clamp (by omega)
    have ok := H.2.2 j hj
    refine xv_isV ⟨j, hj, rfl⟩ (br_f (by decide) ⟨hi, ?_⟩)
    rw [hc]
    by_cases e2 : vs j = 2
    · refine tm_kind ok (fun e _ => absurd (e.symm.trans e2) (by decide)) (fun e => absurd (e.symm.trans e2) (by decide)) (fun p e hp en hU => ?_)
      refine xv_tabT (cv_ok_s ok) e ?_
      refine br_f (by decide) ⟨hi, ?_⟩
      refine xv_num (cv_ok_s ok) ?_
      rw [en]
      obtain ⟨r, s, n, ok2, a, b, c⟩ := fe_entry (ke := ke) H v2 hU
      refine a _ ?_
      refine xv_seen ok2 ?_
      unfold wpY_entryNumber
      refine yv_isV ⟨j, hj, rfl⟩ (br_f (by decide) ⟨hi, ?_⟩)
      rw [hc, en]
      refine br_t e ⟨hi, b _ ?_⟩
      rcases c with ⟨rfl, rfl, rfl⟩ | ⟨q, hq, rfl, rfl, rfl⟩
      · exact br_f (by decide) ⟨rfl, hR⟩
      · have hq2 : vp_in (nI q) 144 := vp_in_nI (by omega) (by decide)
        refine br_t (nI_pos' (by omega)) ⟨hq2, ?_⟩
        rw [nI_clamp (by omega)]
        by_cases e3 : es q = 2
        · refine tm_kind ok2 (fun e _ => absurd (e.symm.trans e3) (by decide)) (fun e => absurd (e.symm.trans e3) (by decide)) (fun p' e' hp' en' hU' => ?_)
          refine br_t e3 ⟨hq2, ?_, ?_, hR⟩
          · rw [en']; exact vp_in_nI (by omega) (by decide)
          · rw [if_pos e3, en', nI_clamp (by omega)]
            exact (H.1 p' hU').2.1
        · refine br_f e3 ⟨hq2, ?_, hR⟩
          rw [if_neg e3]
    · refine xv_tabF (cv_ok_s ok) e2 ?_
      refine br_t rfl ?_
      unfold wpY_entryNumber
      refine yv_isV ⟨j, hj, rfl⟩ (br_f (by decide) ⟨hi, ?_⟩)
      rw [hc]
      exact br_f e2 ⟨rfl, hR⟩
theorem i_vc_same {k : Nat} {u : SX} {v : SY} (I : i_Rel k u v) (hk : k + 5 ≤ 2560) (v1 : Int32) (v2 : Int32) : wpX_same (fun r => wpY_same (fun r' => r' = r ∧ i_Rel (k + 5) u v) v v1 v2) u v1 v2 := by
  have hR := i_up I
  obtain ⟨E, N, oL, fC, oC, wt, cK, cO, cR, rg, oP, oX, oY, oZ, lS, lT, lL, iu, sz, ke, fd, ou, dp, tp, fl, lo, kd, ex, ey, vs, vn, zy, es, eu, tk, sn, wk, sg, so, nu, la, tu, lz, rfl, rfl, J⟩ := I
  obtain ⟨hE, hN, hVE, hVS, hiu, htk, U, H⟩ := J
  unfold wpX_same
  rcases cv_6 (v := v1) with h | ⟨j, hj, rfl⟩
  · refine xv_noV h (br_t rfl ?_)
    unfold wpY_same
    refine yv_noV h (br_t rfl ⟨rfl, hR⟩)
  · refine xv_isV ⟨j, hj, rfl⟩ (br_f (by decide) ?_)
    rcases cv_6 (v := v2) with h | ⟨i, hi, rfl⟩
    · refine xv_noV h (br_t rfl ?_)
      unfold wpY_same
      refine yv_isV ⟨j, hj, rfl⟩ (br_f (by decide) ?_)
      refine yv_noV h (br_t rfl ⟨rfl, hR⟩)
    · have hj2 : vp_in (nI j) 6 := vp_in_nI hj (by decide)
      have hi2 : vp_in (nI i) 6 := vp_in_nI hi (by decide)
      refine xv_isV ⟨i, hi, rfl⟩ (br_f (by decide) ⟨hj2, hi2, ?_⟩)
      rw [show (nI j).toNatClampNeg = j from nI_clamp (by omega), show (nI i).toNatClampNeg = i from nI_clamp (by omega)]
      have e := cv_inj (cv_ok_s (H.2.2 j hj)) (cv_ok_s (H.2.2 i hi))
      have fin : ∀ r : Int32, (r = 1 ↔ (vs j = vs i ∧ vn j = vn i)) → (r = 0 ∨ r = 1) → wpY_same (fun r' => r' = r ∧ i_Rel (k + 5) (nI E, nI N, oL, fC, oC, wt, cK, cO, cR, rg, oP, oX, oY, oZ, lS, lT, lL, cv_f vs vn, iu, sz, ke, cv_f es eu, fd, ou) (nI E, nI N, oC, dp, tp, fl, lo, kd, ex, ey, wt, oP, oX, oY, oZ, vs, vn, zy, ke, es, eu, tk, sn, ou, wk, sg, so, nu, la, tu, lz)) (nI E, nI N, oC, dp, tp, fl, lo, kd, ex, ey, wt, oP, oX, oY, oZ, vs, vn, zy, ke, es, eu, tk, sn, ou, wk, sg, so, nu, la, tu, lz) (nI j) (nI i) := by
        intro r hr hr2
        unfold wpY_same
        refine yv_isV ⟨j, hj, rfl⟩ (br_f (by decide) ?_)
        refine yv_isV ⟨i, hi, rfl⟩ (br_f (by decide) ⟨hj2, hi2, ?_⟩)
        rw [show (nI j).toNatClampNeg = j from nI_clamp (by omega), show (nI i).toNatClampNeg = i from nI_clamp (by omega)]
        have n0 : ¬ (vs j = vs i ∧ vn j = vn i) → (0 : Int32) = r := fun z => by
          rcases hr2 with rfl | rfl
          · rfl
          · exact absurd (hr.mp rfl) z
        refine br_c (fun q1 => ⟨hj2, br_c (fun q2 => ⟨?_, hR⟩) (fun q2 => ⟨hj2, hi2, br_c (fun q3 => ⟨(hr.mpr ⟨q1, q3⟩).symm, hR⟩) (fun q3 => ⟨n0 (fun z => q3 z.2), hR⟩)⟩)⟩) (fun q1 => ⟨n0 (fun z => q1 z.1), hR⟩)
        refine (hr.mpr ⟨q1, ?_⟩).symm
        have a1 : vn j = 0 := tm_kind (H.2.2 j hj) (fun _ e => e) (fun e => absurd (e.symm.trans q2) (by decide)) (fun p e _ _ _ => absurd (e.symm.trans q2) (by decide))
        have a2 : vn i = 0 := tm_kind (H.2.2 i hi) (fun _ e => e) (fun e => absurd (e.symm.trans (q1.symm.trans q2)) (by decide)) (fun p e _ _ _ => absurd (e.symm.trans (q1.symm.trans q2)) (by decide))
        rw [a1, a2]
      refine br_c (fun q => ?_) (fun q => ?_)
      · exact fin 1 ⟨fun _ => e.mp q, fun _ => rfl⟩ (Or.inr rfl)
      · exact fin 0 ⟨fun z => absurd z (by decide), fun z => absurd (e.mpr z) q⟩ (Or.inl rfl)
theorem i_vc_shown {k : Nat} {u : SX} {v : SY} (I : i_Rel k u v) (hk : k + 5 ≤ 2560) : wpX_shown (fun r => wpY_shown (fun r' => r' = r ∧ i_Rel (k + 5) u v) v) u := by
  have hR := i_up I
  obtain ⟨E, N, oL, fC, oC, wt, cK, cO, cR, rg, oP, oX, oY, oZ, lS, lT, lL, iu, sz, ke, fd, ou, dp, tp, fl, lo, kd, ex, ey, vs, vn, zy, es, eu, tk, sn, wk, sg, so, nu, la, tu, lz, rfl, rfl, J⟩ := I
  exact ⟨rfl, hR⟩
theorem i_vc_output {k : Nat} {u : SX} {v : SY} (I : i_Rel k u v) (hk : k + 5 ≤ 2560) (v1 : Int32) : wpX_output (fun r => wpY_output (fun r' => r' = r ∧ i_Rel (k + 5) u v) v v1) u v1 := by
  have hR := i_up I
  obtain ⟨E, N, oL, fC, oC, wt, cK, cO, cR, rg, oP, oX, oY, oZ, lS, lT, lL, iu, sz, ke, fd, ou, dp, tp, fl, lo, kd, ex, ey, vs, vn, zy, es, eu, tk, sn, wk, sg, so, nu, la, tu, lz, rfl, rfl, J⟩ := I
  unfold wpX_output wpY_output
  by_cases h0 : v1 < 0
  · exact br_t h0 (br_t h0 ⟨rfl, hR⟩)
  · obtain ⟨j, hj, rfl⟩ := nI_of h0
    by_cases h1 : oC ≤ nI j
    · exact br_f h0 (br_t h1 (br_f h0 (br_t h1 ⟨rfl, hR⟩)))
    · by_cases h2 : j < 30
      · have hi : vp_in (nI j) 30 := vp_in_nI h2 (by decide)
        exact br_f h0 (br_f h1 (br_f (nI_ge (b := 30) h2 (by decide)) ⟨hi, br_f h0 (br_f h1 (br_f (nI_nlt (a := 29) (b := j) (by omega) (by decide)) ⟨hi, rfl, hR⟩))⟩))
      · exact br_f h0 (br_f h1 (br_t (nI_le (a := 30) (by omega) hj) (br_f h0 (br_f h1 (br_t (nI_lt (a := 29) (by omega) hj) ⟨rfl, hR⟩)))))
theorem i_vc_retract {k : Nat} {u : SX} {v : SY} (I : i_Rel k u v) (hk : k + 5 ≤ 2560) : wpX_retract (fun r u' => wpY_retract (fun r' v' => r' = r ∧ i_Rel (k + 5) u' v') v) u := by
  have hR := i_up I
  obtain ⟨E, N, oL, fC, oC, wt, cK, cO, cR, rg, oP, oX, oY, oZ, lS, lT, lL, iu, sz, ke, fd, ou, dp, tp, fl, lo, kd, ex, ey, vs, vn, zy, es, eu, tk, sn, wk, sg, so, nu, la, tu, lz, rfl, rfl, J⟩ := I
  obtain ⟨hE, hN, hVE, hVS, hiu, htk, U, H⟩ := J
  unfold wpX_retract wpY_retract
  by_cases h0 : N = 0
  · subst h0
    exact br_t rfl (br_t rfl ⟨rfl, hR⟩)
  · obtain ⟨M, rfl⟩ : ∃ M, N = M + 1 := ⟨N - 1, by omega⟩
    have h1 : ¬ nI (M + 1) = 0 := nI_ne0 (by omega) (by omega)
    refine br_f h1 (nm_r (nI_pred M) (br_f h1 (nm_r (nI_pred M) ⟨rfl, ?_⟩)))
    exact ⟨E, M, oL, fC, oC, wt, cK, cO, cR, rg, oP, oX, oY, oZ, lS, lT, lL, iu, sz, ke, fd, ou, dp, tp, fl, lo, kd, ex, ey, vs, vn, zy, es, eu, tk, sn, wk, sg, so, nu, la, tu, lz, rfl, rfl, hE, by omega, hVE, fun s hs => hVS s (by omega), hiu, htk, U, H⟩
end
section
/-! named, sound -/
def tm_nm (oP oY oZ : Nat → Int32) (s : Nat) : Nat := if oP s = 2 then s + (oY s).toNatClampNeg else if oP s = 3 then s + (oZ s).toNatClampNeg else s
/-- how many LOOPs below c name s -/
def tm_lo (oP oY oZ : Nat → Int32) (s : Nat) : Nat → Nat
  | 0 => 0
  | c + 1 => tm_lo oP oY oZ s c + (if oP c = 3 ∧ s ≤ tm_nm oP oY oZ c then 1 else 0)
theorem tm_lo_le (oP oY oZ : Nat → Int32) (s c : Nat) : tm_lo oP oY oZ s c ≤ c := by
  induction c with
  | zero => exact Nat.le_refl 0
  | succ c ih =>
    show tm_lo oP oY oZ s c + _ ≤ c + 1
    split <;> omega
theorem tm_lo_mono (oP oY oZ : Nat → Int32) (s : Nat) {c d : Nat} (h : c ≤ d) : tm_lo oP oY oZ s c ≤ tm_lo oP oY oZ s d := by
  induction d with
  | zero => rw [show c = 0 by omega]; exact Nat.le_refl _
  | succ d ih =>
    by_cases e : c = d + 1
    · rw [e]; exact Nat.le_refl _
    · exact Nat.le_trans (ih (by omega)) (Nat.le_add_right _ _)
theorem tm_lo_hit {oP oY oZ : Nat → Int32} {s c : Nat} (h : oP c = 3) (h2 : s ≤ tm_nm oP oY oZ c) : tm_lo oP oY oZ s (c + 1) = tm_lo oP oY oZ s c + 1 := by
  show tm_lo oP oY oZ s c + _ = _
  rw [if_pos ⟨h, h2⟩]
theorem tm_lo_miss {oP oY oZ : Nat → Int32} {s c : Nat} (h : ¬ (oP c = 3 ∧ s ≤ tm_nm oP oY oZ c)) : tm_lo oP oY oZ s (c + 1) = tm_lo oP oY oZ s c := by
  show tm_lo oP oY oZ s c + _ = _
  rw [if_neg h]; rfl
def tm_snd (N : Nat) (oP oY oZ : Nat → Int32) : Prop := ∀ s, s < N → tm_nm oP oY oZ s < N ∧ (∀ i, s < i → i ≤ tm_nm oP oY oZ s → tm_nm oP oY oZ i ≤ tm_nm oP oY oZ s) ∧ tm_lo oP oY oZ s s ≤ 2
theorem tm_nm_b {E : Nat} {oP oX oY oZ : Nat → Int32} {s : Nat} (h : tm_st E (oP s) (oX s) (oY s) (oZ s)) : s ≤ tm_nm oP oY oZ s ∧ tm_nm oP oY oZ s ≤ s + 6 := by
  unfold tm_nm
  rcases h with ⟨h, _⟩ | ⟨h, _⟩ | ⟨h, _, m, h1, h2, h3⟩ | ⟨h, _, _, m, h1, h2, h3⟩ | ⟨h, _⟩ <;> rw [h]
  · rw [if_neg (by decide), if_neg (by decide)]; omega
  · rw [if_neg (by decide), if_neg (by decide)]; omega
  · rw [if_pos rfl, h3, nI_clamp (by omega)]; omega
  · rw [if_neg (by decide), if_pos rfl, h3, nI_clamp (by omega)]; omega
  · rw [if_neg (by decide), if_neg (by decide)]; omega
section
variable {eN sN oL fC oC : Int32} {wt cK cO cR : Nat → Int32} {rg : Nat → Int64} {oP oX oY oZ lS lT lL : Nat → Int32} {va : Nat → Int64} {iu sz ke : Nat → Int32} {en : Nat → Int64} {fd : Nat → Int32} {ou : Nat → Int64} {yE yN yC dp tp fl lo : Int32} {kd ex ey yW yP yX yY yZ vs vn zy yK es eu tk sn : Nat → Int32} {yO : Nat → Int64} {wk sg so nu la tu lz : Nat → Int32}
theorem xn_named {post : Int32 → Prop} {E s : Nat} (hs : s < 14) (h : tm_st E (oP s) (oX s) (oY s) (oZ s)) (hp : post (nI (tm_nm oP oY oZ s))) : wpX_lastNamed post (eN, sN, oL, fC, oC, wt, cK, cO, cR, rg, oP, oX, oY, oZ, lS, lT, lL, va, iu, sz, ke, en, fd, ou) (nI s) := by
  have hi : vp_in (nI s) 14 := vp_in_nI hs (by decide)
  have hc : (nI s).toNatClampNeg = s := nI_clamp (by omega)
  unfold wpX_lastNamed
  unfold tm_nm at hp
  refine ⟨hi, ?_⟩
  rw [hc]
  rcases h with ⟨h, _⟩ | ⟨h, _⟩ | ⟨h, _, m, h1, h2, h3⟩ | ⟨h, _, _, m, h1, h2, h3⟩ | ⟨h, _⟩ <;> rw [h] at hp ⊢
  · rw [if_neg (by decide), if_neg (by decide)] at hp
    exact br_f (by decide) ⟨hi, br_f (by decide) hp⟩
  · rw [if_neg (by decide), if_neg (by decide)] at hp
    exact br_f (by decide) ⟨hi, br_f (by decide) hp⟩
  · rw [if_pos rfl, h3, nI_clamp (by omega), ← nI_add] at hp
    rw [h3]
    exact br_t rfl ⟨hi, hp⟩
  · rw [if_neg (by decide), if_pos rfl, h3, nI_clamp (by omega), ← nI_add] at hp
    rw [h3]
    exact br_f (by decide) ⟨hi, br_t rfl ⟨hi, hp⟩⟩
  · rw [if_neg (by decide), if_neg (by decide)] at hp
    exact br_f (by decide) ⟨hi, br_f (by decide) hp⟩
theorem yn_named {post : Int32 → Prop} {E s : Nat} (hs : s < 14) (h : tm_st E (yP s) (yX s) (yY s) (yZ s)) (hp : post (nI (tm_nm yP yY yZ s))) : wpY_named post (yE, yN, yC, dp, tp, fl, lo, kd, ex, ey, yW, yP, yX, yY, yZ, vs, vn, zy, yK, es, eu, tk, sn, yO, wk, sg, so, nu, la, tu, lz) (nI s) := by
  have hi : vp_in (nI s) 14 := vp_in_nI hs (by decide)
  have hc : (nI s).toNatClampNeg = s := nI_clamp (by omega)
  unfold wpY_named
  unfold tm_nm at hp
  refine ⟨hi, ?_⟩
  rw [hc]
  rcases h with ⟨h, _⟩ | ⟨h, _⟩ | ⟨h, _, m, h1, h2, h3⟩ | ⟨h, _, _, m, h1, h2, h3⟩ | ⟨h, _⟩ <;> rw [h] at hp ⊢
  · rw [if_neg (by decide), if_neg (by decide)] at hp
    exact br_f (by decide) ⟨hi, br_f (by decide) hp⟩
  · rw [if_neg (by decide), if_neg (by decide)] at hp
    exact br_f (by decide) ⟨hi, br_f (by decide) hp⟩
  · rw [if_pos rfl, h3, nI_clamp (by omega), ← nI_add] at hp
    rw [h3]
    exact br_t rfl ⟨hi, hp⟩
  · rw [if_neg (by decide), if_pos rfl, h3, nI_clamp (by omega), ← nI_add] at hp
    rw [h3]
    exact br_f (by decide) ⟨hi, br_t rfl ⟨hi, hp⟩⟩
  · rw [if_neg (by decide), if_neg (by decide)] at hp
    exact br_f (by decide) ⟨hi, br_f (by decide) hp⟩
theorem xn_sl {post : Int32 → Prop} {E N L : Nat} (hV : tm_VS E N oP oX oY oZ) (hN : N ≤ 14) (hL : L < N) : ∀ d i : Nat, i + d = L + 1 → ((∀ j, i ≤ j → j ≤ L → tm_nm oP oY oZ j ≤ L) → post 1) → (¬ (∀ j, i ≤ j → j ≤ L → tm_nm oP oY oZ j ≤ L) → post 0) → wX_namesSoundly_20 post (nI L) eN sN oL fC oC wt cK cO cR rg oP oX oY oZ lS lT lL va iu sz ke en fd ou (d + 1) (nI i) := by
  intro d
  induction d with
  | zero =>
    intro i hi h1 h0
    exact br_t (nI_lt (by omega) (by omega)) (h1 (fun j a b => by omega))
  | succ d ih =>
    intro i hi h1 h0
    refine br_f (nI_nlt (by omega) (by omega)) (xn_named (E := E) (by omega) (hV i (by omega)) ?_)
    have hb := tm_nm_b (hV i (by omega))
    by_cases q : tm_nm oP oY oZ i ≤ L
    · refine br_t (nI_le q (by omega)) (nm_r (nI_1 i) (ih (i + 1) (by omega) (fun z => h1 fun j a b => ?_) (fun z => h0 fun y => z fun j a b => y j (by omega) b)))
      by_cases e : i = j
      · rw [← e]; exact q
      · exact z j (by omega) b
    · exact br_f (nI_ge (by omega) (by omega)) (h0 fun y => q (y i (Nat.le_refl i) (by omega)))
theorem xn_sly {post : Int32 → Prop} {E N s : Nat} (hV : tm_VS E N oP oX oY oZ) (hN : N ≤ 14) (hs : s < N) (h1 : tm_nm oP oY oZ s < N → (∀ i, s < i → i ≤ tm_nm oP oY oZ s → tm_nm oP oY oZ i ≤ tm_nm oP oY oZ s) → post 1) (h0 : ¬ (tm_nm oP oY oZ s < N ∧ (∀ i, s < i → i ≤ tm_nm oP oY oZ s → tm_nm oP oY oZ i ≤ tm_nm oP oY oZ s)) → post 0) : wpX_namesSoundly post (eN, nI N, oL, fC, oC, wt, cK, cO, cR, rg, oP, oX, oY, oZ, lS, lT, lL, va, iu, sz, ke, en, fd, ou) (nI s) := by
  have hb := tm_nm_b (hV s hs)
  unfold wpX_namesSoundly
  refine xn_named (E := E) (by omega) (hV s hs) ?_
  by_cases q : tm_nm oP oY oZ s < N
  · refine br_t (nI_lt q (by omega)) (nm_r (nI_1 s) ⟨_, xn_sl hV hN q (tm_nm oP oY oZ s - s) (s + 1) (by omega) (fun z => h1 q fun i a b => z i a b) (fun z => h0 fun y => z fun i a b => y.2 i a b)⟩)
  · exact br_f (nI_nlt (by omega) (by omega)) (h0 fun y => q y.1)
theorem xn_lo {post : Int32 → Prop} {E N s : Nat} (hV : tm_VS E N oP oX oY oZ) (hN : N ≤ 14) (hs : s < N) (hp : post (nI (tm_lo oP oY oZ s s))) : ∀ d i : Nat, i + d = s → wX_loopsOver_4 post (nI s) eN sN oL fC oC wt cK cO cR rg oP oX oY oZ lS lT lL va iu sz ke en fd ou (d + 1) (nI (tm_lo oP oY oZ s i)) (nI i) := by
  intro d
  induction d with
  | zero =>
    intro i hi
    obtain rfl : i = s := by omega
    exact br_t (nI_le (Nat.le_refl _) (by omega)) hp
  | succ d ih =>
    intro i hi
    have hb := tm_nm_b (hV i (by omega))
    have hc : (nI i).toNatClampNeg = i := nI_clamp (by omega)
    have ih' := ih (i + 1) (by omega)
    refine br_f (nI_ge (by omega) (by omega)) ⟨vp_in_nI (by omega) (by decide), ?_⟩
    rw [hc]
    by_cases q : oP i = 3
    · refine br_t q (xn_named (E := E) (by omega) (hV i (by omega)) ?_)
      by_cases q2 : tm_nm oP oY oZ i < s
      · rw [tm_lo_miss (fun z => by omega)] at ih'
        exact br_t (nI_lt q2 (by omega)) (nm_r (nI_1 i) ih')
      · rw [tm_lo_hit q (by omega)] at ih'
        exact br_f (nI_nlt (by omega) (by omega)) (nm_r (nI_1 _) (nm_r (nI_1 i) ih'))
    · rw [tm_lo_miss (fun z => q z.1)] at ih'
      exact br_f q (nm_r (nI_1 i) ih')
theorem xn_sd {post : Int32 → Prop} {E N : Nat} (hV : tm_VS E N oP oX oY oZ) (hN : N ≤ 14) : ∀ d i : Nat, i + d = N → ((∀ s, i ≤ s → s < N → tm_nm oP oY oZ s < N ∧ (∀ i, s < i → i ≤ tm_nm oP oY oZ s → tm_nm oP oY oZ i ≤ tm_nm oP oY oZ s) ∧ tm_lo oP oY oZ s s ≤ 2) → post 1) → (¬ (∀ s, i ≤ s → s < N → tm_nm oP oY oZ s < N ∧ (∀ i, s < i → i ≤ tm_nm oP oY oZ s → tm_nm oP oY oZ i ≤ tm_nm oP oY oZ s) ∧ tm_lo oP oY oZ s s ≤ 2) → post 0) → wX_sound_2 post eN (nI N) oL fC oC wt cK cO cR rg oP oX oY oZ lS lT lL va iu sz ke en fd ou (d + 1) (nI i) := by
  intro d
  induction d with
  | zero =>
    intro i hi h1 h0
    exact br_t (nI_le (by omega) (by omega)) (h1 fun s a b => by omega)
  | succ d ih =>
    intro i hi h1 h0
    refine br_f (nI_ge (by omega) (by omega)) (xn_sly hV hN (by omega) (fun a b => br_f (by decide) ?_) (fun a => br_t rfl (h0 fun y => a ⟨(y i (Nat.le_refl i) (by omega)).1, (y i (Nat.le_refl i) (by omega)).2.1⟩)))
    unfold wpX_loopsOver
    refine ⟨_, xn_lo hV hN (by omega) ?_ i 0 (by omega)⟩
    have hl := tm_lo_le oP oY oZ i i
    by_cases q : tm_lo oP oY oZ i i ≤ 2
    · refine br_t (nI_le (b := 2) q (by decide)) (nm_r (nI_1 i) (ih (i + 1) (by omega) (fun z => h1 fun s c e => ?_) (fun z => h0 fun y => z fun s c e => y s (by omega) e)))
      by_cases e2 : i = s
      · subst e2; exact ⟨a, b, q⟩
      · exact z s (by omega) e
    · exact br_f (nI_ge (a := 2) (by omega) (by omega)) (h0 fun y => q (y i (Nat.le_refl i) (by omega)).2.2)
theorem xn_sound {post : Int32 → Prop} {E N : Nat} (hV : tm_VS E N oP oX oY oZ) (hN : N ≤ 14) (h1 : tm_snd N oP oY oZ → post 1) (h0 : ¬ tm_snd N oP oY oZ → post 0) : wpX_sound post (eN, nI N, oL, fC, oC, wt, cK, cO, cR, rg, oP, oX, oY, oZ, lS, lT, lL, va, iu, sz, ke, en, fd, ou) := by
  unfold wpX_sound
  exact ⟨_, xn_sd hV hN N 0 (by omega) (fun z => h1 fun s hs => z s (Nat.zero_le s) hs) (fun z => h0 fun y => z fun s _ hs => y s hs)⟩
theorem yn_in {post J2 : Int32 → Prop} {E N i : Nat} (hV : tm_VS E N yP yX yY yZ) (hN : N ≤ 14) (hi : i < N) : ∀ d k : Nat, k + d = i → (((∀ j, k ≤ j → j < i → i ≤ tm_nm yP yY yZ j → tm_nm yP yY yZ i ≤ tm_nm yP yY yZ j) ∧ tm_lo yP yY yZ i i ≤ 2) → J2 (nI (i + 1))) → (¬ ((∀ j, k ≤ j → j < i → i ≤ tm_nm yP yY yZ j → tm_nm yP yY yZ i ≤ tm_nm yP yY yZ j) ∧ tm_lo yP yY yZ i i ≤ 2) → post 0) → wY_sound_28 post J2 (nI i) yE yN yC dp tp fl lo kd ex ey yW yP yX yY yZ vs vn zy yK es eu tk sn yO wk sg so nu la tu lz (d + 1) (nI (tm_lo yP yY yZ i k)) (nI k) := by
  intro d
  induction d with
  | zero =>
    intro k hk h1 h0
    obtain rfl : k = i := by omega
    have hl := tm_lo_le yP yY yZ k k
    refine br_t (nI_le (Nat.le_refl _) (by omega)) ?_
    by_cases q : tm_lo yP yY yZ k k ≤ 2
    · exact br_t (nI_le (b := 2) q (by decide)) (nm_r (nI_1 k) (h1 ⟨fun j a b => by omega, q⟩))
    · exact br_f (nI_ge (a := 2) (by omega) (by omega)) (h0 fun y => q y.2)
  | succ d ih =>
    intro k hk h1 h0
    have hb := tm_nm_b (hV k (by omega))
    have hb2 := tm_nm_b (hV i hi)
    have hc : (nI k).toNatClampNeg = k := nI_clamp (by omega)
    have hin : vp_in (nI k) 14 := vp_in_nI (by omega) (by decide)
    have ih' := ih (k + 1) (by omega)
    refine br_f (nI_ge (by omega) (by omega)) (yn_named (E := E) (by omega) (hV k (by omega)) ?_)
    by_cases q : tm_nm yP yY yZ k < i
    · refine br_t (nI_lt q (by omega)) (br_t rfl (br_t rfl (nm_r (nI_1 k) ?_)))
      rw [tm_lo_miss (fun z => by omega)] at ih'
      exact ih' (fun z => h1 ⟨fun j a b c => by
        by_cases e : k = j
        · subst e; omega
        · exact z.1 j (by omega) b c, z.2⟩) (fun z => h0 fun y => z ⟨fun j a b c => y.1 j (by omega) b c, y.2⟩)
    · refine br_f (nI_nlt (by omega) (by omega)) (br_f (by decide) (yn_named (E := E) (by omega) (hV i hi) (yn_named (E := E) (by omega) (hV k (by omega)) ?_)))
      by_cases q2 : tm_nm yP yY yZ i ≤ tm_nm yP yY yZ k
      · refine br_t (nI_le q2 (by omega)) (br_f (by decide) ⟨hin, ?_⟩)
        rw [hc]
        have g1 : ((∀ j, k + 1 ≤ j → j < i → i ≤ tm_nm yP yY yZ j → tm_nm yP yY yZ i ≤ tm_nm yP yY yZ j) ∧ tm_lo yP yY yZ i i ≤ 2) → J2 (nI (i + 1)) := fun z => h1 ⟨fun j a b c => by
          by_cases e : k = j
          · subst e; exact q2
          · exact z.1 j (by omega) b c, z.2⟩
        have g0 : ¬ ((∀ j, k + 1 ≤ j → j < i → i ≤ tm_nm yP yY yZ j → tm_nm yP yY yZ i ≤ tm_nm yP yY yZ j) ∧ tm_lo yP yY yZ i i ≤ 2) → post 0 := fun z => h0 fun y => z ⟨fun j a b c => y.1 j (by omega) b c, y.2⟩
        by_cases q3 : yP k = 3
        · rw [tm_lo_hit q3 (by omega)] at ih'
          exact br_t q3 (nm_r (nI_1 _) (nm_r (nI_1 k) (ih' g1 g0)))
        · rw [tm_lo_miss (fun z => q3 z.1)] at ih'
          exact br_f q3 (nm_r (nI_1 k) (ih' g1 g0))
      · exact br_f (nI_ge (by omega) (by omega)) (h0 fun y => q2 (y.1 k (Nat.le_refl k) (by omega) (by omega)))
theorem yn_sd {post : Int32 → Prop} {E N : Nat} (hV : tm_VS E N yP yX yY yZ) (hN : N ≤ 14) : ∀ d i : Nat, i + d = N → ((∀ s, i ≤ s → s < N → tm_nm yP yY yZ s < N ∧ (∀ j, j < s → s ≤ tm_nm yP yY yZ j → tm_nm yP yY yZ s ≤ tm_nm yP yY yZ j) ∧ tm_lo yP yY yZ s s ≤ 2) → post 1) → (¬ (∀ s, i ≤ s → s < N → tm_nm yP yY yZ s < N ∧ (∀ j, j < s → s ≤ tm_nm yP yY yZ j → tm_nm yP yY yZ s ≤ tm_nm yP yY yZ j) ∧ tm_lo yP yY yZ s s ≤ 2) → post 0) → wY_sound_2 post yE (nI N) yC dp tp fl lo kd ex ey yW yP yX yY yZ vs vn zy yK es eu tk sn yO wk sg so nu la tu lz (d + 1) (nI i) := by
  intro d
  induction d with
  | zero =>
    intro i hi h1 h0
    exact br_t (nI_le (by omega) (by omega)) (h1 fun s a b => by omega)
  | succ d ih =>
    intro i hi h1 h0
    have hb := tm_nm_b (hV i (by omega))
    refine br_f (nI_ge (by omega) (by omega)) (yn_named (E := E) (by omega) (hV i (by omega)) ?_)
    by_cases q : tm_nm yP yY yZ i < N
    · refine br_t (nI_lt q (by omega)) ⟨_, yn_in hV hN (by omega) i 0 (by omega) (fun z => ih (i + 1) (by omega) (fun z2 => h1 fun s c e => ?_) (fun z2 => h0 fun y => z2 fun s c e => y s (by omega) e)) (fun z => h0 fun y => z ⟨fun j _ b c => (y i (Nat.le_refl i) (by omega)).2.1 j b c, (y i (Nat.le_refl i) (by omega)).2.2⟩)⟩
      by_cases e2 : i = s
      · subst e2; exact ⟨q, fun j b c => z.1 j (Nat.zero_le j) b c, z.2⟩
      · exact z2 s (by omega) e
    · exact br_f (nI_nlt (by omega) (by omega)) (h0 fun y => q (y i (Nat.le_refl i) (by omega)).1)
theorem yn_sound {post : Int32 → Prop} {E N : Nat} (hV : tm_VS E N yP yX yY yZ) (hN : N ≤ 14) (h1 : tm_snd N yP yY yZ → post 1) (h0 : ¬ tm_snd N yP yY yZ → post 0) : wpY_sound post (yE, nI N, yC, dp, tp, fl, lo, kd, ex, ey, yW, yP, yX, yY, yZ, vs, vn, zy, yK, es, eu, tk, sn, yO, wk, sg, so, nu, la, tu, lz) := by
  unfold wpY_sound
  refine ⟨_, yn_sd hV hN N 0 (by omega) (fun z => h1 fun s hs => ?_) (fun z => h0 fun y => z fun s _ hs => ?_)⟩
  · exact ⟨(z s (Nat.zero_le s) hs).1, fun i a b => (z i (Nat.zero_le i) (by have := (z s (Nat.zero_le s) hs).1; omega)).2.1 s a b, (z s (Nat.zero_le s) hs).2.2⟩
  · exact ⟨(y s hs).1, fun j a b => (y j (by omega)).2.1 s a b, (y s hs).2.2⟩
end
theorem i_vc_sound {k : Nat} {u : SX} {v : SY} (I : i_Rel k u v) (hk : k + 5 ≤ 2560) : wpX_sound (fun r => wpY_sound (fun r' => r' = r ∧ i_Rel (k + 5) u v) v) u := by
  have hR := i_up I
  obtain ⟨E, N, oL, fC, oC, wt, cK, cO, cR, rg, oP, oX, oY, oZ, lS, lT, lL, iu, sz, ke, fd, ou, dp, tp, fl, lo, kd, ex, ey, vs, vn, zy, es, eu, tk, sn, wk, sg, so, nu, la, tu, lz, rfl, rfl, J⟩ := I
  obtain ⟨hE, hN, hVE, hVS, hiu, htk, U, H⟩ := J
  exact xn_sound hVS hN (fun a => yn_sound hVS hN (fun _ => ⟨rfl, hR⟩) (fun b => absurd a b)) (fun a => yn_sound hVS hN (fun b => absurd b a) (fun _ => ⟨rfl, hR⟩))
end
section
/-! state, express -/
theorem st_0 {E : Nat} {x y z : Int32} (h : tm_st E 0 x y z) : (∃ v, v < 6 ∧ x = nI v) ∧ ∃ b, b < E ∧ y = nI b := by
  rcases h with ⟨_, h⟩ | ⟨h, _⟩ | ⟨h, _⟩ | ⟨h, _⟩ | ⟨h, _⟩
  · exact h
  all_goals exact absurd h (by decide)
theorem st_1 {E : Nat} {x y z : Int32} (h : tm_st E 1 x y z) : (∃ a, a < E ∧ x = nI a) ∧ (∃ b, b < E ∧ y = nI b) ∧ ∃ c, c < E ∧ z = nI c := by
  rcases h with ⟨h, _⟩ | ⟨_, h⟩ | ⟨h, _⟩ | ⟨h, _⟩ | ⟨h, _⟩
  · exact absurd h (by decide)
  · exact h
  all_goals exact absurd h (by decide)
theorem st_2 {E : Nat} {x y z : Int32} (h : tm_st E 2 x y z) : (∃ a, a < E ∧ x = nI a) ∧ ∃ m, 1 ≤ m ∧ m ≤ 6 ∧ y = nI m := by
  rcases h with ⟨h, _⟩ | ⟨h, _⟩ | ⟨_, h⟩ | ⟨h, _⟩ | ⟨h, _⟩
  · exact absurd h (by decide)
  · exact absurd h (by decide)
  · exact h
  all_goals exact absurd h (by decide)
theorem st_3 {E : Nat} {x y z : Int32} (h : tm_st E 3 x y z) : (∃ v, v < 6 ∧ x = nI v) ∧ (∃ b, b < E ∧ y = nI b) ∧ ∃ m, 1 ≤ m ∧ m ≤ 6 ∧ z = nI m := by
  rcases h with ⟨h, _⟩ | ⟨h, _⟩ | ⟨h, _⟩ | ⟨_, h⟩ | ⟨h, _⟩
  · exact absurd h (by decide)
  · exact absurd h (by decide)
  · exact absurd h (by decide)
  · exact h
  · exact absurd h (by decide)
theorem st_4 {E : Nat} {x y z : Int32} (h : tm_st E 4 x y z) : ∃ a, a < E ∧ x = nI a := by
  rcases h with ⟨h, _⟩ | ⟨h, _⟩ | ⟨h, _⟩ | ⟨h, _⟩ | ⟨_, h⟩
  · exact absurd h (by decide)
  · exact absurd h (by decide)
  · exact absurd h (by decide)
  · exact absurd h (by decide)
  · exact h
theorem st_n {E : Nat} {p x y z : Int32} (h : tm_st E p x y z) : p = 0 ∨ p = 1 ∨ p = 2 ∨ p = 3 ∨ p = 4 := by
  rcases h with ⟨h, _⟩ | ⟨h, _⟩ | ⟨h, _⟩ | ⟨h, _⟩ | ⟨h, _⟩
  · exact Or.inl h
  · exact Or.inr (Or.inl h)
  · exact Or.inr (Or.inr (Or.inl h))
  · exact Or.inr (Or.inr (Or.inr (Or.inl h)))
  · exact Or.inr (Or.inr (Or.inr (Or.inr h)))
theorem xv_V0 {post : Int32 → Prop} {v : Int32} (h : ¬ ∃ j, j < 6 ∧ v = nI j) (hp : post 0) : wpX_isVariable post v := xv_noV (cv_6.resolve_right h) hp
theorem xv_st {post : Int32 → Prop} {v : Int32} (h1 : (∃ m, 1 ≤ m ∧ m ≤ 6 ∧ v = nI m) → post 1) (h0 : ¬ (∃ m, 1 ≤ m ∧ m ≤ 6 ∧ v = nI m) → post 0) : wpX_canBeNamed post v := by
  unfold wpX_canBeNamed
  rcases pk_ix v (n := 7) (by decide) with h | h | ⟨j, hj, rfl⟩
  · refine br_t (Int32.lt_trans h (by decide)) (h0 ?_)
    rintro ⟨m, a, b, rfl⟩
    exact nI_pos (by omega) h
  · have h6 : ¬ v < 0 := fun z => absurd (Int32.lt_of_le_of_lt h z) (by decide)
    obtain ⟨j, hj, rfl⟩ := nI_of h6
    have h7 := (nI_leI (a := 7) (by decide) hj).mp h
    refine br_f (nI_nlt (b := 1) (by omega) hj) (br_t (nI_lt (a := 6) (by omega) hj) (h0 ?_))
    rintro ⟨m, a, b, e⟩
    have := (nI_eq hj (by omega)).mp e
    omega
  · by_cases q : j = 0
    · subst q
      refine br_t (by decide) (h0 ?_)
      rintro ⟨m, a, b, e⟩
      have := (nI_eq (by omega) (by omega)).mp e
      omega
    · exact br_f (nI_nlt (b := 1) (by omega) (by omega)) (br_f (nI_nlt (a := 6) (by omega) (by decide)) (h1 ⟨j, by omega, by omega, rfl⟩))
section
variable {eN sN oL fC oC : Int32} {wt cK cO cR : Nat → Int32} {rg : Nat → Int64} {oP oX oY oZ lS lT lL : Nat → Int32} {va : Nat → Int64} {iu sz ke : Nat → Int32} {en : Nat → Int64} {fd : Nat → Int32} {ou : Nat → Int64} {yE yN yC dp tp fl lo : Int32} {kd ex ey yW yP yX yY yZ vs vn zy yK es eu tk sn : Nat → Int32} {yO : Nat → Int64} {wk sg so nu la tu lz : Nat → Int32}
theorem yv_V0 {post : Int32 → Prop} {v : Int32} (h : ¬ ∃ j, j < 6 ∧ v = nI j) (hp : post 0) : wpY_isVariable post (yE, yN, yC, dp, tp, fl, lo, kd, ex, ey, yW, yP, yX, yY, yZ, vs, vn, zy, yK, es, eu, tk, sn, yO, wk, sg, so, nu, la, tu, lz) v := yv_noV (cv_6.resolve_right h) hp
theorem yv_st {post : Int32 → Prop} {v : Int32} (h1 : (∃ m, 1 ≤ m ∧ m ≤ 6 ∧ v = nI m) → post 1) (h0 : ¬ (∃ m, 1 ≤ m ∧ m ≤ 6 ∧ v = nI m) → post 0) : wpY_isStretch post (yE, yN, yC, dp, tp, fl, lo, kd, ex, ey, yW, yP, yX, yY, yZ, vs, vn, zy, yK, es, eu, tk, sn, yO, wk, sg, so, nu, la, tu, lz) v := xv_st h1 h0
theorem xv_E1 {post : Int32 → Prop} {E : Nat} {e : Int32} (hE : E ≤ 30) (h : ∃ a, a < E ∧ e = nI a) (hp : post 1) : wpX_isExpression post (nI E, sN, oL, fC, oC, wt, cK, cO, cR, rg, oP, oX, oY, oZ, lS, lT, lL, va, iu, sz, ke, en, fd, ou) e := by
  obtain ⟨a, ha, rfl⟩ := h
  exact br_f (nI_pos (by omega)) (br_f (nI_ge ha (by omega)) hp)
theorem xv_E0 {post : Int32 → Prop} {E : Nat} {e : Int32} (hE : E ≤ 30) (h : ¬ ∃ a, a < E ∧ e = nI a) (hp : post 0) : wpX_isExpression post (nI E, sN, oL, fC, oC, wt, cK, cO, cR, rg, oP, oX, oY, oZ, lS, lT, lL, va, iu, sz, ke, en, fd, ou) e := by
  rcases pk_ix e (n := E) (by omega) with q | q | q
  · exact br_t q hp
  · by_cases q0 : e < 0
    · exact br_t q0 hp
    · exact br_f q0 (br_t q hp)
  · exact absurd q h
theorem yv_E1 {post : Int32 → Prop} {E : Nat} {e : Int32} (hE : E ≤ 30) (h : ∃ a, a < E ∧ e = nI a) (hp : post 1) : wpY_isExpression post (nI E, yN, yC, dp, tp, fl, lo, kd, ex, ey, yW, yP, yX, yY, yZ, vs, vn, zy, yK, es, eu, tk, sn, yO, wk, sg, so, nu, la, tu, lz) e := by
  obtain ⟨a, ha, rfl⟩ := h
  exact br_f (nI_pos (by omega)) (br_f (nI_ge ha (by omega)) hp)
theorem yv_E0 {post : Int32 → Prop} {E : Nat} {e : Int32} (hE : E ≤ 30) (h : ¬ ∃ a, a < E ∧ e = nI a) (hp : post 0) : wpY_isExpression post (nI E, yN, yC, dp, tp, fl, lo, kd, ex, ey, yW, yP, yX, yY, yZ, vs, vn, zy, yK, es, eu, tk, sn, yO, wk, sg, so, nu, la, tu, lz) e := by
  rcases pk_ix e (n := E) (by omega) with q | q | q
  · exact br_t q hp
  · by_cases q0 : e < 0
    · exact br_t q0 hp
    · exact br_f q0 (br_t q hp)
  · exact absurd q h
theorem xn_isSt {post : Int32 → Prop} {E : Nat} {p x y z : Int32} (hE : E ≤ 30) (h1 : tm_st E p x y z → post 1) (h0 : ¬ tm_st E p x y z → post 0) : wpX_isStatement post (nI E, sN, oL, fC, oC, wt, cK, cO, cR, rg, oP, oX, oY, oZ, lS, lT, lL, va, iu, sz, ke, en, fd, ou) p x y z := by
  unfold wpX_isStatement
  by_cases p0 : p = 0
  · subst p0
    refine br_f (by decide) (br_f (by decide) (br_t rfl ?_))
    by_cases hx : ∃ v, v < 6 ∧ x = nI v
    · refine xv_isV hx (br_f (by decide) ?_)
      by_cases hy : ∃ b, b < E ∧ y = nI b
      · exact xv_E1 hE hy (br_f (by decide) (h1 (Or.inl ⟨rfl, hx, hy⟩)))
      · exact xv_E0 hE hy (br_t rfl (h0 fun q => hy (st_0 q).2))
    · exact xv_V0 hx (br_t rfl (h0 fun q => hx (st_0 q).1))
  by_cases p1 : p = 1
  · subst p1
    refine br_f (by decide) (br_f (by decide) (br_f p0 (br_t rfl ?_)))
    by_cases hx : ∃ b, b < E ∧ x = nI b
    · refine xv_E1 hE hx (br_f (by decide) ?_)
      by_cases hy : ∃ b, b < E ∧ y = nI b
      · refine xv_E1 hE hy (br_f (by decide) ?_)
        by_cases hz : ∃ b, b < E ∧ z = nI b
        · exact xv_E1 hE hz (br_f (by decide) (h1 (Or.inr (Or.inl ⟨rfl, hx, hy, hz⟩))))
        · exact xv_E0 hE hz (br_t rfl (h0 fun q => hz (st_1 q).2.2))
      · exact xv_E0 hE hy (br_t rfl (h0 fun q => hy (st_1 q).2.1))
    · exact xv_E0 hE hx (br_t rfl (h0 fun q => hx (st_1 q).1))
  by_cases p2 : p = 2
  · subst p2
    refine br_f (by decide) (br_f (by decide) (br_f p0 (br_f p1 (br_t rfl ?_))))
    by_cases hx : ∃ b, b < E ∧ x = nI b
    · refine xv_E1 hE hx (br_f (by decide) ?_)
      exact xv_st (fun hy => br_f (by decide) (h1 (Or.inr (Or.inr (Or.inl ⟨rfl, hx, hy⟩))))) (fun hy => br_t rfl (h0 fun q => hy (st_2 q).2))
    · exact xv_E0 hE hx (br_t rfl (h0 fun q => hx (st_2 q).1))
  by_cases p3 : p = 3
  · subst p3
    refine br_f (by decide) (br_f (by decide) (br_f p0 (br_f p1 (br_f p2 (br_t rfl ?_)))))
    by_cases hx : ∃ v, v < 6 ∧ x = nI v
    · refine xv_isV hx (br_f (by decide) ?_)
      by_cases hy : ∃ b, b < E ∧ y = nI b
      · refine xv_E1 hE hy (br_f (by decide) ?_)
        exact xv_st (fun hz => br_f (by decide) (h1 (Or.inr (Or.inr (Or.inr (Or.inl ⟨rfl, hx, hy, hz⟩)))))) (fun hz => br_t rfl (h0 fun q => hz (st_3 q).2.2))
      · exact xv_E0 hE hy (br_t rfl (h0 fun q => hy (st_3 q).2.1))
    · exact xv_V0 hx (br_t rfl (h0 fun q => hx (st_3 q).1))
  by_cases p4 : p = 4
  · subst p4
    refine br_f (by decide) (br_f (by decide) (br_f p0 (br_f p1 (br_f p2 (br_f p3 (br_t rfl ?_))))))
    by_cases hx : ∃ b, b < E ∧ x = nI b
    · exact xv_E1 hE hx ⟨rfl, h1 (Or.inr (Or.inr (Or.inr (Or.inr ⟨rfl, hx⟩))))⟩
    · exact xv_E0 hE hx ⟨rfl, h0 fun q => hx (st_4 q)⟩
  have hn : ¬ tm_st E p x y z := fun q => by rcases st_n q with e | e | e | e | e <;> contradiction
  exact br_c (fun _ => h0 hn) (fun _ => br_c (fun _ => h0 hn) (fun _ => br_f p0 (br_f p1 (br_f p2 (br_f p3 (br_f p4 trivial))))))
theorem yn_fits {post : Int32 → Prop} {E : Nat} {p x y z : Int32} (hE : E ≤ 30) (h1 : tm_st E p x y z → post 1) (h0 : ¬ tm_st E p x y z → post 0) : wpY_fits post (nI E, yN, yC, dp, tp, fl, lo, kd, ex, ey, yW, yP, yX, yY, yZ, vs, vn, zy, yK, es, eu, tk, sn, yO, wk, sg, so, nu, la, tu, lz) p x y z := by
  unfold wpY_fits
  by_cases p0 : p = 0
  · subst p0
    refine br_t rfl ?_
    by_cases hx : ∃ v, v < 6 ∧ x = nI v
    · refine yv_isV hx (br_f (by decide) ?_)
      by_cases hy : ∃ b, b < E ∧ y = nI b
      · exact yv_E1 hE hy (br_f (by decide) (h1 (Or.inl ⟨rfl, hx, hy⟩)))
      · exact yv_E0 hE hy (br_t rfl (h0 fun q => hy (st_0 q).2))
    · exact yv_V0 hx (br_t rfl (h0 fun q => hx (st_0 q).1))
  by_cases p1 : p = 1
  · subst p1
    refine br_f p0 (br_t rfl ?_)
    by_cases hx : ∃ b, b < E ∧ x = nI b
    · refine yv_E1 hE hx (br_f (by decide) ?_)
      by_cases hy : ∃ b, b < E ∧ y = nI b
      · refine yv_E1 hE hy (br_f (by decide) ?_)
        by_cases hz : ∃ b, b < E ∧ z = nI b
        · exact yv_E1 hE hz (br_f (by decide) (h1 (Or.inr (Or.inl ⟨rfl, hx, hy, hz⟩))))
        · exact yv_E0 hE hz (br_t rfl (h0 fun q => hz (st_1 q).2.2))
      · exact yv_E0 hE hy (br_t rfl (h0 fun q => hy (st_1 q).2.1))
    · exact yv_E0 hE hx (br_t rfl (h0 fun q => hx (st_1 q).1))
  by_cases p2 : p = 2
  · subst p2
    refine br_f p0 (br_f p1 (br_t rfl ?_))
    by_cases hx : ∃ b, b < E ∧ x = nI b
    · refine yv_E1 hE hx (br_f (by decide) ?_)
      exact yv_st (fun hy => br_f (by decide) (h1 (Or.inr (Or.inr (Or.inl ⟨rfl, hx, hy⟩))))) (fun hy => br_t rfl (h0 fun q => hy (st_2 q).2))
    · exact yv_E0 hE hx (br_t rfl (h0 fun q => hx (st_2 q).1))
  by_cases p3 : p = 3
  · subst p3
    refine br_f p0 (br_f p1 (br_f p2 (br_t rfl ?_)))
    by_cases hx : ∃ v, v < 6 ∧ x = nI v
    · refine yv_isV hx (br_f (by decide) ?_)
      by_cases hy : ∃ b, b < E ∧ y = nI b
      · refine yv_E1 hE hy (br_f (by decide) ?_)
        exact yv_st (fun hz => br_f (by decide) (h1 (Or.inr (Or.inr (Or.inr (Or.inl ⟨rfl, hx, hy, hz⟩)))))) (fun hz => br_t rfl (h0 fun q => hz (st_3 q).2.2))
      · exact yv_E0 hE hy (br_t rfl (h0 fun q => hy (st_3 q).2.1))
    · exact yv_V0 hx (br_t rfl (h0 fun q => hx (st_3 q).1))
  by_cases p4 : p = 4
  · subst p4
    refine br_f p0 (br_f p1 (br_f p2 (br_f p3 (br_t rfl ?_))))
    by_cases hx : ∃ b, b < E ∧ x = nI b
    · exact yv_E1 hE hx (br_f (by decide) (h1 (Or.inr (Or.inr (Or.inr (Or.inr ⟨rfl, hx⟩))))))
    · exact yv_E0 hE hx (br_t rfl (h0 fun q => hx (st_4 q)))
  have hn : ¬ tm_st E p x y z := fun q => by rcases st_n q with e | e | e | e | e <;> contradiction
  exact br_f p0 (br_f p1 (br_f p2 (br_f p3 (br_f p4 (h0 hn)))))
end
theorem i_vc_state {k : Nat} {u : SX} {v : SY} (I : i_Rel k u v) (hk : k + 5 ≤ 2560) (v1 : Int32) (v2 : Int32) (v3 : Int32) (v4 : Int32) : wpX_state (fun r u' => wpY_state (fun r' v' => r' = r ∧ i_Rel (k + 5) u' v') v v1 v2 v3 v4) u v1 v2 v3 v4 := by
  have hR := i_up I
  obtain ⟨E, N, oL, fC, oC, wt, cK, cO, cR, rg, oP, oX, oY, oZ, lS, lT, lL, iu, sz, ke, fd, ou, dp, tp, fl, lo, kd, ex, ey, vs, vn, zy, es, eu, tk, sn, wk, sg, so, nu, la, tu, lz, rfl, rfl, J⟩ := I
  obtain ⟨hE, hN, hVE, hVS, hiu, htk, U, H⟩ := J
  unfold wpX_state wpY_state
  by_cases h14 : N = 14
  · subst h14
    exact br_f (by decide) (br_t rfl ⟨rfl, hR⟩)
  · have hl : N < 14 := by omega
    have hc : (nI N).toNatClampNeg = N := nI_clamp (by omega)
    have hi : vp_in (nI N) 14 := vp_in_nI hl (by decide)
    have h2 : ¬ nI N = 14 := fun q => h14 ((nI_eq (b := 14) (by omega) (by decide)).mp q)
    refine br_t (nI_lt (b := 14) hl (by decide)) ?_
    refine xn_isSt hE (fun hs => br_f (by decide) ?_) (fun hs => br_t rfl ?_)
    · refine ⟨hi, nm_r (by rw [hc]) ⟨hi, nm_r (by rw [hc]) ⟨hi, nm_r (by rw [hc]) ⟨hi, nm_r (by rw [hc]) (nm_r (nI_1 N) ?_)⟩⟩⟩⟩
      refine br_f h2 ?_
      refine yn_fits hE (fun _ => br_f (by decide) ?_) (fun q => absurd hs q)
      refine ⟨hi, nm_r (by rw [hc]) ⟨hi, nm_r (by rw [hc]) ⟨hi, nm_r (by rw [hc]) ⟨hi, nm_r (by rw [hc]) (nm_r (nI_1 N) ⟨rfl, ?_⟩)⟩⟩⟩⟩
      refine ⟨E, N + 1, oL, fC, oC, wt, cK, cO, cR, rg, upd oP N v1, upd oX N v2, upd oY N v3, upd oZ N v4, lS, lT, lL, iu, sz, ke, fd, ou, dp, tp, fl, lo, kd, ex, ey, vs, vn, zy, es, eu, tk, sn, wk, sg, so, nu, la, tu, lz, rfl, rfl, hE, by omega, hVE, fun s h => ?_, hiu, htk, U, H⟩
      by_cases e : s = N
      · subst e
        rw [pk_us, pk_us, pk_us, pk_us]; exact hs
      · rw [pk_un e, pk_un e, pk_un e, pk_un e]
        exact hVS s (by omega)
    · refine br_f h2 ?_
      exact yn_fits hE (fun q => absurd q hs) (fun _ => br_t rfl ⟨rfl, hR⟩)
end
section
/-! express: the code of an expression -/
theorem tm_mono {E : Nat} {kd ex ey wt cK cO cR : Nat → Int32} : ∀ f g w e a r : Nat, f ≤ g → tm_T E kd ex ey wt cK cO cR f w e a r → tm_T E kd ex ey wt cK cO cR g w e a r := by
  intro f
  induction f with
  | zero => intro g w e a r _ h; exact absurd h id
  | succ f ih =>
    intro g w e a r hg h
    obtain ⟨g, rfl⟩ : ∃ g', g = g' + 1 := ⟨g - 1, by omega⟩
    obtain ⟨he, hw, h⟩ := h
    refine ⟨he, hw, ?_⟩
    rcases h with h | ⟨x, wx, h1, h2, h3, h4, h5⟩ | ⟨x, y, wx, wy, h1, h2, h3, h4, h5, h6, h7, h8, h9⟩ | ⟨x, y, wx, wy, h1, h2, h3, h4, h5, h6, h7⟩
    · exact Or.inl h
    · exact Or.inr (Or.inl ⟨x, wx, h1, h2, h3, ih g _ _ _ _ (by omega) h4, h5⟩)
    · exact Or.inr (Or.inr (Or.inl ⟨x, y, wx, wy, h1, h2, h3, h4, ih g _ _ _ _ (by omega) h5, h6, h7, h8, ih g _ _ _ _ (by omega) h9⟩))
    · exact Or.inr (Or.inr (Or.inr ⟨x, y, wx, wy, h1, h2, h3, h4, ih g _ _ _ _ (by omega) h5, ih g _ _ _ _ (by omega) h6, h7⟩))
theorem tm_pos {E : Nat} {kd ex ey wt cK cO cR : Nat → Int32} {f w e a r : Nat} (h : tm_T E kd ex ey wt cK cO cR f w e a r) : e < E ∧ wt e = nI w ∧ 1 ≤ w := by
  cases f with
  | zero => exact absurd h id
  | succ f =>
    obtain ⟨he, hw, h⟩ := h
    refine ⟨he, hw, ?_⟩
    rcases h with h | ⟨x, wx, h1, h2, h3, h4, h5⟩ | ⟨x, y, wx, wy, h1, h2, h3, h4, h5, h6, h7, h8, h9⟩ | ⟨x, y, wx, wy, h1, h2, h3, h4, h5, h6, h7⟩ <;> omega
theorem tm_map {E E' : Nat} {kd ex ey wt cK cO cR kd' ex' ey' wt' cK' cO' cR' : Nat → Int32} (hE : E ≤ E') (hk : ∀ e, e < E → kd' e = kd e ∧ ex' e = ex e ∧ ey' e = ey e ∧ wt' e = wt e) :
    ∀ f w e a r b u : Nat, (∀ i, i < w → cK' (b + i) = cK (a + i) ∧ cO' (b + i) = cO (a + i) ∧ cR' (b + i) = cR (a + i) + nI u) → tm_T E kd ex ey wt cK cO cR f w e a r → tm_T E' kd' ex' ey' wt' cK' cO' cR' f w e b (r + u) := by
  intro f
  induction f with
  | zero => intro w e a r b u _ h; exact absurd h id
  | succ f ih =>
    intro w e a r b u hc h
    obtain ⟨he, hw, h⟩ := h
    obtain ⟨k1, k2, k3, k4⟩ := hk e he
    refine ⟨by omega, by rw [k4]; exact hw, ?_⟩
    rw [k1, k2, k3]
    rcases h with ⟨h1, h2, h3, h4, h5⟩ | ⟨x, wx, h1, h2, h3, h4, h5, h6⟩ | ⟨x, y, wx, wy, h1, h2, h3, h4, h5, h6, h7, h8, h9⟩ | ⟨x, y, wx, wy, h1, h2, h3, h4, h5, h6, h7, h8⟩
    · have c := hc 0 (by omega)
      rw [Nat.add_zero, Nat.add_zero] at c
      exact Or.inl ⟨h1, c.2.1.trans h2, by rw [c.2.2, h3, nI_add], c.1.trans h4, h5⟩
    · have c := hc wx (by omega)
      exact Or.inr (Or.inl ⟨x, wx, h1, h2, h3, ih wx x a r b u (fun i hi => hc i (by omega)) h4, c.1.trans h5, by rw [c.2.2, h6, nI_add]⟩)
    · have c := hc wx (by omega)
      refine Or.inr (Or.inr (Or.inl ⟨x, y, wx, wy, h1, h2, h3, h4, ih wx x a r b u (fun i hi => hc i (by omega)) h5, c.1.trans h6, c.2.1.trans h7, by rw [c.2.2, h8, nI_add], ih wy y (a + wx + 1) r (b + wx + 1) u (fun i hi => ?_) h9⟩))
      have c2 := hc (wx + 1 + i) (by omega)
      rw [show b + (wx + 1 + i) = b + wx + 1 + i by omega, show a + (wx + 1 + i) = a + wx + 1 + i by omega] at c2
      exact c2
    · have c := hc (wx + wy) (by omega)
      rw [← Nat.add_assoc, ← Nat.add_assoc] at c
      refine Or.inr (Or.inr (Or.inr ⟨x, y, wx, wy, h1, h2, h3, h4, ih wx x a r b u (fun i hi => hc i (by omega)) h5, ?_, c.1.trans h7, by rw [c.2.2, h8, nI_add]⟩))
      rw [show r + u + 1 = (r + 1) + u by omega]
      refine ih wy y (a + wx) (r + 1) (b + wx) u (fun i hi => ?_) h6
      have c2 := hc (wx + i) (by omega)
      rw [← Nat.add_assoc, ← Nat.add_assoc] at c2
      exact c2
/-- what copyCode leaves -/
def tm_cp (c : Nat → Int32) (b a w : Nat) (d : Int32) : Nat → Int32 := fun j => if b ≤ j ∧ j < b + w then c (a + (j - b)) + d else c j
theorem tm_cp0 (c : Nat → Int32) (b a : Nat) (d : Int32) : tm_cp c b a 0 d = c := by
  funext j; unfold tm_cp; rw [if_neg (by omega)]
theorem tm_cps {c : Nat → Int32} {b a i : Nat} {d : Int32} (h : a + i < b) : upd (tm_cp c b a i d) (b + i) (tm_cp c b a i d (a + i) + d) = tm_cp c b a (i + 1) d := by
  funext j
  unfold upd
  by_cases e : j = b + i
  · subst e
    unfold tm_cp
    rw [if_pos rfl, if_neg (by omega), if_pos ⟨by omega, by omega⟩, show b + i - b = i by omega]
  · rw [if_neg e]
    unfold tm_cp
    by_cases q : b ≤ j ∧ j < b + i
    · rw [if_pos q, if_pos ⟨q.1, by omega⟩]
    · rw [if_neg q, if_neg (by omega)]
theorem tm_cps0 {c : Nat → Int32} {b a i : Nat} (h : a + i < b) : upd (tm_cp c b a i 0) (b + i) (tm_cp c b a i 0 (a + i)) = tm_cp c b a (i + 1) 0 := by
  have := tm_cps (c := c) (d := 0) h
  rw [Int32.add_zero] at this
  exact this
theorem tm_cpi {c : Nat → Int32} {b a w i : Nat} {d : Int32} (h : i < w) : tm_cp c b a w d (b + i) = c (a + i) + d := by
  unfold tm_cp; rw [if_pos ⟨by omega, by omega⟩, show b + i - b = i by omega]
theorem tm_cpo {c : Nat → Int32} {b a w j : Nat} {d : Int32} (h : j < b ∨ b + w ≤ j) : tm_cp c b a w d j = c j := by
  unfold tm_cp; rw [if_neg (by omega)]
section
variable {eN sN oL fC oC : Int32} {wt cK cO cR : Nat → Int32} {rg : Nat → Int64} {oP oX oY oZ lS lT lL : Nat → Int32} {va : Nat → Int64} {iu sz ke : Nat → Int32} {en : Nat → Int64} {fd : Nat → Int32} {ou : Nat → Int64} {yE yN yC dp tp fl lo : Int32} {kd ex ey yW yP yX yY yZ vs vn zy yK es eu tk sn : Nat → Int32} {yO : Nat → Int64} {wk sg so nu la tu lz : Nat → Int32}
theorem xe_cl {post : SX → Prop} {x b w : Nat} {d : Int32} (hx : x < 30) (hw : wt x = nI w) (hb : x * 7 + w ≤ b) (hb2 : b + w ≤ 210) (hp : post (eN, sN, oL, fC, oC, wt, tm_cp cK b (x * 7) w 0, tm_cp cO b (x * 7) w 0, tm_cp cR b (x * 7) w d, rg, oP, oX, oY, oZ, lS, lT, lL, va, iu, sz, ke, en, fd, ou)) :
    ∀ n i : Nat, i + n = w → wX_copyCode_9 post (nI x) (nI b) d (nI (x * 7)) eN sN oL fC oC (n + 1) (nI i) wt (tm_cp cK b (x * 7) i 0) (tm_cp cO b (x * 7) i 0) (tm_cp cR b (x * 7) i d) rg oP oX oY oZ lS lT lL va iu sz ke en fd ou := by
  intro n
  have h1 : vp_in (nI x) 30 := vp_in_nI hx (by decide)
  have hc : (nI x).toNatClampNeg = x := nI_clamp (by omega)
  induction n with
  | zero =>
    intro i hi
    obtain rfl : i = w := by omega
    exact ⟨h1, br_t (by rw [hc, hw]; exact nI_le (Nat.le_refl _) (by omega)) hp⟩
  | succ n ih =>
    intro i hi
    have e1 : nI (x * 7) + nI i = nI (x * 7 + i) := nI_add _ _
    have e2 : nI b + nI i = nI (b + i) := nI_add _ _
    have c1 : (nI (x * 7) + nI i).toNatClampNeg = x * 7 + i := by rw [e1]; exact nI_clamp (by omega)
    have c2 : (nI b + nI i).toNatClampNeg = b + i := by rw [e2]; exact nI_clamp (by omega)
    have v1 : vp_in (nI (x * 7) + nI i) 210 := by rw [e1]; exact vp_in_nI (by omega) (by decide)
    have v2 : vp_in (nI b + nI i) 210 := by rw [e2]; exact vp_in_nI (by omega) (by decide)
    refine ⟨h1, br_f (by rw [hc, hw]; exact nI_ge (by omega) (by omega)) ⟨v1, v2, nm_r (by rw [c1, c2]; exact tm_cps0 (by omega)) ⟨v1, v2, nm_r (by rw [c1, c2]; exact tm_cps0 (by omega)) ⟨v1, v2, nm_r (by rw [c1, c2]; exact tm_cps (by omega)) (nm_r (nI_1 i) (ih (i + 1) (by omega)))⟩⟩⟩⟩
theorem xe_copy {post : SX → Prop} {x b w : Nat} {d : Int32} (hx : x < 30) (hw : wt x = nI w) (hb : x * 7 + w ≤ b) (hb2 : b + w ≤ 210) (hp : post (eN, sN, oL, fC, oC, wt, tm_cp cK b (x * 7) w 0, tm_cp cO b (x * 7) w 0, tm_cp cR b (x * 7) w d, rg, oP, oX, oY, oZ, lS, lT, lL, va, iu, sz, ke, en, fd, ou)) : wpX_copyCode post (eN, sN, oL, fC, oC, wt, cK, cO, cR, rg, oP, oX, oY, oZ, lS, lT, lL, va, iu, sz, ke, en, fd, ou) (nI x) (nI b) d := by
  unfold wpX_copyCode
  have h := xe_cl hx hw hb hb2 hp w 0 (by omega)
  rw [tm_cp0, tm_cp0, tm_cp0] at h
  exact nm_r (pk_mul x 7) ⟨_, h⟩
theorem xe_emit {post : SX → Prop} {a : Nat} {k o : Int32} (ha : a < 210) (hp : post (eN, sN, oL, fC, oC, wt, upd cK a k, upd cO a o, upd cR a 0, rg, oP, oX, oY, oZ, lS, lT, lL, va, iu, sz, ke, en, fd, ou)) : wpX_emit post (eN, sN, oL, fC, oC, wt, cK, cO, cR, rg, oP, oX, oY, oZ, lS, lT, lL, va, iu, sz, ke, en, fd, ou) (nI a) k o := by
  have h1 : vp_in (nI a) 210 := vp_in_nI ha (by decide)
  have hc : (nI a).toNatClampNeg = a := nI_clamp (by omega)
  unfold wpX_emit
  exact ⟨h1, nm_r (by rw [hc]) ⟨h1, nm_r (by rw [hc]) ⟨h1, nm_r (by rw [hc]) hp⟩⟩⟩
theorem xe_p0 {post : Int32 → Prop} {k : Int32} (h : k = 0 ∨ k = 1 ∨ k = 11) (hp : post 0) : wpX_partsOf post k := by
  unfold wpX_partsOf
  rcases h with rfl | rfl | rfl
  · exact br_t rfl hp
  · exact br_f (by decide) (br_t rfl hp)
  · exact br_f (by decide) (br_f (by decide) (br_t rfl hp))
theorem xe_p1 {post : Int32 → Prop} {k : Int32} (h : k = 9 ∨ k = 12) (hp : post 1) : wpX_partsOf post k := by
  unfold wpX_partsOf
  rcases h with rfl | rfl
  · exact br_f (by decide) (br_f (by decide) (br_f (by decide) (br_t rfl hp)))
  · exact br_f (by decide) (br_f (by decide) (br_f (by decide) (br_f (by decide) (br_t rfl hp))))
theorem xe_p2 {post : Int32 → Prop} {k : Int32} (h : k = 7 ∨ k = 8 ∨ tm_k2 k) (hp : post 2) : wpX_partsOf post k := by
  unfold wpX_partsOf
  rcases h with rfl | rfl | rfl | rfl | rfl | rfl | rfl | rfl <;> exact br_f (by decide) (br_f (by decide) (br_f (by decide) (br_f (by decide) (br_f (by decide) hp))))
theorem ye_p0 {post : Int32 → Prop} {k : Int32} (h : k = 0 ∨ k = 1 ∨ k = 11) (hp : post 0) : wpY_parts post (yE, yN, yC, dp, tp, fl, lo, kd, ex, ey, yW, yP, yX, yY, yZ, vs, vn, zy, yK, es, eu, tk, sn, yO, wk, sg, so, nu, la, tu, lz) k := by
  unfold wpY_parts
  rcases h with rfl | rfl | rfl
  · exact br_t (by decide) hp
  · exact br_t (by decide) hp
  · exact br_f (by decide) (br_t rfl hp)
theorem ye_p1 {post : Int32 → Prop} {k : Int32} (h : k = 9 ∨ k = 12) (hp : post 1) : wpY_parts post (yE, yN, yC, dp, tp, fl, lo, kd, ex, ey, yW, yP, yX, yY, yZ, vs, vn, zy, yK, es, eu, tk, sn, yO, wk, sg, so, nu, la, tu, lz) k := by
  unfold wpY_parts
  rcases h with rfl | rfl
  · exact br_f (by decide) (br_f (by decide) (br_t rfl hp))
  · exact br_f (by decide) (br_f (by decide) (br_f (by decide) (br_t rfl hp)))
theorem ye_p2 {post : Int32 → Prop} {k : Int32} (h : k = 7 ∨ k = 8 ∨ tm_k2 k) (hp : post 2) : wpY_parts post (yE, yN, yC, dp, tp, fl, lo, kd, ex, ey, yW, yP, yX, yY, yZ, vs, vn, zy, yK, es, eu, tk, sn, yO, wk, sg, so, nu, la, tu, lz) k := by
  unfold wpY_parts
  rcases h with rfl | rfl | rfl | rfl | rfl | rfl | rfl | rfl <;> exact br_f (by decide) (br_f (by decide) (br_f (by decide) (br_f (by decide) hp)))
theorem xe_leaf {post : SX → Prop} {E : Nat} {k x y : Int32} (hE : E < 30) (h : k = 0 ∨ k = 1 ∨ k = 11) (hp : post (nI E, sN, oL, fC, oC, wt, upd cK (E * 7) k, upd cO (E * 7) x, upd cR (E * 7) 0, rg, oP, oX, oY, oZ, lS, lT, lL, va, iu, sz, ke, en, fd, ou)) : wpX_compile post (nI E, sN, oL, fC, oC, wt, cK, cO, cR, rg, oP, oX, oY, oZ, lS, lT, lL, va, iu, sz, ke, en, fd, ou) k x y := by
  unfold wpX_compile
  refine nm_r (pk_mul E 7) (xe_p0 h (br_t rfl ?_))
  exact xe_emit (by omega) hp
theorem xe_one {post : SX → Prop} {E x w : Nat} {k y : Int32} (hE : E < 30) (h : k = 9 ∨ k = 12) (hx : x < E) (hw : wt x = nI w) (hw7 : w + 1 ≤ 7) (hp : post (nI E, sN, oL, fC, oC, wt, upd (tm_cp cK (E * 7) (x * 7) w 0) (E * 7 + w) k, upd (tm_cp cO (E * 7) (x * 7) w 0) (E * 7 + w) 0, upd (tm_cp cR (E * 7) (x * 7) w 0) (E * 7 + w) 0, rg, oP, oX, oY, oZ, lS, lT, lL, va, iu, sz, ke, en, fd, ou)) : wpX_compile post (nI E, sN, oL, fC, oC, wt, cK, cO, cR, rg, oP, oX, oY, oZ, lS, lT, lL, va, iu, sz, ke, en, fd, ou) k (nI x) y := by
  unfold wpX_compile
  refine nm_r (pk_mul E 7) (xe_p1 h (br_f (by decide) ?_))
  refine xe_copy (by omega) hw (by omega) (by omega) ?_
  refine ⟨vp_in_nI (by omega) (by decide), nm_r (by rw [nI_clamp (by omega), hw, nI_add]) (br_t rfl ?_)⟩
  exact xe_emit (by omega) hp
theorem xe_ch {post : SX → Prop} {E x w y wy : Nat} {k : Int32} (hE : E < 30) (h : k = 7 ∨ k = 8) (hx : x < E) (hw : wt x = nI w) (hy : y < E) (hwy : wt y = nI wy) (hw7 : w + 1 + wy ≤ 7) (hp : post (nI E, sN, oL, fC, oC, wt, tm_cp (upd (tm_cp cK (E * 7) (x * 7) w 0) (E * 7 + w) k) (E * 7 + w + 1) (y * 7) wy 0, tm_cp (upd (tm_cp cO (E * 7) (x * 7) w 0) (E * 7 + w) (nI wy)) (E * 7 + w + 1) (y * 7) wy 0, tm_cp (upd (tm_cp cR (E * 7) (x * 7) w 0) (E * 7 + w) 0) (E * 7 + w + 1) (y * 7) wy 0, rg, oP, oX, oY, oZ, lS, lT, lL, va, iu, sz, ke, en, fd, ou)) : wpX_compile post (nI E, sN, oL, fC, oC, wt, cK, cO, cR, rg, oP, oX, oY, oZ, lS, lT, lL, va, iu, sz, ke, en, fd, ou) k (nI x) (nI y) := by
  have hy30 : vp_in (nI y) 30 := vp_in_nI (by omega) (by decide)
  have g : wX_compile_77 post k (nI y) (nI (E * 7 + w)) (nI E) sN oL fC oC wt (tm_cp cK (E * 7) (x * 7) w 0) (tm_cp cO (E * 7) (x * 7) w 0) (tm_cp cR (E * 7) (x * 7) w 0) rg oP oX oY oZ lS lT lL va iu sz ke en fd ou := by
    unfold wX_compile_77
    refine ⟨hy30, ?_⟩
    rw [nI_clamp (n := y) (by omega), hwy]
    refine xe_emit (by omega) ?_
    dsimp only
    rw [nI_1]
    exact xe_copy (by omega) hwy (by omega) (by omega) hp
  unfold wpX_compile
  refine nm_r (pk_mul E 7) (xe_p2 (by rcases h with h | h; exact Or.inl h; exact Or.inr (Or.inl h)) (br_f (by decide) ?_))
  refine xe_copy (by omega) hw (by omega) (by omega) ?_
  refine ⟨vp_in_nI (by omega) (by decide), nm_r (by rw [nI_clamp (by omega), hw, nI_add]) (br_f (by decide) ?_)⟩
  by_cases q : k = 7
  · exact br_t q g
  · exact br_f q (br_t (h.resolve_left q) g)
theorem xe_two {post : SX → Prop} {E x w y wy : Nat} {k : Int32} (hE : E < 30) (h : tm_k2 k) (hx : x < E) (hw : wt x = nI w) (hy : y < E) (hwy : wt y = nI wy) (hw7 : w + wy + 1 ≤ 7) (hp : post (nI E, sN, oL, fC, oC, wt, upd (tm_cp (tm_cp cK (E * 7) (x * 7) w 0) (E * 7 + w) (y * 7) wy 0) (E * 7 + w + wy) k, upd (tm_cp (tm_cp cO (E * 7) (x * 7) w 0) (E * 7 + w) (y * 7) wy 0) (E * 7 + w + wy) 0, upd (tm_cp (tm_cp cR (E * 7) (x * 7) w 0) (E * 7 + w) (y * 7) wy 1) (E * 7 + w + wy) 0, rg, oP, oX, oY, oZ, lS, lT, lL, va, iu, sz, ke, en, fd, ou)) : wpX_compile post (nI E, sN, oL, fC, oC, wt, cK, cO, cR, rg, oP, oX, oY, oZ, lS, lT, lL, va, iu, sz, ke, en, fd, ou) k (nI x) (nI y) := by
  have hy30 : vp_in (nI y) 30 := vp_in_nI (by omega) (by decide)
  have n7 : ¬ k = 7 := by rcases h with rfl | rfl | rfl | rfl | rfl | rfl <;> decide
  have n8 : ¬ k = 8 := by rcases h with rfl | rfl | rfl | rfl | rfl | rfl <;> decide
  unfold wpX_compile
  refine nm_r (pk_mul E 7) (xe_p2 (Or.inr (Or.inr h)) (br_f (by decide) ?_))
  refine xe_copy (by omega) hw (by omega) (by omega) ?_
  refine ⟨vp_in_nI (by omega) (by decide), nm_r (by rw [nI_clamp (by omega), hw, nI_add]) (br_f (by decide) (br_f n7 (br_f n8 ?_)))⟩
  refine xe_copy (by omega) hwy (by omega) (by omega) ?_
  refine ⟨hy30, ?_⟩
  rw [nI_clamp (n := y) (by omega), hwy, nI_add]
  exact xe_emit (by omega) hp
/-- the last lines of express -/
theorem xe_end {post : Int32 → SX → Prop} {E w : Nat} {k x y : Int32} {cK' cO' cR' : Nat → Int32} (hE : E < 30) (hw : w ≤ 7) (hc : ∀ post : SX → Prop, post (nI E, sN, oL, fC, oC, wt, cK', cO', cR', rg, oP, oX, oY, oZ, lS, lT, lL, va, iu, sz, ke, en, fd, ou) → wpX_compile post (nI E, sN, oL, fC, oC, wt, cK, cO, cR, rg, oP, oX, oY, oZ, lS, lT, lL, va, iu, sz, ke, en, fd, ou) k x y) (hp : post (nI E) (nI (E + 1), sN, oL, fC, oC, upd wt E (nI w), cK', cO', cR', rg, oP, oX, oY, oZ, lS, lT, lL, va, iu, sz, ke, en, fd, ou)) : wX_express_113 post k x y (nI w) (nI E) sN oL fC oC wt cK cO cR rg oP oX oY oZ lS lT lL va iu sz ke en fd ou := by
  unfold wX_express_113
  refine br_t (nI_le (b := 7) hw (by decide)) (hc _ ?_)
  exact ⟨vp_in_nI hE (by decide), nm_r (by rw [nI_clamp (by omega)]) (nm_r (nI_1 E) hp)⟩
theorem xe_far {post : Int32 → SX → Prop} {w : Nat} {k x y : Int32} (hw : 7 < w) (hw2 : w < 100) (hp : post (-2) (eN, sN, oL, fC, oC, wt, cK, cO, cR, rg, oP, oX, oY, oZ, lS, lT, lL, va, iu, sz, ke, en, fd, ou)) : wX_express_113 post k x y (nI w) eN sN oL fC oC wt cK cO cR rg oP oX oY oZ lS lT lL va iu sz ke en fd ou := by
  unfold wX_express_113
  exact br_f (nI_ge (a := 7) hw (by omega)) hp
theorem xe_38_0 {post : Int32 → SX → Prop} {k x y : Int32} (h : k = 0 ∨ k = 1 ∨ k = 11) (hp : wX_express_113 post k x y (nI 1) eN sN oL fC oC wt cK cO cR rg oP oX oY oZ lS lT lL va iu sz ke en fd ou) : wX_express_38 post k x y eN sN oL fC oC wt cK cO cR rg oP oX oY oZ lS lT lL va iu sz ke en fd ou := by
  unfold wX_express_38
  exact xe_p0 h (br_t (by decide) (br_f (by decide) (br_t (by decide) (br_f (by decide) hp))))
theorem xe_38_1 {post : Int32 → SX → Prop} {E x w : Nat} {k y : Int32} (hE : E ≤ 30) (h : k = 9 ∨ k = 12) (hx : x < E) (hw : wt x = nI w) (hp : wX_express_113 post k (nI x) y (nI (1 + w)) (nI E) sN oL fC oC wt cK cO cR rg oP oX oY oZ lS lT lL va iu sz ke en fd ou) : wX_express_38 post k (nI x) y (nI E) sN oL fC oC wt cK cO cR rg oP oX oY oZ lS lT lL va iu sz ke en fd ou := by
  unfold wX_express_38
  refine xe_p1 h (br_f (by decide) (xv_E1 hE ⟨x, hx, rfl⟩ (br_f (by decide) ?_)))
  exact br_f (by decide) (br_f (by decide) ⟨vp_in_nI (by omega) (by decide), nm_r (by rw [nI_clamp (by omega), hw]; exact nI_add 1 w) (br_f (by decide) hp)⟩)
theorem xe_38_2 {post : Int32 → SX → Prop} {E x w y wy : Nat} {k : Int32} (hE : E ≤ 30) (h : k = 7 ∨ k = 8 ∨ tm_k2 k) (hx : x < E) (hw : wt x = nI w) (hy : y < E) (hwy : wt y = nI wy) (hp : wX_express_113 post k (nI x) (nI y) (nI (1 + w + wy)) (nI E) sN oL fC oC wt cK cO cR rg oP oX oY oZ lS lT lL va iu sz ke en fd ou) : wX_express_38 post k (nI x) (nI y) (nI E) sN oL fC oC wt cK cO cR rg oP oX oY oZ lS lT lL va iu sz ke en fd ou := by
  unfold wX_express_38
  refine xe_p2 h (br_f (by decide) (xv_E1 hE ⟨x, hx, rfl⟩ (br_f (by decide) ?_)))
  refine br_t rfl (xv_E1 hE ⟨y, hy, rfl⟩ (br_f (by decide) ?_))
  have e1 : 1 + wt (nI x).toNatClampNeg = nI (1 + w) := by rw [nI_clamp (by omega), hw]; exact nI_add 1 w
  have e2 : nI (1 + w) + wt (nI y).toNatClampNeg = nI (1 + w + wy) := by rw [nI_clamp (by omega), hwy]; exact nI_add (1 + w) wy
  exact br_f (by decide) ⟨vp_in_nI (by omega) (by decide), nm_r e1 (br_t rfl ⟨vp_in_nI (by omega) (by decide), nm_r e2 hp⟩)⟩
theorem xe_38_1b {post : Int32 → SX → Prop} {E : Nat} {k x y : Int32} (hE : E ≤ 30) (h : (k = 9 ∨ k = 12) ∨ (k = 7 ∨ k = 8 ∨ tm_k2 k)) (hx : ¬ ∃ a, a < E ∧ x = nI a) (hp : post (-1) (nI E, sN, oL, fC, oC, wt, cK, cO, cR, rg, oP, oX, oY, oZ, lS, lT, lL, va, iu, sz, ke, en, fd, ou)) : wX_express_38 post k x y (nI E) sN oL fC oC wt cK cO cR rg oP oX oY oZ lS lT lL va iu sz ke en fd ou := by
  unfold wX_express_38
  rcases h with h | h
  · exact xe_p1 h (br_f (by decide) (xv_E0 hE hx (br_t rfl hp)))
  · exact xe_p2 h (br_f (by decide) (xv_E0 hE hx (br_t rfl hp)))
theorem xe_38_2b {post : Int32 → SX → Prop} {E : Nat} {k x y : Int32} (hE : E ≤ 30) (h : k = 7 ∨ k = 8 ∨ tm_k2 k) (hx : ∃ a, a < E ∧ x = nI a) (hy : ¬ ∃ a, a < E ∧ y = nI a) (hp : post (-1) (nI E, sN, oL, fC, oC, wt, cK, cO, cR, rg, oP, oX, oY, oZ, lS, lT, lL, va, iu, sz, ke, en, fd, ou)) : wX_express_38 post k x y (nI E) sN oL fC oC wt cK cO cR rg oP oX oY oZ lS lT lL va iu sz ke en fd ou := by
  unfold wX_express_38
  exact xe_p2 h (br_f (by decide) (xv_E1 hE hx (br_f (by decide) (br_t rfl (xv_E0 hE hy (br_t rfl hp))))))
theorem xe_top {post : Int32 → SX → Prop} {E : Nat} {k x y : Int32} (hE : E < 30) (h0 : ¬ k < 0) (h12 : k ≤ 12) (h1 : k = 1 → ∃ v, v < 6 ∧ x = nI v) (hp : wX_express_38 post k x y (nI E) sN oL fC oC wt cK cO cR rg oP oX oY oZ lS lT lL va iu sz ke en fd ou) : wpX_express post (nI E, sN, oL, fC, oC, wt, cK, cO, cR, rg, oP, oX, oY, oZ, lS, lT, lL, va, iu, sz, ke, en, fd, ou) k x y := by
  unfold wpX_express
  refine br_t (nI_lt (b := 30) hE (by decide)) (br_f h0 (br_t h12 ?_))
  by_cases q : k = 1
  · exact br_t q (xv_isV (h1 q) (br_f (by decide) hp))
  · exact br_f q hp
theorem ye_end {post : Int32 → SY → Prop} {E w : Nat} {k x y z0 z1 : Int32} (hE : E < 30) (hw : w ≤ 7) (hz : z1 + z0 = nI w) (hp : post (nI E) (nI (E + 1), yN, yC, dp, tp, fl, lo, upd kd E k, upd ex E x, upd ey E y, upd yW E (nI w), yP, yX, yY, yZ, vs, vn, zy, yK, es, eu, tk, sn, yO, wk, sg, so, nu, la, tu, lz)) : wY_express_106 post k x y z0 z1 (nI E) yN yC dp tp fl lo kd ex ey yW yP yX yY yZ vs vn zy yK es eu tk sn yO wk sg so nu la tu lz := by
  have h1 : vp_in (nI E) 30 := vp_in_nI hE (by decide)
  have hc : (nI E).toNatClampNeg = E := nI_clamp (by omega)
  unfold wY_express_106
  refine nm_r hz (br_t (nI_le (b := 7) hw (by decide)) ⟨h1, nm_r (by rw [hc]) ⟨h1, nm_r (by rw [hc]) ⟨h1, nm_r (by rw [hc]) ⟨h1, nm_r (by rw [hc]) (nm_r (nI_1 E) ?_)⟩⟩⟩⟩)
  rw [nI_pred]
  exact hp
theorem ye_far {post : Int32 → SY → Prop} {w : Nat} {k x y z0 z1 : Int32} (hw : 7 < w) (hw2 : w < 100) (hz : z1 + z0 = nI w) (hp : post (-2) (yE, yN, yC, dp, tp, fl, lo, kd, ex, ey, yW, yP, yX, yY, yZ, vs, vn, zy, yK, es, eu, tk, sn, yO, wk, sg, so, nu, la, tu, lz)) : wY_express_106 post k x y z0 z1 yE yN yC dp tp fl lo kd ex ey yW yP yX yY yZ vs vn zy yK es eu tk sn yO wk sg so nu la tu lz := by
  unfold wY_express_106
  exact nm_r hz (br_f (nI_ge (a := 7) hw (by omega)) hp)
theorem ye_37_0 {post : Int32 → SY → Prop} {k x y : Int32} (h : k = 0 ∨ k = 1 ∨ k = 11) (hp : wY_express_106 post k x y 0 (1 + 0) yE yN yC dp tp fl lo kd ex ey yW yP yX yY yZ vs vn zy yK es eu tk sn yO wk sg so nu la tu lz) : wY_express_37 post k x y yE yN yC dp tp fl lo kd ex ey yW yP yX yY yZ vs vn zy yK es eu tk sn yO wk sg so nu la tu lz := by
  unfold wY_express_37
  exact ye_p0 h (br_t (by decide) (br_t (by decide) (br_t (by decide) (br_t (by decide) hp))))
theorem ye_37_1 {post : Int32 → SY → Prop} {E x w : Nat} {k y : Int32} (hE : E ≤ 30) (h : k = 9 ∨ k = 12) (hx : x < E) (hw : yW x = nI w) (hp : wY_express_106 post k (nI x) y 0 (1 + nI w) (nI E) yN yC dp tp fl lo kd ex ey yW yP yX yY yZ vs vn zy yK es eu tk sn yO wk sg so nu la tu lz) : wY_express_37 post k (nI x) y (nI E) yN yC dp tp fl lo kd ex ey yW yP yX yY yZ vs vn zy yK es eu tk sn yO wk sg so nu la tu lz := by
  unfold wY_express_37
  refine ye_p1 h (br_f (by decide) (yv_E1 hE ⟨x, hx, rfl⟩ (br_f (by decide) (br_t (by decide) (br_f (by decide) ⟨vp_in_nI (by omega) (by decide), ?_⟩)))))
  rw [nI_clamp (n := x) (by omega), hw]
  exact br_t (by decide) hp
theorem ye_37_2 {post : Int32 → SY → Prop} {E x w y wy : Nat} {k : Int32} (hE : E ≤ 30) (h : k = 7 ∨ k = 8 ∨ tm_k2 k) (hx : x < E) (hw : yW x = nI w) (hy : y < E) (hwy : yW y = nI wy) (hp : wY_express_106 post k (nI x) (nI y) (nI wy) (1 + nI w) (nI E) yN yC dp tp fl lo kd ex ey yW yP yX yY yZ vs vn zy yK es eu tk sn yO wk sg so nu la tu lz) : wY_express_37 post k (nI x) (nI y) (nI E) yN yC dp tp fl lo kd ex ey yW yP yX yY yZ vs vn zy yK es eu tk sn yO wk sg so nu la tu lz := by
  unfold wY_express_37
  refine ye_p2 h (br_f (by decide) (yv_E1 hE ⟨x, hx, rfl⟩ (br_f (by decide) (br_f (by decide) (yv_E1 hE ⟨y, hy, rfl⟩ (br_f (by decide) (br_f (by decide) ⟨vp_in_nI (by omega) (by decide), ?_⟩)))))))
  rw [nI_clamp (n := x) (by omega), hw]
  refine br_f (by decide) ⟨vp_in_nI (by omega) (by decide), ?_⟩
  rw [nI_clamp (n := y) (by omega), hwy]
  exact hp
theorem ye_37_1b {post : Int32 → SY → Prop} {E : Nat} {k x y : Int32} (hE : E ≤ 30) (h : (k = 9 ∨ k = 12) ∨ (k = 7 ∨ k = 8 ∨ tm_k2 k)) (hx : ¬ ∃ a, a < E ∧ x = nI a) (hp : post (-1) (nI E, yN, yC, dp, tp, fl, lo, kd, ex, ey, yW, yP, yX, yY, yZ, vs, vn, zy, yK, es, eu, tk, sn, yO, wk, sg, so, nu, la, tu, lz)) : wY_express_37 post k x y (nI E) yN yC dp tp fl lo kd ex ey yW yP yX yY yZ vs vn zy yK es eu tk sn yO wk sg so nu la tu lz := by
  unfold wY_express_37
  rcases h with h | h
  · exact ye_p1 h (br_f (by decide) (yv_E0 hE hx (br_t rfl hp)))
  · exact ye_p2 h (br_f (by decide) (yv_E0 hE hx (br_t rfl hp)))
theorem ye_37_2b {post : Int32 → SY → Prop} {E : Nat} {k x y : Int32} (hE : E ≤ 30) (h : k = 7 ∨ k = 8 ∨ tm_k2 k) (hx : ∃ a, a < E ∧ x = nI a) (hy : ¬ ∃ a, a < E ∧ y = nI a) (hp : post (-1) (nI E, yN, yC, dp, tp, fl, lo, kd, ex, ey, yW, yP, yX, yY, yZ, vs, vn, zy, yK, es, eu, tk, sn, yO, wk, sg, so, nu, la, tu, lz)) : wY_express_37 post k x y (nI E) yN yC dp tp fl lo kd ex ey yW yP yX yY yZ vs vn zy yK es eu tk sn yO wk sg so nu la tu lz := by
  unfold wY_express_37
  exact ye_p2 h (br_f (by decide) (yv_E1 hE hx (br_f (by decide) (br_f (by decide) (yv_E0 hE hy (br_t rfl hp))))))
theorem ye_top {post : Int32 → SY → Prop} {E : Nat} {k x y : Int32} (hE : E < 30) (h0 : ¬ k < 0) (h12 : ¬ 12 < k) (h1 : k = 1 → ∃ v, v < 6 ∧ x = nI v) (hp : wY_express_37 post k x y (nI E) yN yC dp tp fl lo kd ex ey yW yP yX yY yZ vs vn zy yK es eu tk sn yO wk sg so nu la tu lz) : wpY_express post (nI E, yN, yC, dp, tp, fl, lo, kd, ex, ey, yW, yP, yX, yY, yZ, vs, vn, zy, yK, es, eu, tk, sn, yO, wk, sg, so, nu, la, tu, lz) k x y := by
  unfold wpY_express
  refine br_f (fun q => ?_) (br_f h0 (br_f h12 ?_))
  · have := (nI_eq (b := 30) (by omega) (by decide)).mp q
    omega
  by_cases q : k = 1
  · exact br_t q (yv_isV (h1 q) (br_f (by decide) hp))
  · exact br_f q hp
end
theorem xe_cls {k : Int32} (h0 : ¬ k < 0) (h12 : k ≤ 12) : (k = 0 ∨ k = 1 ∨ k = 11) ∨ (k = 9 ∨ k = 12) ∨ (k = 7 ∨ k = 8 ∨ tm_k2 k) := by
  obtain ⟨j, hj, rfl⟩ := nI_of2 (M := 12) (n := 12) (by decide) h0 h12
  unfold tm_k2
  have : ∀ j, j ≤ 12 → (nI j = 0 ∨ nI j = 1 ∨ nI j = 11) ∨ (nI j = 9 ∨ nI j = 12) ∨ (nI j = 7 ∨ nI j = 8 ∨ (nI j = 2 ∨ nI j = 3 ∨ nI j = 4 ∨ nI j = 5 ∨ nI j = 6 ∨ nI j = 10)) := by
    decide +kernel
  exact this j hj
theorem tm_VEs {E w : Nat} {kd ex ey wt cK cO cR cK' cO' cR' : Nat → Int32} {k x y : Int32} (hV : tm_VE E kd ex ey wt cK cO cR) (hc : ∀ j, j < E * 7 → cK' j = cK j ∧ cO' j = cO j ∧ cR' j = cR j) (hw : w ≤ 7)
    (hT : tm_T (E + 1) (upd kd E k) (upd ex E x) (upd ey E y) (upd wt E (nI w)) cK' cO' cR' w w E (7 * E) 0) : tm_VE (E + 1) (upd kd E k) (upd ex E x) (upd ey E y) (upd wt E (nI w)) cK' cO' cR' := by
  intro e he
  by_cases q : e = E
  · subst q; exact ⟨w, hw, hT⟩
  · obtain ⟨v, hv, T⟩ := hV e (by omega)
    refine ⟨v, hv, tm_map (E := E) (E' := E + 1) (by omega) (fun e he => ?_) v v e (7 * e) 0 (7 * e) 0 (fun i hi => ?_) T⟩
    · exact ⟨pk_un (by omega), pk_un (by omega), pk_un (by omega), pk_un (by omega)⟩
    · obtain ⟨a, b, c⟩ := hc (7 * e + i) (by omega)
      exact ⟨a, b, by rw [c, nI_0, Int32.add_zero]⟩
theorem i_vc_express {k : Nat} {u : SX} {v : SY} (I : i_Rel k u v) (hk : k + 5 ≤ 2560) (v1 : Int32) (v2 : Int32) (v3 : Int32) : wpX_express (fun r u' => wpY_express (fun r' v' => r' = r ∧ i_Rel (k + 5) u' v') v v1 v2 v3) u v1 v2 v3 := by
  have hR := i_up I
  obtain ⟨E, N, oL, fC, oC, wt, cK, cO, cR, rg, oP, oX, oY, oZ, lS, lT, lL, iu, sz, ke, fd, ou, dp, tp, fl, lo, kd, ex, ey, vs, vn, zy, es, eu, tk, sn, wk, sg, so, nu, la, tu, lz, rfl, rfl, J⟩ := I
  obtain ⟨hE, hN, hVE, hVS, hiu, htk, U, H⟩ := J
  by_cases h30 : E = 30
  · subst h30
    unfold wpX_express wpY_express
    exact br_f (by decide) (br_t rfl ⟨rfl, hR⟩)
  have hE2 : E < 30 := by omega
  have n30 : ¬ nI E = 30 := fun q => h30 ((nI_eq (b := 30) (by omega) (by decide)).mp q)
  have hS2 : ∀ s, s < N → tm_st (E + 1) (oP s) (oX s) (oY s) (oZ s) := by
    intro s hs
    have q := hVS s hs
    unfold tm_st at q ⊢
    rcases q with ⟨h, a, b, b1, b2⟩ | ⟨h, ⟨a, a1, a2⟩, ⟨b, b1, b2⟩, c, c1, c2⟩ | ⟨h, ⟨a, a1, a2⟩, b⟩ | ⟨h, a, ⟨b, b1, b2⟩, c⟩ | ⟨h, a, a1, a2⟩
    · exact Or.inl ⟨h, a, b, by omega, b2⟩
    · exact Or.inr (Or.inl ⟨h, ⟨a, by omega, a2⟩, ⟨b, by omega, b2⟩, c, by omega, c2⟩)
    · exact Or.inr (Or.inr (Or.inl ⟨h, ⟨a, by omega, a2⟩, b⟩))
    · exact Or.inr (Or.inr (Or.inr (Or.inl ⟨h, a, ⟨b, by omega, b2⟩, c⟩)))
    · exact Or.inr (Or.inr (Or.inr (Or.inr ⟨h, a, by omega, a2⟩)))
  by_cases h0 : v1 < 0
  · unfold wpX_express wpY_express
    exact br_t (nI_lt (b := 30) hE2 (by decide)) (br_t h0 (br_f n30 (br_t h0 ⟨rfl, hR⟩)))
  by_cases h12 : v1 ≤ 12
  rotate_left
  · unfold wpX_express wpY_express
    have h13 : 12 < v1 := Int32.not_le.mp h12
    exact br_t (nI_lt (b := 30) hE2 (by decide)) (br_f h0 (br_f h12 (br_f n30 (br_f h0 (br_t h13 ⟨rfl, hR⟩)))))
  have h13 : ¬ 12 < v1 := fun z => (Int32.not_lt.mpr h12) z
  by_cases hv : v1 = 1 → ∃ v, v < 6 ∧ v2 = nI v
  rotate_left
  · obtain ⟨hv1, hv2⟩ := Classical.not_imp.mp hv
    unfold wpX_express wpY_express
    refine br_t (nI_lt (b := 30) hE2 (by decide)) (br_f h0 (br_t h12 (br_t hv1 (xv_V0 hv2 (br_t rfl ?_)))))
    exact br_f n30 (br_f h0 (br_f h13 (br_t hv1 (yv_V0 hv2 (br_t rfl ⟨rfl, hR⟩)))))
  refine xe_top hE2 h0 h12 hv ?_
  rcases xe_cls h0 h12 with hc | hc | hc
  · -- no parts
    refine xe_38_0 hc ?_
    refine xe_end hE2 (by decide) (fun post hp => xe_leaf hE2 hc hp) ?_
    refine ye_top hE2 h0 h13 hv ?_
    refine ye_37_0 hc ?_
    refine ye_end (w := 1) hE2 (by decide) (by decide) ⟨rfl, ?_⟩
    refine ⟨E + 1, N, oL, fC, oC, upd wt E (nI 1), upd cK (E * 7) v1, upd cO (E * 7) v2, upd cR (E * 7) 0, rg, oP, oX, oY, oZ, lS, lT, lL, iu, sz, ke, fd, ou, dp, tp, fl, lo, upd kd E v1, upd ex E v2, upd ey E v3, vs, vn, zy, es, eu, tk, sn, wk, sg, so, nu, la, tu, lz, rfl, rfl, by omega, hN, ?_, hS2, hiu, htk, U, H⟩
    refine tm_VEs hVE (fun j hj => ⟨pk_un (by omega), pk_un (by omega), pk_un (by omega)⟩) (by decide) ⟨by omega, pk_us, Or.inl ⟨rfl, ?_⟩⟩
    rw [Nat.mul_comm 7 E, pk_us, pk_us, pk_us, pk_us, pk_us]
    refine ⟨rfl, rfl, rfl, ?_⟩
    rcases hc with hc | hc | hc
    · exact Or.inl hc
    · exact Or.inr (Or.inl ⟨hc, hv hc⟩)
    · exact Or.inr (Or.inr hc)
  · -- one part
    by_cases hx : ∃ a, a < E ∧ v2 = nI a
    rotate_left
    · refine xe_38_1b hE (Or.inl hc) hx ?_
      exact ye_top hE2 h0 h13 hv (ye_37_1b hE (Or.inl hc) hx ⟨rfl, hR⟩)
    obtain ⟨x, hx, rfl⟩ := hx
    obtain ⟨w, hw7, T⟩ := hVE x hx
    have hw := (tm_pos T).2.1
    refine xe_38_1 hE hc hx hw ?_
    by_cases q : 1 + w ≤ 7
    rotate_left
    · refine xe_far (by omega) (by omega) ?_
      exact ye_top hE2 h0 h13 hv (ye_37_1 hE hc hx hw (ye_far (w := 1 + w) (by omega) (by omega) (by rw [Int32.add_zero]; exact nI_add 1 w) ⟨rfl, hR⟩))
    refine xe_end hE2 q (fun post hp => xe_one hE2 hc hx hw (by omega) hp) ?_
    refine ye_top hE2 h0 h13 hv (ye_37_1 hE hc hx hw (ye_end (w := 1 + w) hE2 q (by rw [Int32.add_zero]; exact nI_add 1 w) ⟨rfl, ?_⟩))
    refine ⟨E + 1, N, oL, fC, oC, upd wt E (nI (1 + w)), upd (tm_cp cK (E * 7) (x * 7) w 0) (E * 7 + w) v1, upd (tm_cp cO (E * 7) (x * 7) w 0) (E * 7 + w) 0, upd (tm_cp cR (E * 7) (x * 7) w 0) (E * 7 + w) 0, rg, oP, oX, oY, oZ, lS, lT, lL, iu, sz, ke, fd, ou, dp, tp, fl, lo, upd kd E v1, upd ex E (nI x), upd ey E v3, vs, vn, zy, es, eu, tk, sn, wk, sg, so, nu, la, tu, lz, rfl, rfl, by omega, hN, ?_, hS2, hiu, htk, U, H⟩
    refine tm_VEs hVE (fun j hj => ?_) q ?_
    · rw [pk_un (by omega), pk_un (by omega), pk_un (by omega), tm_cpo (by omega), tm_cpo (by omega), tm_cpo (by omega)]
      exact ⟨rfl, rfl, rfl⟩
    · rw [Nat.add_comm 1 w] at q ⊢
      refine ⟨by omega, pk_us, Or.inr (Or.inl ⟨x, w, ?_⟩)⟩
      rw [Nat.mul_comm 7 E, pk_us, pk_us, pk_us, pk_us]
      refine ⟨hc, rfl, rfl, ?_, rfl, rfl⟩
      refine tm_map (E := E) (E' := E + 1) (by omega) (fun e he => ⟨pk_un (by omega), pk_un (by omega), pk_un (by omega), pk_un (by omega)⟩) w w x (7 * x) 0 (E * 7) 0 (fun i hi => ?_) T
      rw [pk_un (by omega), pk_un (by omega), pk_un (by omega), tm_cpi hi, tm_cpi hi, tm_cpi hi, Nat.mul_comm x 7, Int32.add_zero, Int32.add_zero]
      exact ⟨rfl, rfl, rfl⟩
  · -- two parts
    by_cases hx : ∃ a, a < E ∧ v2 = nI a
    rotate_left
    · refine xe_38_1b hE (Or.inr hc) hx ?_
      exact ye_top hE2 h0 h13 hv (ye_37_1b hE (Or.inr hc) hx ⟨rfl, hR⟩)
    by_cases hy : ∃ a, a < E ∧ v3 = nI a
    rotate_left
    · refine xe_38_2b hE hc hx hy ?_
      exact ye_top hE2 h0 h13 hv (ye_37_2b hE hc hx hy ⟨rfl, hR⟩)
    obtain ⟨x, hx, rfl⟩ := hx
    obtain ⟨y, hy, rfl⟩ := hy
    obtain ⟨w, hw7, T⟩ := hVE x hx
    obtain ⟨wy, hwy7, Ty⟩ := hVE y hy
    have hw := (tm_pos T).2.1
    have hwy := (tm_pos Ty).2.1
    have hz : (1 + nI w) + nI wy = nI (1 + w + wy) := by rw [show (1 : Int32) + nI w = nI (1 + w) from nI_add 1 w, nI_add]
    refine xe_38_2 hE hc hx hw hy hwy ?_
    by_cases q : 1 + w + wy ≤ 7
    rotate_left
    · refine xe_far (by omega) (by omega) ?_
      exact ye_top hE2 h0 h13 hv (ye_37_2 hE hc hx hw hy hwy (ye_far (w := 1 + w + wy) (by omega) (by omega) hz ⟨rfl, hR⟩))
    have hke : ∀ e, e < E → upd kd E v1 e = kd e ∧ upd ex E (nI x) e = ex e ∧ upd ey E (nI y) e = ey e ∧ upd wt E (nI (1 + w + wy)) e = wt e := fun e he => ⟨pk_un (by omega), pk_un (by omega), pk_un (by omega), pk_un (by omega)⟩
    by_cases hch : v1 = 7 ∨ v1 = 8
    · refine xe_end hE2 q (fun post hp => xe_ch hE2 hch hx hw hy hwy (by omega) hp) ?_
      refine ye_top hE2 h0 h13 hv (ye_37_2 hE hc hx hw hy hwy (ye_end (w := 1 + w + wy) hE2 q hz ⟨rfl, ?_⟩))
      refine ⟨E + 1, N, oL, fC, oC, upd wt E (nI (1 + w + wy)), tm_cp (upd (tm_cp cK (E * 7) (x * 7) w 0) (E * 7 + w) v1) (E * 7 + w + 1) (y * 7) wy 0, tm_cp (upd (tm_cp cO (E * 7) (x * 7) w 0) (E * 7 + w) (nI wy)) (E * 7 + w + 1) (y * 7) wy 0, tm_cp (upd (tm_cp cR (E * 7) (x * 7) w 0) (E * 7 + w) 0) (E * 7 + w + 1) (y * 7) wy 0, rg, oP, oX, oY, oZ, lS, lT, lL, iu, sz, ke, fd, ou, dp, tp, fl, lo, upd kd E v1, upd ex E (nI x), upd ey E (nI y), vs, vn, zy, es, eu, tk, sn, wk, sg, so, nu, la, tu, lz, rfl, rfl, by omega, hN, ?_, hS2, hiu, htk, U, H⟩
      refine tm_VEs hVE (fun j hj => ?_) q ?_
      · rw [tm_cpo (by omega), tm_cpo (by omega), tm_cpo (by omega), pk_un (by omega), pk_un (by omega), pk_un (by omega), tm_cpo (by omega), tm_cpo (by omega), tm_cpo (by omega)]
        exact ⟨rfl, rfl, rfl⟩
      · rw [show 1 + w + wy = w + wy + 1 by omega] at hke ⊢
        refine ⟨by omega, pk_us, Or.inr (Or.inr (Or.inl ⟨x, y, w, wy, ?_⟩))⟩
        rw [Nat.mul_comm 7 E, tm_cpo (c := upd (tm_cp cK (E * 7) (x * 7) w 0) (E * 7 + w) v1) (j := E * 7 + w) (by omega), tm_cpo (c := upd (tm_cp cO (E * 7) (x * 7) w 0) (E * 7 + w) (nI wy)) (j := E * 7 + w) (by omega), tm_cpo (c := upd (tm_cp cR (E * 7) (x * 7) w 0) (E * 7 + w) 0) (j := E * 7 + w) (by omega), pk_us, pk_us, pk_us, pk_us, pk_us, pk_us]
        refine ⟨hch, rfl, rfl, by omega, ?_, rfl, rfl, rfl, ?_⟩
        · refine tm_mono w (w + wy) _ _ _ _ (by omega) (tm_map (E := E) (E' := E + 1) (by omega) hke w w x (7 * x) 0 (E * 7) 0 (fun i hi => ?_) T)
          rw [tm_cpo (by omega), tm_cpo (by omega), tm_cpo (by omega), pk_un (by omega), pk_un (by omega), pk_un (by omega), tm_cpi hi, tm_cpi hi, tm_cpi hi, Nat.mul_comm x 7, Int32.add_zero, Int32.add_zero]
          exact ⟨rfl, rfl, rfl⟩
        · refine tm_mono wy (w + wy) _ _ _ _ (by omega) (tm_map (E := E) (E' := E + 1) (by omega) hke wy wy y (7 * y) 0 (E * 7 + w + 1) 0 (fun i hi => ?_) Ty)
          rw [tm_cpi hi, tm_cpi hi, tm_cpi hi, pk_un (by omega), pk_un (by omega), pk_un (by omega), tm_cpo (by omega), tm_cpo (by omega), tm_cpo (by omega), Nat.mul_comm y 7, Int32.add_zero, Int32.add_zero]
          exact ⟨rfl, rfl, rfl⟩
    · have hk2 : tm_k2 v1 := by
        rcases hc with h | h | h
        · exact absurd (Or.inl h) hch
        · exact absurd (Or.inr h) hch
        · exact h
      refine xe_end hE2 q (fun post hp => xe_two hE2 hk2 hx hw hy hwy (by omega) hp) ?_
      refine ye_top hE2 h0 h13 hv (ye_37_2 hE hc hx hw hy hwy (ye_end (w := 1 + w + wy) hE2 q hz ⟨rfl, ?_⟩))
      refine ⟨E + 1, N, oL, fC, oC, upd wt E (nI (1 + w + wy)), upd (tm_cp (tm_cp cK (E * 7) (x * 7) w 0) (E * 7 + w) (y * 7) wy 0) (E * 7 + w + wy) v1, upd (tm_cp (tm_cp cO (E * 7) (x * 7) w 0) (E * 7 + w) (y * 7) wy 0) (E * 7 + w + wy) 0, upd (tm_cp (tm_cp cR (E * 7) (x * 7) w 0) (E * 7 + w) (y * 7) wy 1) (E * 7 + w + wy) 0, rg, oP, oX, oY, oZ, lS, lT, lL, iu, sz, ke, fd, ou, dp, tp, fl, lo, upd kd E v1, upd ex E (nI x), upd ey E (nI y), vs, vn, zy, es, eu, tk, sn, wk, sg, so, nu, la, tu, lz, rfl, rfl, by omega, hN, ?_, hS2, hiu, htk, U, H⟩
      refine tm_VEs hVE (fun j hj => ?_) q ?_
      · rw [pk_un (by omega), pk_un (by omega), pk_un (by omega), tm_cpo (by omega), tm_cpo (by omega), tm_cpo (by omega), tm_cpo (by omega), tm_cpo (by omega), tm_cpo (by omega)]
        exact ⟨rfl, rfl, rfl⟩
      · rw [show 1 + w + wy = w + wy + 1 by omega] at hke ⊢
        refine ⟨by omega, pk_us, Or.inr (Or.inr (Or.inr ⟨x, y, w, wy, ?_⟩))⟩
        rw [Nat.mul_comm 7 E, pk_us, pk_us, pk_us, pk_us, pk_us]
        refine ⟨hk2, rfl, rfl, by omega, ?_, ?_, rfl, rfl⟩
        · refine tm_mono w (w + wy) _ _ _ _ (by omega) (tm_map (E := E) (E' := E + 1) (by omega) hke w w x (7 * x) 0 (E * 7) 0 (fun i hi => ?_) T)
          rw [pk_un (by omega), pk_un (by omega), pk_un (by omega), tm_cpo (b := E * 7 + w) (by omega), tm_cpo (b := E * 7 + w) (by omega), tm_cpo (b := E * 7 + w) (by omega), tm_cpi hi, tm_cpi hi, tm_cpi hi, Nat.mul_comm x 7, Int32.add_zero, Int32.add_zero]
          exact ⟨rfl, rfl, rfl⟩
        · refine tm_mono wy (w + wy) _ _ _ _ (by omega) (tm_map (E := E) (E' := E + 1) (by omega) hke wy wy y (7 * y) 0 (E * 7 + w) 1 (fun i hi => ?_) Ty)
          rw [pk_un (by omega), pk_un (by omega), pk_un (by omega), tm_cpi hi, tm_cpi hi, tm_cpi hi, tm_cpo (by omega), tm_cpo (by omega), tm_cpo (by omega), Nat.mul_comm y 7, Int32.add_zero, Int32.add_zero]
          exact ⟨rfl, rfl, rfl⟩
end
section
/-! collect and reach: both mark the least closed set -/
def cn_c (U : Nat → Int32) : Nat → Nat
  | 0 => 0
  | n + 1 => cn_c U n + (if U n = 0 then 0 else 1)
theorem cn_le (U : Nat → Int32) (n : Nat) : cn_c U n ≤ n := by
  induction n with
  | zero => exact Nat.le_refl 0
  | succ n ih =>
    show cn_c U n + _ ≤ n + 1
    split <;> omega
theorem cn_out {U : Nat → Int32} {p : Nat} {x : Int32} : ∀ n, n ≤ p → cn_c (upd U p x) n = cn_c U n := by
  intro n
  induction n with
  | zero => intro _; rfl
  | succ n ih =>
    intro h
    show cn_c (upd U p x) n + (if upd U p x n = 0 then 0 else 1) = cn_c U n + (if U n = 0 then 0 else 1)
    rw [ih (by omega), pk_un (by omega)]
theorem cn_upd {U : Nat → Int32} {p : Nat} {x : Int32} (h0 : U p = 0) (hx : ¬ x = 0) : ∀ n, p < n → cn_c (upd U p x) n = cn_c U n + 1 := by
  intro n
  induction n with
  | zero => intro h; omega
  | succ n ih =>
    intro h
    show cn_c (upd U p x) n + (if upd U p x n = 0 then 0 else 1) = cn_c U n + (if U n = 0 then 0 else 1) + 1
    by_cases e : p = n
    · subst e
      rw [cn_out p (Nat.le_refl p), pk_us, if_neg hx, if_pos h0]
    · rw [ih (by omega), pk_un (by omega)]; omega
theorem cn_mono {U V : Nat → Int32} : ∀ n, (∀ t, t < n → ¬ U t = 0 → ¬ V t = 0) → cn_c U n ≤ cn_c V n := by
  intro n
  induction n with
  | zero => intro _; exact Nat.le_refl _
  | succ n ih =>
    intro h
    show cn_c U n + (if U n = 0 then 0 else 1) ≤ cn_c V n + (if V n = 0 then 0 else 1)
    have h1 := ih (fun t ht => h t (by omega))
    by_cases e : U n = 0
    · rw [if_pos e]; split <;> omega
    · rw [if_neg e, if_neg (h n (by omega) e)]; omega
theorem cn_lt {U V : Nat → Int32} {n t : Nat} (h : ∀ t, t < n → ¬ U t = 0 → ¬ V t = 0) (ht : t < n) (h0 : U t = 0) (h1 : ¬ V t = 0) : cn_c U n + 1 ≤ cn_c V n := by
  rw [← cn_upd (x := 1) h0 (by decide) n ht]
  refine cn_mono n (fun s hs z => ?_)
  by_cases e : s = t
  · subst e; exact h1
  · rw [pk_un e] at z; exact h s hs z
theorem cn_free {U : Nat → Int32} : ∀ n, cn_c U n < n → ∃ p, p < n ∧ U p = 0 ∧ ∀ q, q < p → ¬ U q = 0 := by
  intro n
  induction n with
  | zero => intro h; omega
  | succ n ih =>
    intro h
    by_cases q : cn_c U n < n
    · obtain ⟨p, hp, a, b⟩ := ih q
      exact ⟨p, by omega, a, b⟩
    · have h1 : cn_c U n = n := by have := cn_le U n; omega
      have hf : ∀ m, m ≤ n → cn_c U m = m → ∀ t, t < m → ¬ U t = 0 := by
        intro m
        induction m with
        | zero => intro _ _ t ht; omega
        | succ m ihm =>
          intro hm hc t ht
          have hc' : cn_c U m + (if U m = 0 then 0 else 1) = m + 1 := hc
          have hle := cn_le U m
          by_cases e : U m = 0
          · rw [if_pos e] at hc'; omega
          · rw [if_neg e] at hc'
            by_cases e2 : t = m
            · subst e2; exact e
            · exact ihm (by omega) (by omega) t (by omega)
      refine ⟨n, by omega, ?_, hf n (Nat.le_refl n) h1⟩
      by_cases e : U n = 0
      · exact e
      · have h' : cn_c U n + (if U n = 0 then 0 else 1) < n + 1 := h
        rw [if_neg e] at h'; omega
def ck_R (vs vn : Nat → Int32) (S : Nat → Prop) : Prop := ∀ v, v < 6 → vs v = 2 → S (vn v).toNatClampNeg
def ck_C (z es eu : Nat → Int32) (S : Nat → Prop) : Prop := ∀ t i, t < 20 → S t → i < 6 → nI i < z t → es (6 * t + i) = 2 → S (eu (6 * t + i)).toNatClampNeg
def ck_I (sz vs vn es eu iu : Nat → Int32) (c : Nat) (fd : Nat → Int32) : Prop :=
  c = cn_c iu 20 ∧ (∀ t, 20 ≤ t → iu t = 0) ∧ (∀ t, iu t = 0 ∨ iu t = 1) ∧ (∀ i, i < c → ∃ p, p < 20 ∧ fd i = nI p) ∧ (∀ p, ¬ iu p = 0 → ∃ i, i < c ∧ fd i = nI p) ∧ (∀ S : Nat → Prop, ck_R vs vn S → ck_C sz es eu S → ∀ t, ¬ iu t = 0 → S t) ∧ (∀ i p, i < c → p < 20 → fd i = nI p → ¬ iu p = 0)
theorem ck_U {U sz zy vs vn es eu : Nat → Int32} (H : tm_HO U sz zy vs vn es eu) : ck_R vs vn (fun t => ¬ U t = 0) ∧ ck_C sz es eu (fun t => ¬ U t = 0) ∧ ck_C zy es eu (fun t => ¬ U t = 0) := by
  have g : ∀ {s n : Int32}, cv_ok U s n → s = 2 → ¬ U n.toNatClampNeg = 0 := by
    intro s n h e
    refine tm_kind h (fun a _ => absurd (a.symm.trans e) (by decide)) (fun a => absurd (a.symm.trans e) (by decide)) (fun p _ hp hn hU => ?_)
    rw [hn, nI_clamp (by omega)]; exact hU
  refine ⟨fun v hv e => g (H.2.2 v hv) e, fun t i ht hU hi hz e => ?_, fun t i ht hU hi hz e => ?_⟩
  · obtain ⟨_, _, m, hm, hs⟩ := H.1 t hU
    rw [hs, nI_ltI (by omega) (by omega)] at hz
    exact g (H.2.1 t i m hU hs hm hz) e
  · obtain ⟨_, hy, m, hm, hs⟩ := H.1 t hU
    rw [hy, hs, nI_ltI (by omega) (by omega)] at hz
    exact g (H.2.1 t i m hU hs hm hz) e
section
variable {eN sN oL fC oC : Int32} {wt cK cO cR : Nat → Int32} {rg : Nat → Int64} {oP oX oY oZ lS lT lL : Nat → Int32} {va : Nat → Int64} {iu sz ke : Nat → Int32} {en : Nat → Int64} {fd : Nat → Int32} {ou : Nat → Int64} {yE yN yC dp tp fl lo : Int32} {kd ex ey yW yP yX yY yZ vs vn zy yK es eu tk sn : Nat → Int32} {yO : Nat → Int64} {wk sg so nu la tu lz : Nat → Int32}
theorem xk_keep {s n : Int32} {c : Nat} (K : ck_I sz vs vn es eu iu c fd) (hs : cv_s s n) (hp2 : s = 2 → ∃ p, p < 20 ∧ n = nI p) (hm : s = 2 → ∀ S : Nat → Prop, ck_R vs vn S → ck_C sz es eu S → S n.toNatClampNeg) :
    ∃ (iu' : Nat → Int32) (c' : Nat) (fd' : Nat → Int32), ck_I sz vs vn es eu iu' c' fd' ∧ (∀ t, ¬ iu t = 0 → ¬ iu' t = 0) ∧ (s = 2 → ¬ iu' n.toNatClampNeg = 0) ∧ c ≤ c' ∧ (∀ i, i < c → fd' i = fd i) ∧ ∀ post : SX → Prop, post (eN, sN, oL, nI c', oC, wt, cK, cO, cR, rg, oP, oX, oY, oZ, lS, lT, lL, va, iu', sz, ke, en, fd', ou) → wpX_keep post (eN, sN, oL, nI c, oC, wt, cK, cO, cR, rg, oP, oX, oY, oZ, lS, lT, lL, va, iu, sz, ke, en, fd, ou) (cv_e s n) := by
  by_cases e : s = 2
  · obtain ⟨p, hp, rfl⟩ := hp2 e
    have hc : (nI p).toNatClampNeg = p := nI_clamp (by omega)
    have hi : vp_in (nI p) 20 := vp_in_nI hp (by decide)
    have hm' := hm e
    rw [hc] at hm' ⊢
    have K0 := K
    obtain ⟨k1, k2, k3, k4, k5, k6, k7⟩ := K
    by_cases q : iu p = 0
    · have hu := cn_upd (x := 1) q (by decide) 20 hp
      have hl := cn_le (upd iu p 1) 20
      have c20 : c < 20 := by omega
      refine ⟨upd iu p 1, c + 1, upd fd c (nI p), ⟨by omega, ?_, ?_, ?_, ?_, ?_, ?_⟩, ?_, ?_, by omega, ?_, fun post hq => ?_⟩
      · intro t ht; rw [pk_un (by omega)]; exact k2 t ht
      · intro t
        by_cases e2 : t = p
        · subst e2; exact Or.inr pk_us
        · rw [pk_un e2]; exact k3 t
      · intro i hi
        by_cases e2 : i = c
        · subst e2; exact ⟨p, hp, pk_us⟩
        · rw [pk_un e2]; exact k4 i (by omega)
      · intro t ht
        by_cases e2 : t = p
        · subst e2; exact ⟨c, by omega, pk_us⟩
        · rw [pk_un e2] at ht
          obtain ⟨i, hi, h⟩ := k5 t ht
          exact ⟨i, by omega, by rw [pk_un (by omega)]; exact h⟩
      · intro S hR hC t ht
        by_cases e2 : t = p
        · subst e2; exact hm' S hR hC
        · rw [pk_un e2] at ht; exact k6 S hR hC t ht
      · intro i t hi ht h
        by_cases e2 : i = c
        · subst e2
          rw [pk_us] at h
          have := (nI_eq (by omega) (by omega)).mp h
          subst this
          rw [pk_us]; decide
        · rw [pk_un e2] at h
          have := k7 i t (by omega) ht h
          by_cases e3 : t = p
          · subst e3; rw [pk_us]; decide
          · rw [pk_un e3]; exact this
      · intro t ht
        by_cases e3 : t = p
        · subst e3; rw [pk_us]; decide
        · rw [pk_un e3]; exact ht
      · intro _; rw [pk_us]; decide
      · intro i hi; exact pk_un (by omega)
      · unfold wpX_keep
        refine xv_tabT hs e (br_f (by decide) (xv_num hs ⟨hi, ?_⟩))
        rw [hc]
        exact br_t q ⟨hi, nm_r (by rw [cv_b1]) ⟨vp_in_nI c20 (by decide), nm_r (by rw [nI_clamp (by omega)]) (nm_r (nI_1 c) hq)⟩⟩
    · refine ⟨iu, c, fd, K0, fun _ h => h, fun _ => q, Nat.le_refl c, fun _ _ => rfl, fun post hq => ?_⟩
      unfold wpX_keep
      refine xv_tabT hs e (br_f (by decide) (xv_num hs ⟨hi, ?_⟩))
      rw [hc]
      exact br_f q hq
  · refine ⟨iu, c, fd, K, fun _ h => h, fun z => absurd z e, Nat.le_refl c, fun _ _ => rfl, fun post hq => ?_⟩
    unfold wpX_keep
    exact xv_tabF hs e (br_t rfl hq)
theorem xk_cok {U : Nat → Int32} {s n : Int32} (h : cv_ok U s n) : s = 2 → ∃ p, p < 20 ∧ n = nI p := fun e => tm_kind h (fun a _ => absurd (a.symm.trans e) (by decide)) (fun a => absurd (a.symm.trans e) (by decide)) (fun p _ hp hn _ => ⟨p, hp, hn⟩)
theorem xk_in {U : Nat → Int32} {p m i : Nat} (hp : p < 20) (hm : m ≤ 6) (hz : sz p = nI m) (hok : ∀ k, k < m → cv_ok U (es (6 * p + k)) (eu (6 * p + k))) (hSp : ∀ S : Nat → Prop, ck_R vs vn S → ck_C sz es eu S → S p) :
    ∀ d k : Nat, k + d = m → ∀ (iu : Nat → Int32) (c : Nat) (fd : Nat → Int32), ck_I sz vs vn es eu iu c fd → (∀ k', k' < k → es (6 * p + k') = 2 → ¬ iu (eu (6 * p + k')).toNatClampNeg = 0) →
      ∃ (iu' : Nat → Int32) (c' : Nat) (fd' : Nat → Int32), ck_I sz vs vn es eu iu' c' fd' ∧ (∀ t, ¬ iu t = 0 → ¬ iu' t = 0) ∧ (∀ k', k' < m → es (6 * p + k') = 2 → ¬ iu' (eu (6 * p + k')).toNatClampNeg = 0) ∧ c ≤ c' ∧ (∀ i, i < c → fd' i = fd i) ∧
      ∀ (post : Int32 → SX → Prop) (J : Int32 → Int32 → Int32 → Int32 → Int32 → Int32 → (Nat → Int32) → (Nat → Int32) → (Nat → Int32) → (Nat → Int32) → (Nat → Int64) → (Nat → Int32) → (Nat → Int32) → (Nat → Int32) → (Nat → Int32) → (Nat → Int32) → (Nat → Int32) → (Nat → Int32) → (Nat → Int64) → (Nat → Int32) → (Nat → Int32) → (Nat → Int32) → (Nat → Int64) → (Nat → Int32) → (Nat → Int64) → Prop),
      J (nI (i + 1)) eN sN oL (nI c') oC wt cK cO cR rg oP oX oY oZ lS lT lL va iu' sz ke (cv_f es eu) fd' ou → wX_collect_91 post J (nI i) (nI (p * 6)) (nI m) (d + 1) (nI k) eN sN oL (nI c) oC wt cK cO cR rg oP oX oY oZ lS lT lL va iu sz ke (cv_f es eu) fd ou := by
  intro d
  induction d with
  | zero =>
    intro k hk iu c fd K hd
    obtain rfl : k = m := by omega
    exact ⟨iu, c, fd, K, fun _ h => h, hd, Nat.le_refl c, fun _ _ => rfl, fun post J hJ => br_t (nI_le (Nat.le_refl _) (by omega)) (nm_r (nI_1 i) hJ)⟩
  | succ d ih =>
    intro k hk iu c fd K hd
    have e1 : nI (p * 6) + nI k = nI (6 * p + k) := by rw [nI_add, Nat.mul_comm]
    have ok := hok k (by omega)
    obtain ⟨iu', c', fd', K', mo, mk, hc, hf, hw⟩ := xk_keep (eN := eN) (sN := sN) (oL := oL) (oC := oC) (wt := wt) (cK := cK) (cO := cO) (cR := cR) (rg := rg) (oP := oP) (oX := oX) (oY := oY) (oZ := oZ) (lS := lS) (lT := lT) (lL := lL) (va := va) (ke := ke) (en := cv_f es eu) (ou := ou) K (cv_ok_s ok) (xk_cok ok) (fun e S hR hC => hC p k hp (hSp S hR hC) (by omega) (by rw [hz]; exact nI_lt (by omega) (by omega)) e)
    obtain ⟨iu2, c2, fd2, K2, mo2, al, hc2, hf2, hw2⟩ := ih (k + 1) (by omega) iu' c' fd' K' (fun k' hk' e => by
      by_cases e2 : k' = k
      · subst e2; exact mk e
      · exact mo _ (hd k' (by omega) e))
    refine ⟨iu2, c2, fd2, K2, fun t h => mo2 t (mo t h), al, by omega, fun i hi => (hf2 i (by omega)).trans (hf i hi), fun post J hJ => ?_⟩
    refine br_f (nI_ge (by omega) (by omega)) ⟨by rw [e1]; exact vp_in_nI (by omega) (by decide), ?_⟩
    rw [e1, nI_clamp (by omega)]
    exact hw _ (nm_r (nI_1 k) (hw2 post J hJ))
theorem xk_bfs {U : Nat → Int32} (H : tm_HO U sz zy vs vn es eu) :
    ∀ d i : Nat, i + d = 20 → ∀ (iu : Nat → Int32) (c : Nat) (fd : Nat → Int32), ck_I sz vs vn es eu iu c fd → i ≤ c → ck_R vs vn (fun t => ¬ iu t = 0) →
      (∀ i' p k, i' < i → fd i' = nI p → p < 20 → k < 6 → nI k < sz p → es (6 * p + k) = 2 → ¬ iu (eu (6 * p + k)).toNatClampNeg = 0) →
      ∃ (iu' : Nat → Int32) (c' : Nat) (fd' : Nat → Int32), ck_I sz vs vn es eu iu' c' fd' ∧ ck_R vs vn (fun t => ¬ iu' t = 0) ∧ ck_C sz es eu (fun t => ¬ iu' t = 0) ∧ ∀ post : Int32 → SX → Prop, post (nI c') (eN, sN, oL, nI c', oC, wt, cK, cO, cR, rg, oP, oX, oY, oZ, lS, lT, lL, cv_f vs vn, iu', sz, ke, cv_f es eu, fd', ou) →
      wX_collect_52 post (d + 1) (nI i) eN sN oL (nI c) oC wt cK cO cR rg oP oX oY oZ lS lT lL (cv_f vs vn) iu sz ke (cv_f es eu) fd ou := by
  have fin : ∀ (iu : Nat → Int32) (c : Nat) (fd : Nat → Int32), ck_I sz vs vn es eu iu c fd →
      (∀ i' p k, i' < c → fd i' = nI p → p < 20 → k < 6 → nI k < sz p → es (6 * p + k) = 2 → ¬ iu (eu (6 * p + k)).toNatClampNeg = 0) → ck_C sz es eu (fun t => ¬ iu t = 0) := by
    intro iu c fd K hd t k ht hu hk hz e
    obtain ⟨i', hi', hf⟩ := K.2.2.2.2.1 t hu
    exact hd i' t k hi' hf ht hk hz e
  intro d
  induction d with
  | zero =>
    intro i hi iu c fd K hic hr hd
    have hc := cn_le iu 20
    have hc2 := K.1
    obtain rfl : i = c := by omega
    exact ⟨iu, i, fd, K, hr, fin iu i fd K hd, fun post hp => br_t (nI_le (a := 20) (by omega) (by omega)) hp⟩
  | succ d ih =>
    intro i hi iu c fd K hic hr hd
    have hc := cn_le iu 20
    have hc2 := K.1
    by_cases e : i = c
    · subst e
      exact ⟨iu, i, fd, K, hr, fin iu i fd K hd, fun post hp => br_f (nI_ge (b := 20) (by omega) (by decide)) (br_t (nI_le (Nat.le_refl _) (by omega)) hp)⟩
    · obtain ⟨p, hp, hf⟩ := K.2.2.2.1 i (by omega)
      have hu := K.2.2.2.2.2.2 i p (by omega) hp hf
      have hU : ¬ U p = 0 := K.2.2.2.2.2.1 _ (ck_U H).1 (ck_U H).2.1 p hu
      obtain ⟨_, _, m, hm, hz⟩ := H.1 p hU
      have hi20 : vp_in (nI i) 20 := vp_in_nI (by omega) (by decide)
      have hci : (nI i).toNatClampNeg = i := nI_clamp (by omega)
      obtain ⟨iu', c', fd', K', mo, al, hc', hf', hw⟩ := xk_in (eN := eN) (sN := sN) (oL := oL) (oC := oC) (wt := wt) (cK := cK) (cO := cO) (cR := cR) (rg := rg) (oP := oP) (oX := oX) (oY := oY) (oZ := oZ) (lS := lS) (lT := lT) (lL := lL) (va := cv_f vs vn) (ke := ke) (ou := ou) (i := i) hp hm hz (fun k hk => H.2.1 p k m hU hz hm hk) (fun S a b => K.2.2.2.2.2.1 S a b p hu) m 0 (by omega) iu c fd K (fun k' hk' => by omega)
      obtain ⟨iu2, c2, fd2, K2, hr2, hC2, hw2⟩ := ih (i + 1) (by omega) iu' c' fd' K' (by omega) (fun v hv e => mo _ (hr v hv e)) (fun i' p' k hi' hfp hp' hk hz' e => by
        by_cases e2 : i' = i
        · subst e2
          rw [hf' i' (by omega), hf] at hfp
          have := (nI_eq (by omega) (by omega)).mp hfp
          subst this
          rw [hz, nI_ltI (by omega) (by omega)] at hz'
          exact al k hz' e
        · rw [hf' i' (by omega)] at hfp
          exact mo _ (hd i' p' k (by omega) hfp hp' hk hz' e))
      refine ⟨iu2, c2, fd2, K2, hr2, hC2, fun post hpo => ?_⟩
      exact br_f (nI_ge (b := 20) (by omega) (by decide)) (br_f (nI_ge (by omega) (by omega)) ⟨hi20, nm_r (by rw [hci, hf]; exact pk_mul p 6) ⟨hi20, by rw [hci, hf]; exact vp_in_nI hp (by decide), nm_r (by rw [hci, hf, nI_clamp (by omega), hz]) ⟨_, hw post _ (hw2 post hpo)⟩⟩⟩)
theorem xk_roots {U : Nat → Int32} (H : tm_HO U sz zy vs vn es eu) :
    ∀ d i : Nat, i + d = 6 → ∀ (iu : Nat → Int32) (c : Nat) (fd : Nat → Int32), ck_I sz vs vn es eu iu c fd → (∀ v, v < i → vs v = 2 → ¬ iu (vn v).toNatClampNeg = 0) →
      ∃ (iu' : Nat → Int32) (c' : Nat) (fd' : Nat → Int32), ck_I sz vs vn es eu iu' c' fd' ∧ ck_R vs vn (fun t => ¬ iu' t = 0) ∧ ck_C sz es eu (fun t => ¬ iu' t = 0) ∧ ∀ post : Int32 → SX → Prop, post (nI c') (eN, sN, oL, nI c', oC, wt, cK, cO, cR, rg, oP, oX, oY, oZ, lS, lT, lL, cv_f vs vn, iu', sz, ke, cv_f es eu, fd', ou) →
      wX_collect_28 post (d + 1) (nI i) eN sN oL (nI c) oC wt cK cO cR rg oP oX oY oZ lS lT lL (cv_f vs vn) iu sz ke (cv_f es eu) fd ou := by
  intro d
  induction d with
  | zero =>
    intro i hi iu c fd K hd
    obtain rfl : i = 6 := by omega
    obtain ⟨iu2, c2, fd2, K2, hr2, hC2, hw2⟩ := xk_bfs (eN := eN) (sN := sN) (oL := oL) (oC := oC) (wt := wt) (cK := cK) (cO := cO) (cR := cR) (rg := rg) (oP := oP) (oX := oX) (oY := oY) (oZ := oZ) (lS := lS) (lT := lT) (lL := lL) (ke := ke) (ou := ou) H 20 0 (by omega) iu c fd K (Nat.zero_le c) (fun v hv e => hd v hv e) (fun i' p k h => absurd h (by omega))
    exact ⟨iu2, c2, fd2, K2, hr2, hC2, fun post hp => br_t (by decide) ⟨_, hw2 post hp⟩⟩
  | succ d ih =>
    intro i hi iu c fd K hd
    have ok := H.2.2 i (by omega)
    obtain ⟨iu', c', fd', K', mo, mk, hc, hf, hw⟩ := xk_keep (eN := eN) (sN := sN) (oL := oL) (oC := oC) (wt := wt) (cK := cK) (cO := cO) (cR := cR) (rg := rg) (oP := oP) (oX := oX) (oY := oY) (oZ := oZ) (lS := lS) (lT := lT) (lL := lL) (va := cv_f vs vn) (ke := ke) (en := cv_f es eu) (ou := ou) K (cv_ok_s ok) (xk_cok ok) (fun e S hR hC => hR i (by omega) e)
    obtain ⟨iu2, c2, fd2, K2, hr2, hC2, hw2⟩ := ih (i + 1) (by omega) iu' c' fd' K' (fun v hv e => by
      by_cases e2 : v = i
      · subst e2; exact mk e
      · exact mo _ (hd v (by omega) e))
    refine ⟨iu2, c2, fd2, K2, hr2, hC2, fun post hp => ?_⟩
    refine br_f (nI_ge (b := 6) (by omega) (by decide)) ⟨vp_in_nI (by omega) (by decide), ?_⟩
    rw [nI_clamp (by omega)]
    exact hw _ (nm_r (nI_1 i) (hw2 post hp))
theorem xk_collect {U : Nat → Int32} (H : tm_HO U sz zy vs vn es eu) (hiu : ∀ t, 20 ≤ t → iu t = 0) :
    ∃ (iu' : Nat → Int32) (c' : Nat) (fd' : Nat → Int32), ck_I sz vs vn es eu iu' c' fd' ∧ ck_R vs vn (fun t => ¬ iu' t = 0) ∧ ck_C sz es eu (fun t => ¬ iu' t = 0) ∧ ∀ post : Int32 → SX → Prop, post (nI c') (eN, sN, oL, nI c', oC, wt, cK, cO, cR, rg, oP, oX, oY, oZ, lS, lT, lL, cv_f vs vn, iu', sz, ke, cv_f es eu, fd', ou) →
    wpX_collect post (eN, sN, oL, fC, oC, wt, cK, cO, cR, rg, oP, oX, oY, oZ, lS, lT, lL, cv_f vs vn, iu, sz, ke, cv_f es eu, fd, ou) := by
  obtain ⟨iu2, c2, fd2, K2, hr2, hC2, hw2⟩ := xk_roots (eN := eN) (sN := sN) (oL := oL) (oC := oC) (wt := wt) (cK := cK) (cO := cO) (cR := cR) (rg := rg) (oP := oP) (oX := oX) (oY := oY) (oZ := oZ) (lS := lS) (lT := lT) (lL := lL) (ke := ke) (ou := ou) H 6 0 (by omega) (fun _ => 0) 0 fd ⟨by decide, fun _ _ => rfl, fun _ => Or.inl rfl, fun i h => absurd h (by omega), fun p h => absurd rfl h, fun S _ _ t h => absurd rfl h, fun i p h => absurd h (by omega)⟩ (fun v h => absurd h (by omega))
  refine ⟨iu2, c2, fd2, K2, hr2, hC2, fun post hp => ?_⟩
  unfold wpX_collect
  have g : ∀ d i : Nat, i + d = 20 → ∀ iu : Nat → Int32, (∀ t, 20 ≤ t → iu t = 0) → (∀ t, t < i → iu t = 0) → wX_collect_2 post eN sN oL fC oC (d + 1) (nI i) wt cK cO cR rg oP oX oY oZ lS lT lL (cv_f vs vn) iu sz ke (cv_f es eu) fd ou := by
    intro d
    induction d with
    | zero =>
      intro i hi iu h1 h2
      obtain rfl : i = 20 := by omega
      have e : iu = fun _ => 0 := funext fun t => by
        by_cases q : t < 20
        · exact h2 t q
        · exact h1 t (by omega)
      subst e
      exact br_t (by decide) ⟨_, hw2 post hp⟩
    | succ d ih =>
      intro i hi iu h1 h2
      refine br_f (nI_ge (b := 20) (by omega) (by decide)) ⟨vp_in_nI (by omega) (by decide), nm_r (by rw [nI_clamp (by omega), cv_b0]) (nm_r (nI_1 i) (ih (i + 1) (by omega) (upd iu i 0) (fun t ht => ?_) (fun t ht => ?_)))⟩
      · rw [pk_un (by omega)]; exact h1 t ht
      · by_cases e : t = i
        · subst e; exact pk_us
        · rw [pk_un e]; exact h2 t (by omega)
  exact ⟨_, g 20 0 (by omega) iu hiu (fun t ht => by omega)⟩
end
end
section
/-! reach of the reference -/
def yk_I (zy vs vn es eu sn : Nat → Int32) : Prop :=
  (∀ t, t < 24 → sn t = 0 ∨ sn t = 1) ∧ (∀ S : Nat → Prop, ck_R vs vn S → ck_C zy es eu S → ∀ t, t < 24 → ¬ sn t = 0 → S t)
theorem yk_put {zy vs vn es eu sn : Nat → Int32} {p : Nat} (Y : yk_I zy vs vn es eu sn) (hm : ∀ S : Nat → Prop, ck_R vs vn S → ck_C zy es eu S → S p) : yk_I zy vs vn es eu (upd sn p 1) := by
  refine ⟨fun t ht => ?_, fun S a b t ht h => ?_⟩
  · by_cases e : t = p
    · subst e; exact Or.inr pk_us
    · rw [pk_un e]; exact Y.1 t ht
  · by_cases e : t = p
    · subst e; exact hm S a b
    · rw [pk_un e] at h; exact Y.2 S a b t ht h
theorem yk_mo {sn : Nat → Int32} {p t : Nat} (h : ¬ sn t = 0) : ¬ upd sn p 1 t = 0 := by
  by_cases e : t = p
  · subst e; rw [pk_us]; decide
  · rw [pk_un e]; exact h
section
variable {yE yN yC dp tp fl lo : Int32} {kd ex ey yW yP yX yY yZ vs vn zy yK es eu tk sn : Nat → Int32} {yO : Nat → Int64} {wk sg so nu la tu lz : Nat → Int32}
theorem yk_cnt {post : Int32 → SY → Prop} (hp : post (nI (cn_c sn 24)) (yE, yN, yC, dp, tp, fl, lo, kd, ex, ey, yW, yP, yX, yY, yZ, vs, vn, zy, yK, es, eu, tk, sn, yO, wk, sg, so, nu, la, tu, lz)) : ∀ d i : Nat, i + d = 24 → wY_reach_140 post yE yN yC dp tp fl lo kd ex ey yW yP yX yY yZ vs vn zy yK es eu tk sn yO wk sg so nu la tu lz (d + 1) (nI (cn_c sn i)) (nI i) := by
  intro d
  induction d with
  | zero =>
    intro i hi
    obtain rfl : i = 24 := by omega
    exact br_t (by decide) hp
  | succ d ih =>
    intro i hi
    have h := ih (i + 1) (by omega)
    have hl := cn_le sn i
    refine br_f (nI_ge (b := 24) (by omega) (by decide)) ⟨vp_in_nI (by omega) (by decide), ?_⟩
    rw [nI_clamp (n := i) (by omega)]
    by_cases q : sn i = 0
    · have e : cn_c sn (i + 1) = cn_c sn i := by show cn_c sn i + (if sn i = 0 then 0 else 1) = _; rw [if_pos q]; rfl
      rw [e] at h
      exact br_t q (nm_r (nI_1 i) h)
    · have e : cn_c sn (i + 1) = cn_c sn i + 1 := by show cn_c sn i + (if sn i = 0 then 0 else 1) = _; rw [if_neg q]
      rw [e] at h
      exact br_f q (nm_r (nI_1 _) (nm_r (nI_1 i) h))
/-- one round over all entries -/
theorem yk_in {U sz s0 : Nat → Int32} {r : Nat} (H : tm_HO U sz zy vs vn es eu) :
    ∀ d k : Nat, k + d = 144 → ∀ sn : Nat → Int32, yk_I zy vs vn es eu sn → (∀ t, t < 24 → ¬ s0 t = 0 → ¬ sn t = 0) →
      ((∃ t, t < 24 ∧ ¬ sn t = 0 ∧ s0 t = 0) ∨ ((∀ t, t < 24 → ¬ sn t = 0 → ¬ s0 t = 0) ∧ ∀ t i, t < 20 → i < 6 → 6 * t + i < k → ¬ s0 t = 0 → nI i < zy t → es (6 * t + i) = 2 → ¬ s0 (eu (6 * t + i)).toNatClampNeg = 0)) →
      ∃ sn' : Nat → Int32, yk_I zy vs vn es eu sn' ∧ (∀ t, t < 24 → ¬ s0 t = 0 → ¬ sn' t = 0) ∧ ((∃ t, t < 24 ∧ ¬ sn' t = 0 ∧ s0 t = 0) ∨ ((∀ t, t < 24 → ¬ sn' t = 0 → ¬ s0 t = 0) ∧ ck_C zy es eu (fun t => ¬ s0 t = 0))) ∧
      ∀ (post : Int32 → SY → Prop) (J : Int32 → (Nat → Int32) → (Nat → Int32) → (Nat → Int32) → (Nat → Int32) → (Nat → Int32) → (Nat → Int32) → (Nat → Int32) → (Nat → Int32) → (Nat → Int32) → (Nat → Int32) → (Nat → Int32) → (Nat → Int32) → (Nat → Int32) → (Nat → Int32) → (Nat → Int32) → (Nat → Int32) → (Nat → Int64) → (Nat → Int32) → (Nat → Int32) → (Nat → Int32) → (Nat → Int32) → (Nat → Int32) → (Nat → Int32) → (Nat → Int32) → Prop), J (nI (r + 1)) kd ex ey yW yP yX yY yZ vs vn zy yK es eu tk sn' yO wk sg so nu la tu lz →
      wY_reach_67 post J (nI r) yE yN yC dp tp fl lo (d + 1) (nI k) kd ex ey yW yP yX yY yZ vs vn zy yK es eu tk sn yO wk sg so nu la tu lz := by
  intro d
  induction d with
  | zero =>
    intro k hk sn Y mo hd
    obtain rfl : k = 144 := by omega
    refine ⟨sn, Y, mo, ?_, fun post J hJ => br_t (by decide) (nm_r (nI_1 r) hJ)⟩
    rcases hd with h | h
    · exact Or.inl h
    · exact Or.inr ⟨h.1, fun t i ht hu hi hz e => h.2 t i ht hi (by omega) hu hz e⟩
  | succ d ih =>
    intro k hk sn Y mo hd
    have d1 : nI k / 6 = nI (k / 6) := pk_div (d := 6) (by omega) (by decide) (by decide)
    have d2 : nI k - nI k / 6 * 6 = nI (k % 6) := pk_rem (d := 6) (by omega) (by decide) (by decide)
    have hk6 : 6 * (k / 6) + k % 6 = k := Nat.div_add_mod k 6
    have hm6 : k % 6 < 6 := Nat.mod_lt _ (by decide)
    have n6 : ¬ (6 : Int32) = 0 := by decide
    have i1 : vp_in (nI k / 6) 24 := by rw [d1]; exact vp_in_nI (by omega) (by decide)
    have c1 : (nI k / 6).toNatClampNeg = k / 6 := by rw [d1]; exact nI_clamp (by omega)
    have ik : vp_in (nI k) 144 := vp_in_nI (by omega) (by decide)
    have ck : (nI k).toNatClampNeg = k := nI_clamp (by omega)
    have n144 : ¬ (144 : Int32) ≤ nI k := nI_ge (b := 144) (by omega) (by decide)
    by_cases qq : ¬ sn (k / 6) = 0 ∧ nI (k % 6) < zy (k / 6) ∧ es k = 2
    · obtain ⟨q1, hl, q3⟩ := qq
      have hU : ¬ U (k / 6) = 0 := Y.2 _ (ck_U H).1 (ck_U H).2.2 (k / 6) (by omega) q1
      obtain ⟨t20, hy, m, hm, hz⟩ := H.1 (k / 6) hU
      have hl2 := hl
      rw [hy, hz, nI_ltI (by omega) (by omega)] at hl2
      have ok := H.2.1 (k / 6) (k % 6) m hU hz hm hl2
      rw [hk6] at ok
      obtain ⟨p, hp, he⟩ := xk_cok ok q3
      have cp : (eu k).toNatClampNeg = p := by rw [he]; exact nI_clamp (by omega)
      have hSp : ∀ S : Nat → Prop, ck_R vs vn S → ck_C zy es eu S → S p := by
        intro S a b
        have := b (k / 6) (k % 6) t20 (Y.2 S a b (k / 6) (by omega) q1) hm6 hl (by rw [hk6]; exact q3)
        rw [hk6, cp] at this; exact this
      obtain ⟨sn', Y', mo', hd', hw⟩ := ih (k + 1) (by omega) (upd sn p 1) (yk_put Y hSp) (fun t ht h => yk_mo (mo t ht h)) (by
        rcases hd with ⟨t, a, b, c⟩ | h
        · exact Or.inl ⟨t, a, yk_mo b, c⟩
        · by_cases q4 : s0 p = 0
          · exact Or.inl ⟨p, by omega, by rw [pk_us]; decide, q4⟩
          · refine Or.inr ⟨fun t ht hu => ?_, fun t i ht hi hlt hu hz' e => ?_⟩
            · by_cases e2 : t = p
              · subst e2; exact q4
              · rw [pk_un e2] at hu; exact h.1 t ht hu
            · by_cases e2 : 6 * t + i = k
              · rw [e2, cp]; exact q4
              · exact h.2 t i ht hi (by omega) hu hz' e)
      refine ⟨sn', Y', mo', hd', fun post J hJ => ?_⟩
      refine br_f n144 ⟨n6, i1, ?_⟩
      rw [c1, d2]
      refine br_f q1 ⟨n6, n6, i1, br_f (Int32.not_le.mpr hl) ⟨ik, ?_⟩⟩
      rw [ck]
      exact br_t q3 ⟨ik, by rw [he]; exact vp_in_nI (by omega) (by decide), nm_r (by rw [cp, cv_b1]) (nm_r (nI_1 k) (hw post J hJ))⟩
    · obtain ⟨sn', Y', mo', hd', hw⟩ := ih (k + 1) (by omega) sn Y mo (by
        rcases hd with h | h
        · exact Or.inl h
        · refine Or.inr ⟨h.1, fun t i ht hi hl hu hz e => ?_⟩
          by_cases e2 : 6 * t + i = k
          · exfalso
            have et : k / 6 = t := by omega
            have ei : k % 6 = i := by omega
            rw [et, ei] at qq
            exact qq ⟨mo t (by omega) hu, hz, by rw [← e2]; exact e⟩
          · exact h.2 t i ht hi (by omega) hu hz e)
      refine ⟨sn', Y', mo', hd', fun post J hJ => ?_⟩
      have hn := hw post J hJ
      refine br_f n144 ⟨n6, i1, ?_⟩
      rw [c1, d2]
      by_cases q1 : sn (k / 6) = 0
      · exact br_t q1 (nm_r (nI_1 k) hn)
      refine br_f q1 ⟨n6, n6, i1, ?_⟩
      by_cases q2 : zy (k / 6) ≤ nI (k % 6)
      · exact br_t q2 (nm_r (nI_1 k) hn)
      refine br_f q2 ⟨ik, ?_⟩
      rw [ck]
      exact br_f (fun q3 => qq ⟨q1, Int32.not_le.mp q2, q3⟩) (nm_r (nI_1 k) hn)
theorem yk_rounds {U sz : Nat → Int32} (H : tm_HO U sz zy vs vn es eu) :
    ∀ d r : Nat, r + d = 24 → ∀ sn : Nat → Int32, yk_I zy vs vn es eu sn → ck_R vs vn (fun t => ¬ sn t = 0) → (ck_C zy es eu (fun t => ¬ sn t = 0) ∨ r ≤ cn_c sn 24) →
      ∃ sn' : Nat → Int32, yk_I zy vs vn es eu sn' ∧ ck_R vs vn (fun t => ¬ sn' t = 0) ∧ ck_C zy es eu (fun t => ¬ sn' t = 0) ∧ ∀ post : Int32 → SY → Prop, post (nI (cn_c sn' 24)) (yE, yN, yC, dp, tp, fl, lo, kd, ex, ey, yW, yP, yX, yY, yZ, vs, vn, zy, yK, es, eu, tk, sn', yO, wk, sg, so, nu, la, tu, lz) →
      wY_reach_59 post yE yN yC dp tp fl lo (d + 1) (nI r) kd ex ey yW yP yX yY yZ vs vn zy yK es eu tk sn yO wk sg so nu la tu lz := by
  intro d
  induction d with
  | zero =>
    intro r hr sn Y hR hc
    obtain rfl : r = 24 := by omega
    have hC : ck_C zy es eu (fun t => ¬ sn t = 0) := by
      rcases hc with h | h
      · exact h
      · exfalso
        have h23 : sn 23 = 0 := by
          by_cases q : sn 23 = 0
          · exact q
          · have := (H.1 23 (Y.2 _ (ck_U H).1 (ck_U H).2.2 23 (by decide) q)).1
            omega
        have e : cn_c sn 24 = cn_c sn 23 := by show cn_c sn 23 + (if sn 23 = 0 then 0 else 1) = _; rw [if_pos h23]; rfl
        have := cn_le sn 23
        omega
    exact ⟨sn, Y, hR, hC, fun post hp => br_t (by decide) ⟨_, yk_cnt hp 24 0 (by decide)⟩⟩
  | succ d ih =>
    intro r hr sn Y hR hc
    obtain ⟨sn', Y', mo, hd, hw⟩ := yk_in (yE := yE) (yN := yN) (yC := yC) (dp := dp) (tp := tp) (fl := fl) (lo := lo) (kd := kd) (ex := ex) (ey := ey) (yW := yW) (yP := yP) (yX := yX) (yY := yY) (yZ := yZ) (yK := yK) (tk := tk) (yO := yO) (wk := wk) (sg := sg) (so := so) (nu := nu) (la := la) (tu := tu) (lz := lz) (s0 := sn) (r := r) H 144 0 (by decide) sn Y (fun t _ h => h) (Or.inr ⟨fun t _ h => h, fun t i _ _ h => absurd h (by omega)⟩)
    obtain ⟨sn2, Y2, R2, C2, hw2⟩ := ih (r + 1) (by omega) sn' Y' (fun v hv e => by
      obtain ⟨p, hp, he⟩ := xk_cok (H.2.2 v hv) e
      have := hR v hv e
      rw [he, nI_clamp (by omega)] at this ⊢
      exact mo p (by omega) this) (by
      rcases hd with ⟨t, ht, h1, h2⟩ | ⟨h1, h2⟩
      · right
        have h3 := cn_lt mo ht h2 h1
        rcases hc with h | h
        · exact absurd h2 (Y'.2 _ hR h t ht h1)
        · omega
      · left
        intro t i ht hu hi hz e
        have hs := h2 t i ht (h1 t (by omega) hu) hi hz e
        have hU : ¬ U t = 0 := Y'.2 _ (ck_U H).1 (ck_U H).2.2 t (by omega) hu
        obtain ⟨t20, hy, m, hm, hz2⟩ := H.1 t hU
        rw [hy, hz2, nI_ltI (by omega) (by omega)] at hz
        obtain ⟨p, hp, he⟩ := xk_cok (H.2.1 t i m hU hz2 hm hz) e
        rw [he, nI_clamp (by omega)] at hs ⊢
        exact mo p (by omega) hs)
    exact ⟨sn2, Y2, R2, C2, fun post hp => br_f (nI_ge (b := 24) (by omega) (by decide)) ⟨_, hw post _ (hw2 post hp)⟩⟩
theorem yk_roots {U sz : Nat → Int32} (H : tm_HO U sz zy vs vn es eu) :
    ∀ d i : Nat, i + d = 6 → ∀ sn : Nat → Int32, yk_I zy vs vn es eu sn → (∀ v, v < i → vs v = 2 → ¬ sn (vn v).toNatClampNeg = 0) →
      ∃ sn' : Nat → Int32, yk_I zy vs vn es eu sn' ∧ ck_R vs vn (fun t => ¬ sn' t = 0) ∧ ck_C zy es eu (fun t => ¬ sn' t = 0) ∧ ∀ post : Int32 → SY → Prop, post (nI (cn_c sn' 24)) (yE, yN, yC, dp, tp, fl, lo, kd, ex, ey, yW, yP, yX, yY, yZ, vs, vn, zy, yK, es, eu, tk, sn', yO, wk, sg, so, nu, la, tu, lz) →
      wY_reach_23 post yE yN yC dp tp fl lo (d + 1) (nI i) kd ex ey yW yP yX yY yZ vs vn zy yK es eu tk sn yO wk sg so nu la tu lz := by
  intro d
  induction d with
  | zero =>
    intro i hi sn Y hd
    obtain rfl : i = 6 := by omega
    obtain ⟨sn2, Y2, R2, C2, hw2⟩ := yk_rounds (yE := yE) (yN := yN) (yC := yC) (dp := dp) (tp := tp) (fl := fl) (lo := lo) (kd := kd) (ex := ex) (ey := ey) (yW := yW) (yP := yP) (yX := yX) (yY := yY) (yZ := yZ) (yK := yK) (tk := tk) (yO := yO) (wk := wk) (sg := sg) (so := so) (nu := nu) (la := la) (tu := tu) (lz := lz) H 24 0 (by decide) sn Y (fun v hv e => hd v hv e) (Or.inr (Nat.zero_le _))
    exact ⟨sn2, Y2, R2, C2, fun post hp => br_t (by decide) ⟨_, hw2 post hp⟩⟩
  | succ d ih =>
    intro i hi sn Y hd
    have ok := H.2.2 i (by omega)
    have ii : vp_in (nI i) 6 := vp_in_nI (by omega) (by decide)
    by_cases q : vs i = 2
    · obtain ⟨p, hp, he⟩ := xk_cok ok q
      have cp : (vn i).toNatClampNeg = p := by rw [he]; exact nI_clamp (by omega)
      obtain ⟨sn2, Y2, R2, C2, hw2⟩ := ih (i + 1) (by omega) (upd sn p 1) (yk_put Y (fun S a b => by rw [← cp]; exact a i (by omega) q)) (fun v hv e => by
        by_cases e2 : v = i
        · subst e2; rw [cp, pk_us]; decide
        · exact yk_mo (hd v (by omega) e))
      refine ⟨sn2, Y2, R2, C2, fun post hpo => ?_⟩
      refine br_f (nI_ge (b := 6) (by omega) (by decide)) ⟨ii, ?_⟩
      rw [nI_clamp (by omega)]
      exact br_t q ⟨ii, by rw [he]; exact vp_in_nI (by omega) (by decide), nm_r (by rw [cp, cv_b1]) (nm_r (nI_1 i) (hw2 post hpo))⟩
    · obtain ⟨sn2, Y2, R2, C2, hw2⟩ := ih (i + 1) (by omega) sn Y (fun v hv e => by
        by_cases e2 : v = i
        · subst e2; exact absurd e q
        · exact hd v (by omega) e)
      refine ⟨sn2, Y2, R2, C2, fun post hpo => ?_⟩
      refine br_f (nI_ge (b := 6) (by omega) (by decide)) ⟨ii, ?_⟩
      rw [nI_clamp (by omega)]
      exact br_f q (nm_r (nI_1 i) (hw2 post hpo))
theorem yk_reach {U sz : Nat → Int32} (H : tm_HO U sz zy vs vn es eu) :
    ∃ sn' : Nat → Int32, yk_I zy vs vn es eu sn' ∧ ck_R vs vn (fun t => ¬ sn' t = 0) ∧ ck_C zy es eu (fun t => ¬ sn' t = 0) ∧ ∀ post : Int32 → SY → Prop, post (nI (cn_c sn' 24)) (yE, yN, yC, dp, tp, fl, lo, kd, ex, ey, yW, yP, yX, yY, yZ, vs, vn, zy, yK, es, eu, tk, sn', yO, wk, sg, so, nu, la, tu, lz) → wpY_reach post (yE, yN, yC, dp, tp, fl, lo, kd, ex, ey, yW, yP, yX, yY, yZ, vs, vn, zy, yK, es, eu, tk, sn, yO, wk, sg, so, nu, la, tu, lz) := by
  have g : ∀ d i : Nat, i + d = 24 → ∀ sn : Nat → Int32, (∀ t, t < i → sn t = 0) → ∃ sn' : Nat → Int32, yk_I zy vs vn es eu sn' ∧ ck_R vs vn (fun t => ¬ sn' t = 0) ∧ ck_C zy es eu (fun t => ¬ sn' t = 0) ∧ ∀ post : Int32 → SY → Prop, post (nI (cn_c sn' 24)) (yE, yN, yC, dp, tp, fl, lo, kd, ex, ey, yW, yP, yX, yY, yZ, vs, vn, zy, yK, es, eu, tk, sn', yO, wk, sg, so, nu, la, tu, lz) → wY_reach_2 post yE yN yC dp tp fl lo (d + 1) (nI i) kd ex ey yW yP yX yY yZ vs vn zy yK es eu tk sn yO wk sg so nu la tu lz := by
    intro d
    induction d with
    | zero =>
      intro i hi sn h2
      obtain rfl : i = 24 := by omega
      obtain ⟨sn2, Y2, R2, C2, hw2⟩ := yk_roots (yE := yE) (yN := yN) (yC := yC) (dp := dp) (tp := tp) (fl := fl) (lo := lo) (kd := kd) (ex := ex) (ey := ey) (yW := yW) (yP := yP) (yX := yX) (yY := yY) (yZ := yZ) (yK := yK) (tk := tk) (yO := yO) (wk := wk) (sg := sg) (so := so) (nu := nu) (la := la) (tu := tu) (lz := lz) H 6 0 (by decide) sn ⟨fun t ht => Or.inl (h2 t ht), fun S _ _ t ht h => absurd (h2 t ht) h⟩ (fun v h => absurd h (by omega))
      exact ⟨sn2, Y2, R2, C2, fun post hp => br_t (by decide) ⟨_, hw2 post hp⟩⟩
    | succ d ih =>
      intro i hi sn h2
      obtain ⟨sn2, Y2, R2, C2, hw2⟩ := ih (i + 1) (by omega) (upd sn i 0) (fun t ht => by
        by_cases e : t = i
        · subst e; exact pk_us
        · rw [pk_un e]; exact h2 t (by omega))
      exact ⟨sn2, Y2, R2, C2, fun post hp => br_f (nI_ge (b := 24) (by omega) (by decide)) ⟨vp_in_nI (by omega) (by decide), nm_r (by rw [nI_clamp (by omega), cv_b0]) (nm_r (nI_1 i) (hw2 post hp))⟩⟩
  obtain ⟨sn2, Y2, R2, C2, hw2⟩ := g 24 0 (by omega) sn (fun t ht => by omega)
  refine ⟨sn2, Y2, R2, C2, fun post hp => ?_⟩
  unfold wpY_reach
  exact ⟨_, hw2 post hp⟩
end
/-- the two sets are one -/
theorem kk_same {U sz zy vs vn es eu iu fd sn : Nat → Int32} {c : Nat} (H : tm_HO U sz zy vs vn es eu) (K : ck_I sz vs vn es eu iu c fd) (kR : ck_R vs vn (fun t => ¬ iu t = 0)) (kC : ck_C sz es eu (fun t => ¬ iu t = 0))
    (Y : yk_I zy vs vn es eu sn) (yR : ck_R vs vn (fun t => ¬ sn t = 0)) (yC : ck_C zy es eu (fun t => ¬ sn t = 0)) : (∀ t, t < 24 → sn t = iu t) ∧ cn_c sn 24 = c ∧ tm_HO iu sz zy vs vn es eu := by
  have hU := ck_U H
  have a : ∀ t, ¬ iu t = 0 → ¬ sn t = 0 := by
    intro t h
    refine (K.2.2.2.2.2.1 (fun t => ¬ sn t = 0 ∧ ¬ U t = 0) (fun v hv e => ⟨yR v hv e, hU.1 v hv e⟩) (fun t i ht hu hi hz e => ⟨?_, hU.2.1 t i ht hu.2 hi hz e⟩) t h).1
    refine yC t i ht hu.1 hi ?_ e
    rw [(H.1 t hu.2).2.1]; exact hz
  have b : ∀ t, t < 24 → ¬ sn t = 0 → ¬ iu t = 0 := by
    intro t ht h
    refine (Y.2 (fun t => ¬ iu t = 0 ∧ ¬ U t = 0) (fun v hv e => ⟨kR v hv e, hU.1 v hv e⟩) (fun t i ht hu hi hz e => ⟨?_, hU.2.2 t i ht hu.2 hi hz e⟩) t ht h).1
    refine kC t i ht hu.1 hi ?_ e
    rw [← (H.1 t hu.2).2.1]; exact hz
  have e : ∀ t, t < 24 → sn t = iu t := by
    intro t ht
    rcases Y.1 t ht with h | h
    · rcases K.2.2.1 t with h2 | h2
      · rw [h, h2]
      · exact absurd h (a t (by rw [h2]; decide))
    · rcases K.2.2.1 t with h2 | h2
      · exact absurd h2 (b t ht (by rw [h]; decide))
      · rw [h, h2]
  refine ⟨e, ?_, ?_⟩
  · have e1 : cn_c sn 24 = cn_c iu 24 := Nat.le_antisymm (cn_mono 24 (fun t ht h => b t ht h)) (cn_mono 24 (fun t ht h => a t h))
    have z : ∀ t, 20 ≤ t → cn_c iu (t + 1) = cn_c iu t := by
      intro t ht
      show cn_c iu t + (if iu t = 0 then 0 else 1) = _
      rw [if_pos (K.2.1 t ht)]; rfl
    rw [e1, z 23 (by decide), z 22 (by decide), z 21 (by decide), z 20 (by decide)]
    exact K.1.symm
  · have s : ∀ t, ¬ iu t = 0 → ¬ U t = 0 := fun t h => K.2.2.2.2.2.1 _ hU.1 hU.2.1 t h
    have g : ∀ {x y : Int32}, cv_ok U x y → (x = 2 → ¬ iu y.toNatClampNeg = 0) → cv_ok iu x y := by
      intro x y h h2
      rcases h with h | h | ⟨h, p, hp, hy, _⟩
      · exact Or.inl h
      · exact Or.inr (Or.inl h)
      · have := h2 h
        rw [hy, nI_clamp (by omega)] at this
        exact Or.inr (Or.inr ⟨h, p, hp, hy, this⟩)
    refine ⟨fun t h => H.1 t (s t h), fun t i m h hz hm hi => ?_, fun v hv => g (H.2.2 v hv) (fun e => kR v hv e)⟩
    exact g (H.2.1 t i m (s t h) hz hm hi) (fun e => kC t i (H.1 t (s t h)).1 h (by omega) (by rw [hz]; exact nI_lt hi (by omega)) e)
theorem i_vc_tables {k : Nat} {u : SX} {v : SY} (I : i_Rel k u v) (hk : k + 5 ≤ 2560) : wpX_tables (fun r u' => wpY_tables (fun r' v' => r' = r ∧ i_Rel (k + 5) u' v') v) u := by
  obtain ⟨E, N, oL, fC, oC, wt, cK, cO, cR, rg, oP, oX, oY, oZ, lS, lT, lL, iu, sz, ke, fd, ou, dp, tp, fl, lo, kd, ex, ey, vs, vn, zy, es, eu, tk, sn, wk, sg, so, nu, la, tu, lz, rfl, rfl, J⟩ := I
  obtain ⟨hE, hN, hVE, hVS, hiu, htk, U, H⟩ := J
  obtain ⟨iu', c, fd', K, kR, kC, hX⟩ := xk_collect (eN := nI E) (sN := nI N) (oL := oL) (fC := fC) (oC := oC) (wt := wt) (cK := cK) (cO := cO) (cR := cR) (rg := rg) (oP := oP) (oX := oX) (oY := oY) (oZ := oZ) (lS := lS) (lT := lT) (lL := lL) (ke := ke) (fd := fd) (ou := ou) H hiu
  obtain ⟨sn', Y, yR, yC, hY⟩ := yk_reach (yE := nI E) (yN := nI N) (yC := oC) (dp := dp) (tp := tp) (fl := fl) (lo := lo) (kd := kd) (ex := ex) (ey := ey) (yW := wt) (yP := oP) (yX := oX) (yY := oY) (yZ := oZ) (yK := ke) (tk := tk) (sn := sn) (yO := ou) (wk := wk) (sg := sg) (so := so) (nu := nu) (la := la) (tu := tu) (lz := lz) H
  obtain ⟨e1, e2, H'⟩ := kk_same H K kR kC Y yR yC
  unfold wpX_tables
  refine hX _ ?_
  unfold wpY_tables
  exact hY _ ⟨by rw [e2], E, N, oL, nI c, oC, wt, cK, cO, cR, rg, oP, oX, oY, oZ, lS, lT, lL, iu', sz, ke, fd', ou, dp, tp, fl, lo, kd, ex, ey, vs, vn, zy, es, eu, tk, sn', wk, sg, so, nu, la, tu, lz, rfl, rfl, hE, hN, hVE, hVS, K.2.1, htk, iu', H'⟩
end
section
/-! one instruction of the register code, one step of the tree walk, and what the operations answer on both sides -/
def ev_o : Option (Int32 × Int32) → Int64
  | none => 3
  | some v => cv_e v.1 v.2
theorem cv_okm {U V : Nat → Int32} {s n : Int32} (h : cv_ok U s n) (m : ∀ t, ¬ U t = 0 → ¬ V t = 0) : cv_ok V s n := by
  rcases h with h | h | ⟨h, p, hp, hn, hU⟩
  · exact Or.inl h
  · exact Or.inr (Or.inl h)
  · exact Or.inr (Or.inr ⟨h, p, hp, hn, m p hU⟩)
section
variable {eN sN oL fC oC : Int32} {wt cK cO cR : Nat → Int32} {rg : Nat → Int64} {oP oX oY oZ lS lT lL : Nat → Int32} {va : Nat → Int64} {iu sz ke : Nat → Int32} {en : Nat → Int64} {fd : Nat → Int32} {ou : Nat → Int64} {yE yN yC dp tp fl lo : Int32} {kd ex ey yW yP yX yY yZ vs vn zy yK es eu tk sn : Nat → Int32} {yO : Nat → Int64} {wk sg so nu la tu lz : Nat → Int32}
theorem x205_ok {post : Int64 → SX → Prop} {J : Int32 → Int32 → Int32 → Int32 → Int32 → Int32 → Int32 → (Nat → Int32) → (Nat → Int32) → (Nat → Int32) → (Nat → Int32) → (Nat → Int64) → (Nat → Int32) → (Nat → Int32) → (Nat → Int32) → (Nat → Int32) → (Nat → Int32) → (Nat → Int32) → (Nat → Int32) → (Nat → Int64) → (Nat → Int32) → (Nat → Int32) → (Nat → Int32) → (Nat → Int64) → (Nat → Int32) → (Nat → Int64) → Prop}
    {a k r s : Nat} {x3 : Int32} (hr : r < 4) (hV : ¬ rg r = 3) (h : J (nI (a + (1 + s))) (nI (k + 1)) eN sN oL fC oC wt cK cO cR rg oP oX oY oZ lS lT lL va iu sz ke en fd ou) : wX_workOut_205 post J (nI a) x3 (nI k) (nI r) (nI s) eN sN oL fC oC wt cK cO cR rg oP oX oY oZ lS lT lL va iu sz ke en fd ou := by
  have e : nI a + (1 + nI s) = nI (a + (1 + s)) := by rw [show (1 : Int32) + nI s = nI (1 + s) from nI_add 1 s, nI_add]
  exact ⟨vp_in_nI hr (by decide), br_f (by rw [nI_clamp (by omega)]; exact hV) (nm_r e (nm_r (nI_1 k) h))⟩
theorem x205_no {post : Int64 → SX → Prop} {J : Int32 → Int32 → Int32 → Int32 → Int32 → Int32 → Int32 → (Nat → Int32) → (Nat → Int32) → (Nat → Int32) → (Nat → Int32) → (Nat → Int64) → (Nat → Int32) → (Nat → Int32) → (Nat → Int32) → (Nat → Int32) → (Nat → Int32) → (Nat → Int32) → (Nat → Int32) → (Nat → Int64) → (Nat → Int32) → (Nat → Int32) → (Nat → Int32) → (Nat → Int64) → (Nat → Int32) → (Nat → Int64) → Prop}
    {a k r : Nat} {x3 s : Int32} (hr : r < 4) (hV : rg r = 3) (h : post 3 (eN, sN, oL, fC, oC, wt, cK, cO, cR, rg, oP, oX, oY, oZ, lS, lT, lL, va, iu, sz, ke, en, fd, ou)) : wX_workOut_205 post J (nI a) x3 (nI k) (nI r) s eN sN oL fC oC wt cK cO cR rg oP oX oY oZ lS lT lL va iu sz ke en fd ou :=
  ⟨vp_in_nI hr (by decide), br_t (by rw [nI_clamp (by omega)]; exact hV) h⟩
theorem xs_leaf {post : Int64 → SX → Prop} {En m a k r : Nat} {kk oo : Int32} {V : Int64} {iu' sz' : Nat → Int32} (ha : a < En) (hE : En ≤ 210) (hk : k < 7) (hr : r < 4) (hK : cK a = kk) (hkk : kk = 0 ∨ kk = 1 ∨ kk = 11) (hO : cO a = oo) (hR : cR a = nI r)
    (hf : ∀ P : Int64 → SX → Prop, P V (eN, sN, oL, fC, oC, wt, cK, cO, cR, rg, oP, oX, oY, oZ, lS, lT, lL, va, iu', sz', ke, en, fd, ou) → wpX_fetch P (eN, sN, oL, fC, oC, wt, cK, cO, cR, rg, oP, oX, oY, oZ, lS, lT, lL, va, iu, sz, ke, en, fd, ou) kk oo) (h : wX_workOut_205 post (wX_workOut_17 post (nI En) m) (nI a) (nI En) (nI k) (nI r) 0 eN sN oL fC oC wt cK cO cR (vp_updL rg r V) oP oX oY oZ lS lT lL va iu' sz' ke en fd ou) : wX_workOut_17 post (nI En) (m + 1) (nI a) (nI k) eN sN oL fC oC wt cK cO cR rg oP oX oY oZ lS lT lL va iu sz ke en fd ou := by
  have ha' : vp_in (nI a) 210 := vp_in_nI (by omega) (by decide)
  have hc : (nI a).toNatClampNeg = a := nI_clamp (by omega)
  have n7 : ¬ kk = 7 := by rcases hkk with rfl | rfl | rfl <;> decide
  have n8 : ¬ kk = 8 := by rcases hkk with rfl | rfl | rfl <;> decide
  refine br_f (nI_ge (b := 7) hk (by decide)) (br_f (nI_ge ha (by omega)) ⟨ha', nm_r (by rw [hc, hK]) ⟨ha', nm_r (by rw [hc, hR]) (xe_p0 hkk (br_f n7 (br_f n8 (br_t rfl ⟨ha', ?_⟩))))⟩⟩)
  rw [hc, hO]
  exact hf _ ⟨vp_in_nI hr (by decide), nm_r (by rw [nI_clamp (by omega)]) h⟩
theorem xs_one {post : Int64 → SX → Prop} {En m a k r : Nat} {kk : Int32} {V : Int64} (ha : a < En) (hE : En ≤ 210) (hk : k < 7) (hr : r < 4) (hK : cK a = kk) (hkk : kk = 9 ∨ kk = 12) (hR : cR a = nI r)
    (hf : ∀ P : Int64 → Prop, P V → wpX_ofOne P (eN, sN, oL, fC, oC, wt, cK, cO, cR, rg, oP, oX, oY, oZ, lS, lT, lL, va, iu, sz, ke, en, fd, ou) kk (rg r)) (h : wX_workOut_205 post (wX_workOut_17 post (nI En) m) (nI a) (nI En) (nI k) (nI r) 0 eN sN oL fC oC wt cK cO cR (vp_updL rg r V) oP oX oY oZ lS lT lL va iu sz ke en fd ou) : wX_workOut_17 post (nI En) (m + 1) (nI a) (nI k) eN sN oL fC oC wt cK cO cR rg oP oX oY oZ lS lT lL va iu sz ke en fd ou := by
  have ha' : vp_in (nI a) 210 := vp_in_nI (by omega) (by decide)
  have hc : (nI a).toNatClampNeg = a := nI_clamp (by omega)
  have hr' : vp_in (nI r) 4 := vp_in_nI hr (by decide)
  have n7 : ¬ kk = 7 := by rcases hkk with rfl | rfl <;> decide
  have n8 : ¬ kk = 8 := by rcases hkk with rfl | rfl <;> decide
  refine br_f (nI_ge (b := 7) hk (by decide)) (br_f (nI_ge ha (by omega)) ⟨ha', nm_r (by rw [hc, hK]) ⟨ha', nm_r (by rw [hc, hR]) (xe_p1 hkk (br_f n7 (br_f n8 (br_f (by decide) (br_t rfl ⟨hr', ?_⟩)))))⟩⟩)
  rw [nI_clamp (n := r) (by omega)]
  exact hf _ ⟨hr', nm_r rfl h⟩
theorem xs_two {post : Int64 → SX → Prop} {En m a k r : Nat} {kk : Int32} {V : Int64} (ha : a < En) (hE : En ≤ 210) (hk : k < 7) (hr : r + 1 < 4) (hK : cK a = kk) (hkk : tm_k2 kk) (hR : cR a = nI r)
    (hf : ∀ P : Int64 → Prop, P V → wpX_ofTwo P (eN, sN, oL, fC, oC, wt, cK, cO, cR, rg, oP, oX, oY, oZ, lS, lT, lL, va, iu, sz, ke, en, fd, ou) kk (rg r) (rg (r + 1))) (h : wX_workOut_205 post (wX_workOut_17 post (nI En) m) (nI a) (nI En) (nI k) (nI r) 0 eN sN oL fC oC wt cK cO cR (vp_updL rg r V) oP oX oY oZ lS lT lL va iu sz ke en fd ou) : wX_workOut_17 post (nI En) (m + 1) (nI a) (nI k) eN sN oL fC oC wt cK cO cR rg oP oX oY oZ lS lT lL va iu sz ke en fd ou := by
  have ha' : vp_in (nI a) 210 := vp_in_nI (by omega) (by decide)
  have hc : (nI a).toNatClampNeg = a := nI_clamp (by omega)
  have hr' : vp_in (nI r) 4 := vp_in_nI (by omega) (by decide)
  have hr2 : vp_in (nI r + 1) 4 := by rw [nI_1]; exact vp_in_nI hr (by decide)
  have n7 : ¬ kk = 7 := by rcases hkk with rfl | rfl | rfl | rfl | rfl | rfl <;> decide
  have n8 : ¬ kk = 8 := by rcases hkk with rfl | rfl | rfl | rfl | rfl | rfl <;> decide
  refine br_f (nI_ge (b := 7) hk (by decide)) (br_f (nI_ge ha (by omega)) ⟨ha', nm_r (by rw [hc, hK]) ⟨ha', nm_r (by rw [hc, hR]) (xe_p2 (Or.inr (Or.inr hkk)) (br_f n7 (br_f n8 (br_f (by decide) (br_f (by decide) ⟨hr', hr2, ?_⟩)))))⟩⟩)
  rw [nI_clamp (n := r) (by omega), nI_1 r, nI_clamp (n := r + 1) (by omega)]
  exact hf _ ⟨hr', nm_r rfl h⟩
theorem xs_ch {post : Int64 → SX → Prop} {En m a k r s : Nat} {kk : Int32} (ha : a < En) (hE : En ≤ 210) (hk : k < 7) (hr : r < 4) (hK : cK a = kk) (hR : cR a = nI r)
    (hs : (cO a = nI s ∧ ((kk = 7 ∧ rg r = 0) ∨ (kk = 8 ∧ ¬ rg r = 0))) ∨ (s = 0 ∧ ((kk = 7 ∧ ¬ rg r = 0) ∨ (kk = 8 ∧ rg r = 0))))
    (h : wX_workOut_205 post (wX_workOut_17 post (nI En) m) (nI a) (nI En) (nI k) (nI r) (nI s) eN sN oL fC oC wt cK cO cR rg oP oX oY oZ lS lT lL va iu sz ke en fd ou) : wX_workOut_17 post (nI En) (m + 1) (nI a) (nI k) eN sN oL fC oC wt cK cO cR rg oP oX oY oZ lS lT lL va iu sz ke en fd ou := by
  have ha' : vp_in (nI a) 210 := vp_in_nI (by omega) (by decide)
  have hc : (nI a).toNatClampNeg = a := nI_clamp (by omega)
  have hr' : vp_in (nI r) 4 := vp_in_nI (by omega) (by decide)
  have hcr : (nI r).toNatClampNeg = r := nI_clamp (by omega)
  have hkk : kk = 7 ∨ kk = 8 := by
    rcases hs with ⟨_, ⟨h, _⟩ | ⟨h, _⟩⟩ | ⟨_, ⟨h, _⟩ | ⟨h, _⟩⟩
    · exact Or.inl h
    · exact Or.inr h
    · exact Or.inl h
    · exact Or.inr h
  have g : wX_workOut_69 post (wX_workOut_17 post (nI En) m) (nI a) (nI En) (nI k) kk (nI r) eN sN oL fC oC wt cK cO cR rg oP oX oY oZ lS lT lL va iu sz ke en fd ou := by
    unfold wX_workOut_69
    refine ⟨hr', ?_⟩
    rw [hcr]
    rcases hs with ⟨ho, ⟨h7, h0⟩ | ⟨h8, h0⟩⟩ | ⟨rfl, ⟨h7, h0⟩ | ⟨h8, h0⟩⟩
    · refine br_t h0 (br_t h7 (br_t rfl ⟨ha', ?_⟩))
      rw [hc, ho]; exact h
    · refine br_f h0 (br_f (by rw [h8]; decide) (br_t rfl ⟨ha', ?_⟩))
      rw [hc, ho]; exact h
    · exact br_f h0 (br_t h7 (br_f (by decide) h))
    · exact br_t h0 (br_f (by rw [h8]; decide) (br_f (by decide) h))
  refine br_f (nI_ge (b := 7) hk (by decide)) (br_f (nI_ge ha (by omega)) ⟨ha', nm_r (by rw [hc, hK]) ⟨ha', nm_r (by rw [hc, hR]) (xe_p2 (by rcases hkk with h | h; exact Or.inl h; exact Or.inr (Or.inl h)) ?_)⟩⟩)
  by_cases q : kk = 7
  · exact br_t q g
  · exact br_f q (br_t (hkk.resolve_left q) g)
/-! new tables -/
theorem xs_new {post : Int64 → SX → Prop} {p : Nat} (hp : p < 20) (h0 : iu p = 0) (hl : ∀ q, q < p → ¬ iu q = 0) (h : post (cv_e 2 (nI p)) (eN, sN, oL, fC, oC, wt, cK, cO, cR, rg, oP, oX, oY, oZ, lS, lT, lL, va, upd iu p 1, upd sz p 0, ke, en, fd, ou)) : wpX_newTable post (eN, sN, oL, fC, oC, wt, cK, cO, cR, rg, oP, oX, oY, oZ, lS, lT, lL, va, iu, sz, ke, en, fd, ou) := by
  unfold wpX_newTable
  have g : ∀ d i : Nat, i + d = p → wX_newTable_2 post eN sN oL fC oC wt cK cO cR rg oP oX oY oZ lS lT lL va iu sz ke en fd ou (d + 1) (nI i) := by
    intro d
    induction d with
    | zero =>
      intro i hi
      obtain rfl : i = p := by omega
      have hv : vp_in (nI i) 20 := vp_in_nI hp (by decide)
      have hc : (nI i).toNatClampNeg = i := nI_clamp (by omega)
      exact br_f (nI_ge (b := 20) hp (by decide)) ⟨hv, br_t (by rw [hc]; exact h0) ⟨hv, nm_r (by rw [hc, cv_b1]) ⟨hv, nm_r (by rw [hc]) (xv_val h)⟩⟩⟩
    | succ d ih =>
      intro i hi
      have hv : vp_in (nI i) 20 := vp_in_nI (by omega) (by decide)
      have hc : (nI i).toNatClampNeg = i := nI_clamp (by omega)
      exact br_f (nI_ge (b := 20) (by omega) (by decide)) ⟨hv, br_f (by rw [hc]; exact hl i (by omega)) (nm_r (nI_1 i) (ih (i + 1) (by omega)))⟩
  exact ⟨_, g p 0 (by omega)⟩
theorem ys_new {post : Int32 → SY → Prop} {p : Nat} (hp : p < 20) (h0 : tk p = 0) (hl : ∀ q, q < p → ¬ tk q = 0) (h : post (nI p) (yE, yN, yC, dp, tp, fl, lo, kd, ex, ey, yW, yP, yX, yY, yZ, vs, vn, upd zy p 0, yK, es, eu, upd tk p 1, sn, yO, wk, sg, so, nu, la, tu, lz)) : wpY_newTable post (yE, yN, yC, dp, tp, fl, lo, kd, ex, ey, yW, yP, yX, yY, yZ, vs, vn, zy, yK, es, eu, tk, sn, yO, wk, sg, so, nu, la, tu, lz) := by
  unfold wpY_newTable
  have hv : vp_in (nI p) 24 := vp_in_nI (by omega) (by decide)
  have hc : (nI p).toNatClampNeg = p := nI_clamp (by omega)
  have fin : ∀ n : Nat, wY_newTable_6 post yE yN yC dp tp fl lo kd ex ey yW yP yX yY yZ vs vn zy yK es eu tk sn yO wk sg so nu la tu lz (n + 1) (nI p) (-1) := fun n =>
    br_t (by decide) ⟨hv, nm_r (by rw [hc, cv_b1]) ⟨hv, nm_r (by rw [hc]) h⟩⟩
  have g : ∀ j : Nat, j < 24 → ∀ c : Nat, (j < p → c = p) → wY_newTable_6 post yE yN yC dp tp fl lo kd ex ey yW yP yX yY yZ vs vn zy yK es eu tk sn yO wk sg so nu la tu lz (j + 2) (nI c) (nI j) := by
    intro j
    induction j with
    | zero =>
      intro hj c hcp
      refine br_f (nI_pos (by omega)) ⟨vp_in_nI (by omega) (by decide), ?_⟩
      rw [nI_clamp (n := 0) (by omega)]
      by_cases q : tk 0 = 0
      · have hp0 : p = 0 := by
          by_cases e : p = 0
          · exact e
          · exact absurd q (hl 0 (by omega))
        subst hp0
        exact br_t q (nm_r (show nI 0 + (-1) = -1 from by decide) (fin 0))
      · have hp0 : 0 < p := by
          by_cases e : p = 0
          · subst e; exact absurd h0 q
          · omega
        rw [hcp hp0]
        exact br_f q (nm_r (show nI 0 + (-1) = -1 from by decide) (fin 0))
    | succ j ih =>
      intro hj c hcp
      refine br_f (nI_pos (by omega)) ⟨vp_in_nI (by omega) (by decide), ?_⟩
      rw [nI_clamp (n := j + 1) (by omega)]
      by_cases q : tk (j + 1) = 0
      · have hle : p ≤ j + 1 := by
          by_cases e : p ≤ j + 1
          · exact e
          · exact absurd q (hl (j + 1) (by omega))
        exact br_t q (nm_r (pk_m1 j) (ih (by omega) (j + 1) (by omega)))
      · have hne : p ≠ j + 1 := fun e => by subst e; exact q h0
        exact br_f q (nm_r (pk_m1 j) (ih (by omega) c (by intro h; exact hcp (by omega))))
  exact ⟨_, g 23 (by decide) 23 (by omega)⟩
/-! steps of the tree walk -/
theorem ys_give {post : SY → Prop} {t : Nat} {s n : Int32} (ht : t < 8) (h : post (yE, yN, yC, dp, nI (t + 1), fl, lo, kd, ex, ey, yW, yP, yX, yY, yZ, vs, vn, zy, yK, es, eu, tk, sn, yO, wk, sg, upd so t s, upd nu t n, la, tu, lz)) : wpY_give post (yE, yN, yC, dp, nI t, fl, lo, kd, ex, ey, yW, yP, yX, yY, yZ, vs, vn, zy, yK, es, eu, tk, sn, yO, wk, sg, so, nu, la, tu, lz) s n := by
  unfold wpY_give
  have hv : vp_in (nI t) 8 := vp_in_nI ht (by decide)
  have hc : (nI t).toNatClampNeg = t := nI_clamp (by omega)
  exact ⟨hv, nm_r (by rw [hc]) ⟨hv, nm_r (by rw [hc]) (nm_r (nI_1 t) h)⟩⟩
theorem ys_begin {post : SY → Prop} {d : Nat} {e : Int32} (hd : d < 8) (h : post (yE, yN, yC, nI (d + 1), tp, fl, lo, kd, ex, ey, yW, yP, yX, yY, yZ, vs, vn, zy, yK, es, eu, tk, sn, yO, upd wk d e, upd sg d 0, so, nu, la, tu, lz)) : wpY_begin post (yE, yN, yC, nI d, tp, fl, lo, kd, ex, ey, yW, yP, yX, yY, yZ, vs, vn, zy, yK, es, eu, tk, sn, yO, wk, sg, so, nu, la, tu, lz) e := by
  unfold wpY_begin
  have hv : vp_in (nI d) 8 := vp_in_nI hd (by decide)
  have hc : (nI d).toNatClampNeg = d := nI_clamp (by omega)
  exact ⟨hv, nm_r (by rw [hc]) ⟨hv, nm_r (by rw [hc]) (nm_r (nI_1 d) h)⟩⟩
theorem ys_pre {post : SY → Prop} {d e g : Nat} {z : Int32} (hd : d < 8) (he : e < 30) (hw : wk d = nI e) (hg : sg d = nI g) (hz : (z = 1 ∧ (kd e = 7 ∨ kd e = 8)) ∨ (z = 0 ∧ ¬ kd e = 7 ∧ ¬ kd e = 8)) (h : wY_step_63 post (nI e) (nI g) (kd e) z yE yN yC (nI (d + 1)) tp fl lo kd ex ey yW yP yX yY yZ vs vn zy yK es eu tk sn yO wk (upd sg d (nI (g + 1))) so nu la tu lz) : wpY_step post (yE, yN, yC, nI (d + 1), tp, fl, lo, kd, ex, ey, yW, yP, yX, yY, yZ, vs, vn, zy, yK, es, eu, tk, sn, yO, wk, sg, so, nu, la, tu, lz) := by
  unfold wpY_step
  have hv : vp_in (nI (d + 1) - 1) 8 := by rw [nI_pred]; exact vp_in_nI hd (by decide)
  have hc : (nI (d + 1) - 1).toNatClampNeg = d := by rw [nI_pred]; exact nI_clamp (by omega)
  have he' : vp_in (nI e) 30 := vp_in_nI he (by decide)
  refine ⟨hv, nm_r (by rw [hc, hw]) ⟨hv, nm_r (by rw [hc, hg]) ⟨hv, hv, nm_r (by rw [hc, hg, nI_1]) ⟨he', nm_r (by rw [nI_clamp (by omega)]) ?_⟩⟩⟩⟩
  rcases hz with ⟨rfl, hz⟩ | ⟨rfl, h7, h8⟩
  · by_cases q : kd e = 7
    · exact br_t q h
    · exact br_f q (br_t (hz.resolve_left q) h)
  · exact br_f h7 (br_f h8 h)
theorem ys_leaf {post : SY → Prop} {d e : Nat} (hd : d < 8) (he : e < 30) (hw : wk d = nI e) (hg : sg d = 0) (hk : kd e = 0 ∨ kd e = 1 ∨ kd e = 11) (h : wpY_leaf post (yE, yN, yC, nI (d + 1), tp, fl, lo, kd, ex, ey, yW, yP, yX, yY, yZ, vs, vn, zy, yK, es, eu, tk, sn, yO, wk, upd sg d 1, so, nu, la, tu, lz) (nI e)) : wpY_step post (yE, yN, yC, nI (d + 1), tp, fl, lo, kd, ex, ey, yW, yP, yX, yY, yZ, vs, vn, zy, yK, es, eu, tk, sn, yO, wk, sg, so, nu, la, tu, lz) := by
  have n7 : ¬ kd e = 7 := by rcases hk with h | h | h <;> rw [h] <;> decide
  have n8 : ¬ kd e = 8 := by rcases hk with h | h | h <;> rw [h] <;> decide
  refine ys_pre (g := 0) hd he hw hg (Or.inr ⟨rfl, n7, n8⟩) ?_
  unfold wY_step_63
  exact ye_p0 hk (br_t rfl h)
theorem ys_first {post : SY → Prop} {d e : Nat} (hd : d + 1 < 8) (he : e < 30) (hw : wk d = nI e) (hg : sg d = 0) (hk : (kd e = 9 ∨ kd e = 12) ∨ (kd e = 7 ∨ kd e = 8 ∨ tm_k2 (kd e))) (h : post (yE, yN, yC, nI (d + 2), tp, fl, lo, kd, ex, ey, yW, yP, yX, yY, yZ, vs, vn, zy, yK, es, eu, tk, sn, yO, upd wk (d + 1) (ex e), upd (upd sg d 1) (d + 1) 0, so, nu, la, tu, lz)) : wpY_step post (yE, yN, yC, nI (d + 1), tp, fl, lo, kd, ex, ey, yW, yP, yX, yY, yZ, vs, vn, zy, yK, es, eu, tk, sn, yO, wk, sg, so, nu, la, tu, lz) := by
  have g : ∀ z : Int32, wY_step_63 post (nI e) (nI 0) (kd e) z yE yN yC (nI (d + 1)) tp fl lo kd ex ey yW yP yX yY yZ vs vn zy yK es eu tk sn yO wk (upd sg d (nI (0 + 1))) so nu la tu lz := by
    intro z
    unfold wY_step_63
    have g2 : wpY_begin post (yE, yN, yC, nI (d + 1), tp, fl, lo, kd, ex, ey, yW, yP, yX, yY, yZ, vs, vn, zy, yK, es, eu, tk, sn, yO, wk, upd sg d (nI (0 + 1)), so, nu, la, tu, lz) (ex (nI e).toNatClampNeg) := by
      rw [nI_clamp (by omega)]
      exact ys_begin hd h
    rcases hk with hk | hk
    · exact ye_p1 hk (br_f (by decide) (br_t rfl ⟨vp_in_nI he (by decide), g2⟩))
    · exact ye_p2 hk (br_f (by decide) (br_t rfl ⟨vp_in_nI he (by decide), g2⟩))
  by_cases q : kd e = 7 ∨ kd e = 8
  · exact ys_pre (g := 0) (by omega) he hw hg (Or.inl ⟨rfl, q⟩) (g 1)
  · exact ys_pre (g := 0) (by omega) he hw hg (Or.inr ⟨rfl, fun z => q (Or.inl z), fun z => q (Or.inr z)⟩) (g 0)
theorem ys_one {post : SY → Prop} {d e : Nat} (hd : d < 8) (he : e < 30) (hw : wk d = nI e) (hg : sg d = 1) (hk : kd e = 9 ∨ kd e = 12) (h : wpY_one post (yE, yN, yC, nI (d + 1), tp, fl, lo, kd, ex, ey, yW, yP, yX, yY, yZ, vs, vn, zy, yK, es, eu, tk, sn, yO, wk, upd sg d 2, so, nu, la, tu, lz) (nI e)) : wpY_step post (yE, yN, yC, nI (d + 1), tp, fl, lo, kd, ex, ey, yW, yP, yX, yY, yZ, vs, vn, zy, yK, es, eu, tk, sn, yO, wk, sg, so, nu, la, tu, lz) := by
  have n7 : ¬ kd e = 7 := by rcases hk with h | h <;> rw [h] <;> decide
  have n8 : ¬ kd e = 8 := by rcases hk with h | h <;> rw [h] <;> decide
  refine ys_pre (g := 1) hd he hw hg (Or.inr ⟨rfl, n7, n8⟩) ?_
  unfold wY_step_63
  exact ye_p1 hk (br_f (by decide) (br_f (by decide) (ye_p1 hk (br_t rfl h))))
theorem tm_k278 {k : Int32} (h : tm_k2 k) : ¬ k = 7 ∧ ¬ k = 8 := by
  rcases h with rfl | rfl | rfl | rfl | rfl | rfl <;> decide
theorem ys_snd {post : SY → Prop} {d e : Nat} (hd : d + 1 < 8) (he : e < 30) (hw : wk d = nI e) (hg : sg d = 1) (hk : tm_k2 (kd e)) (h : post (yE, yN, yC, nI (d + 2), tp, fl, lo, kd, ex, ey, yW, yP, yX, yY, yZ, vs, vn, zy, yK, es, eu, tk, sn, yO, upd wk (d + 1) (ey e), upd (upd sg d 2) (d + 1) 0, so, nu, la, tu, lz)) : wpY_step post (yE, yN, yC, nI (d + 1), tp, fl, lo, kd, ex, ey, yW, yP, yX, yY, yZ, vs, vn, zy, yK, es, eu, tk, sn, yO, wk, sg, so, nu, la, tu, lz) := by
  refine ys_pre (g := 1) (by omega) he hw hg (Or.inr ⟨rfl, tm_k278 hk⟩) ?_
  unfold wY_step_63
  refine ye_p2 (Or.inr (Or.inr hk)) (br_f (by decide) (br_f (by decide) (ye_p2 (Or.inr (Or.inr hk)) (br_f (by decide) (br_t rfl (br_t rfl (br_t rfl ⟨vp_in_nI he (by decide), ?_⟩)))))))
  rw [nI_clamp (by omega)]
  exact ys_begin hd h
theorem ys_two {post : SY → Prop} {d e : Nat} (hd : d < 8) (he : e < 30) (hw : wk d = nI e) (hg : sg d = 2) (hk : tm_k2 (kd e)) (h : wpY_two post (yE, yN, yC, nI (d + 1), tp, fl, lo, kd, ex, ey, yW, yP, yX, yY, yZ, vs, vn, zy, yK, es, eu, tk, sn, yO, wk, upd sg d 3, so, nu, la, tu, lz) (nI e)) : wpY_step post (yE, yN, yC, nI (d + 1), tp, fl, lo, kd, ex, ey, yW, yP, yX, yY, yZ, vs, vn, zy, yK, es, eu, tk, sn, yO, wk, sg, so, nu, la, tu, lz) := by
  refine ys_pre (g := 2) hd he hw hg (Or.inr ⟨rfl, tm_k278 hk⟩) ?_
  unfold wY_step_63
  exact ye_p2 (Or.inr (Or.inr hk)) (br_f (by decide) (br_f (by decide) (ye_p2 (Or.inr (Or.inr hk)) (br_f (by decide) (br_t rfl (br_f (by decide) h))))))
theorem ys_ch_end {post : SY → Prop} {d e : Nat} (hd : d < 8) (he : e < 30) (hw : wk d = nI e) (hg : sg d = 2) (hk : kd e = 7 ∨ kd e = 8) (h : post (yE, yN, yC, nI d, tp, fl, lo, kd, ex, ey, yW, yP, yX, yY, yZ, vs, vn, zy, yK, es, eu, tk, sn, yO, wk, upd sg d 3, so, nu, la, tu, lz)) : wpY_step post (yE, yN, yC, nI (d + 1), tp, fl, lo, kd, ex, ey, yW, yP, yX, yY, yZ, vs, vn, zy, yK, es, eu, tk, sn, yO, wk, sg, so, nu, la, tu, lz) := by
  have hk2 : kd e = 7 ∨ kd e = 8 ∨ tm_k2 (kd e) := by rcases hk with h | h; exact Or.inl h; exact Or.inr (Or.inl h)
  refine ys_pre (g := 2) hd he hw hg (Or.inl ⟨rfl, hk⟩) ?_
  unfold wY_step_63
  exact ye_p2 hk2 (br_f (by decide) (br_f (by decide) (ye_p2 hk2 (br_f (by decide) (br_f (by decide) (br_t rfl (nm_r (nI_pred d) h)))))))
theorem ys_ch_keep {post : SY → Prop} {d e t : Nat} (hd : d < 8) (he : e < 30) (hw : wk d = nI e) (hg : sg d = 1) (ht : t < 8) (hk : (kd e = 7 ∧ so t = 0) ∨ (kd e = 8 ∧ ¬ so t = 0)) (h : post (yE, yN, yC, nI d, nI (t + 1), fl, lo, kd, ex, ey, yW, yP, yX, yY, yZ, vs, vn, zy, yK, es, eu, tk, sn, yO, wk, upd sg d 2, so, nu, la, tu, lz)) : wpY_step post (yE, yN, yC, nI (d + 1), nI (t + 1), fl, lo, kd, ex, ey, yW, yP, yX, yY, yZ, vs, vn, zy, yK, es, eu, tk, sn, yO, wk, sg, so, nu, la, tu, lz) := by
  have hkk : kd e = 7 ∨ kd e = 8 := by rcases hk with h | h; exact Or.inl h.1; exact Or.inr h.1
  have hk2 : kd e = 7 ∨ kd e = 8 ∨ tm_k2 (kd e) := by rcases hkk with h | h; exact Or.inl h; exact Or.inr (Or.inl h)
  refine ys_pre (g := 1) hd he hw hg (Or.inl ⟨rfl, hkk⟩) ?_
  unfold wY_step_63
  refine ye_p2 hk2 (br_f (by decide) (br_f (by decide) (ye_p2 hk2 (br_f (by decide) (br_f (by decide) (br_f (by decide) ⟨by rw [nI_pred]; exact vp_in_nI ht (by decide), ?_⟩))))))
  rw [nI_pred, nI_clamp (n := t) (by omega)]
  have g : wY_step_158 post yE yN yC (nI (d + 1)) (nI (t + 1)) fl lo kd ex ey yW yP yX yY yZ vs vn zy yK es eu tk sn yO wk (upd sg d (nI (1 + 1))) so nu la tu lz := by
    unfold wY_step_158
    exact nm_r (nI_pred d) h
  rcases hk with ⟨h7, h0⟩ | ⟨h8, h0⟩
  · exact br_t h0 (br_t h7 (br_t rfl g))
  · exact br_f h0 (br_f (by rw [h8]; decide) (br_t rfl g))
theorem ys_ch_go {post : SY → Prop} {d e t : Nat} (hd : d + 1 < 8) (he : e < 30) (hw : wk d = nI e) (hg : sg d = 1) (ht : t < 8) (hk : (kd e = 7 ∧ ¬ so t = 0) ∨ (kd e = 8 ∧ so t = 0)) (h : post (yE, yN, yC, nI (d + 2), nI t, fl, lo, kd, ex, ey, yW, yP, yX, yY, yZ, vs, vn, zy, yK, es, eu, tk, sn, yO, upd wk (d + 1) (ey e), upd (upd sg d 2) (d + 1) 0, so, nu, la, tu, lz)) : wpY_step post (yE, yN, yC, nI (d + 1), nI (t + 1), fl, lo, kd, ex, ey, yW, yP, yX, yY, yZ, vs, vn, zy, yK, es, eu, tk, sn, yO, wk, sg, so, nu, la, tu, lz) := by
  have hkk : kd e = 7 ∨ kd e = 8 := by rcases hk with h | h; exact Or.inl h.1; exact Or.inr h.1
  have hk2 : kd e = 7 ∨ kd e = 8 ∨ tm_k2 (kd e) := by rcases hkk with h | h; exact Or.inl h; exact Or.inr (Or.inl h)
  refine ys_pre (g := 1) (by omega) he hw hg (Or.inl ⟨rfl, hkk⟩) ?_
  unfold wY_step_63
  refine ye_p2 hk2 (br_f (by decide) (br_f (by decide) (ye_p2 hk2 (br_f (by decide) (br_f (by decide) (br_f (by decide) ⟨by rw [nI_pred]; exact vp_in_nI ht (by decide), ?_⟩))))))
  rw [nI_pred, nI_clamp (n := t) (by omega)]
  have g : wY_step_171 post (nI e) (nI 1) 1 yE yN yC (nI (d + 1)) (nI (t + 1)) fl lo kd ex ey yW yP yX yY yZ vs vn zy yK es eu tk sn yO wk (upd sg d (nI (1 + 1))) so nu la tu lz := by
    unfold wY_step_171
    refine br_t rfl (br_f (by decide) (nm_r (nI_pred t) ⟨vp_in_nI he (by decide), ?_⟩))
    rw [nI_clamp (by omega)]
    exact ys_begin hd h
  rcases hk with ⟨h7, h0⟩ | ⟨h8, h0⟩
  · exact br_f h0 (br_t h7 (br_f (by decide) g))
  · exact br_t h0 (br_f (by rw [h8]; decide) (br_f (by decide) g))
/-- one step within work -/
theorem yw_step {post : SY → Prop} {m k d : Nat} {dp' tp' fl' : Int32} {zy' tk' wk' sg' so' nu' : Nat → Int32} (hk : k < 21) (hd : d < 8) (hs : ∀ P : SY → Prop, P (yE, yN, yC, dp', tp', fl', lo, kd, ex, ey, yW, yP, yX, yY, yZ, vs, vn, zy', yK, es, eu, tk', sn, yO, wk', sg', so', nu', la, tu, lz) → wpY_step P (yE, yN, yC, nI (d + 1), tp, 0, lo, kd, ex, ey, yW, yP, yX, yY, yZ, vs, vn, zy, yK, es, eu, tk, sn, yO, wk, sg, so, nu, la, tu, lz)) (hc : wY_work_12 post m (nI (k + 1)) yE yN yC dp' tp' fl' lo kd ex ey yW yP yX yY yZ vs vn zy' yK es eu tk' sn yO wk' sg' so' nu' la tu lz) : wY_work_12 post (m + 1) (nI k) yE yN yC (nI (d + 1)) tp 0 lo kd ex ey yW yP yX yY yZ vs vn zy yK es eu tk sn yO wk sg so nu la tu lz :=
  br_f (nI_ge (b := 21) hk (by decide)) (br_f (nI_nle (by omega) (by omega)) (br_t rfl (hs _ (nm_r (nI_1 k) hc))))
theorem yw_fail {post : SY → Prop} {m : Nat} {k : Int32} (h : post (yE, yN, yC, dp, tp, 1, lo, kd, ex, ey, yW, yP, yX, yY, yZ, vs, vn, zy, yK, es, eu, tk, sn, yO, wk, sg, so, nu, la, tu, lz)) : wY_work_12 post (m + 1) k yE yN yC dp tp 1 lo kd ex ey yW yP yX yY yZ vs vn zy yK es eu tk sn yO wk sg so nu la tu lz :=
  br_c (fun _ => h) (fun _ => br_c (fun _ => h) (fun _ => br_f (by decide) h))
end
end
section
/-! the operations: one outcome for both sides -/
section
variable {eN sN oL fC oC : Int32} {wt cK cO cR : Nat → Int32} {rg : Nat → Int64} {oP oX oY oZ lS lT lL : Nat → Int32} {va : Nat → Int64} {iu sz ke : Nat → Int32} {en : Nat → Int64} {fd : Nat → Int32} {ou : Nat → Int64} {yE yN yC dp tp fl lo : Int32} {kd ex ey yW yP yX yY yZ vs vn zy yK es eu tk sn : Nat → Int32} {yO : Nat → Int64} {wk sg so nu la tu lz : Nat → Int32}
theorem lk_one {U : Nat → Int32} {e d t : Nat} {s n : Int32} (H : tm_HO U sz zy vs vn es eu) (he : e < 30) (ht : t < 8) (hk : kd e = 9 ∨ kd e = 12) (ok : cv_ok U s n) : ∃ o : Option (Int32 × Int32), (∀ v, o = some v → cv_ok U v.1 v.2) ∧
    (∀ {eN sN oL fC oC : Int32} {wt cK cO cR : Nat → Int32} {rg : Nat → Int64} {oP oX oY oZ lS lT lL : Nat → Int32} {va : Nat → Int64} {iu ke : Nat → Int32} {en : Nat → Int64} {fd : Nat → Int32} {ou : Nat → Int64}, ∀ post : Int64 → Prop, post (ev_o o) → wpX_ofOne post (eN, sN, oL, fC, oC, wt, cK, cO, cR, rg, oP, oX, oY, oZ, lS, lT, lL, va, iu, sz, ke, en, fd, ou) (kd e) (cv_e s n)) ∧
    (match o with
      | none => ∀ {yE yN yC lo : Int32} {ex ey yW yP yX yY yZ vs vn yK es eu tk sn : Nat → Int32} {yO : Nat → Int64} {wk sg so nu la tu lz : Nat → Int32}, so t = s → nu t = n → ∀ post : SY → Prop, post (yE, yN, yC, nI d, nI t, 1, lo, kd, ex, ey, yW, yP, yX, yY, yZ, vs, vn, zy, yK, es, eu, tk, sn, yO, wk, sg, so, nu, la, tu, lz) → wpY_one post (yE, yN, yC, nI (d + 1), nI (t + 1), 0, lo, kd, ex, ey, yW, yP, yX, yY, yZ, vs, vn, zy, yK, es, eu, tk, sn, yO, wk, sg, so, nu, la, tu, lz) (nI e)
      | some v => ∀ {yE yN yC lo : Int32} {ex ey yW yP yX yY yZ vs vn yK es eu tk sn : Nat → Int32} {yO : Nat → Int64} {wk sg so nu la tu lz : Nat → Int32}, so t = s → nu t = n → ∀ post : SY → Prop, post (yE, yN, yC, nI d, nI (t + 1), 0, lo, kd, ex, ey, yW, yP, yX, yY, yZ, vs, vn, zy, yK, es, eu, tk, sn, yO, wk, sg, upd so t v.1, upd nu t v.2, la, tu, lz) → wpY_one post (yE, yN, yC, nI (d + 1), nI (t + 1), 0, lo, kd, ex, ey, yW, yP, yX, yY, yZ, vs, vn, zy, yK, es, eu, tk, sn, yO, wk, sg, so, nu, la, tu, lz) (nI e)) := by
  have he' : vp_in (nI e) 30 := vp_in_nI he (by decide)
  have ce : (nI e).toNatClampNeg = e := nI_clamp (by omega)
  have ht' : vp_in (nI t) 8 := vp_in_nI ht (by decide)
  have ct : (nI t).toNatClampNeg = t := nI_clamp (by omega)
  rcases hk with hk | hk
  · by_cases q : s = 0
    · refine ⟨some (1, 1), fun v hv => ?_, fun post hp => ?_, fun hs hn post hp => ?_⟩
      · cases hv; exact Or.inr (Or.inl rfl)
      · unfold wpX_ofOne
        refine br_t hk (br_t ((cv_0 (cv_ok_s ok)).mpr q) ?_)
        rw [← cv_11]; exact hp
      · unfold wpY_one
        refine nm_r (nI_pred t) (nm_r (nI_pred d) ⟨he', br_t (by rw [ce]; exact hk) ⟨ht', br_t (by rw [ct, hs]; exact q) ?_⟩⟩)
        exact ⟨ht', br_t (by rw [ct, hs]; exact q) (ys_give ht hp)⟩
    · refine ⟨some (0, 0), fun v hv => ?_, fun post hp => ?_, fun hs hn post hp => ?_⟩
      · cases hv; exact Or.inl ⟨rfl, rfl⟩
      · unfold wpX_ofOne
        refine br_t hk (br_f (fun z => q ((cv_0 (cv_ok_s ok)).mp z)) ?_)
        rw [← cv_00]; exact hp
      · unfold wpY_one
        refine nm_r (nI_pred t) (nm_r (nI_pred d) ⟨he', br_t (by rw [ce]; exact hk) ⟨ht', br_f (by rw [ct, hs]; exact q) ?_⟩⟩)
        exact ⟨ht', br_f (by rw [ct, hs]; exact q) (ys_give ht hp)⟩
  · have n9 : ¬ kd e = 9 := by rw [hk]; decide
    by_cases q : s = 2
    · refine tm_kind ok (fun a _ => absurd (a.symm.trans q) (by decide)) (fun a => absurd (a.symm.trans q) (by decide)) (fun p _ hp hnp hU => ?_)
      have hz := (H.1 p hU).2.1
      refine ⟨some (1, sz p), fun v hv => ?_, fun post hpo => ?_, fun hs hn post hpo => ?_⟩
      · cases hv; exact Or.inr (Or.inl rfl)
      · unfold wpX_ofOne
        refine br_f n9 (xv_tabT (cv_ok_s ok) q (br_f (by decide) (xv_seen ok ?_)))
        rw [if_pos q, hnp, nI_clamp (by omega)]
        exact xv_val hpo
      · unfold wpY_one
        refine nm_r (nI_pred t) (nm_r (nI_pred d) ⟨he', br_f (by rw [ce]; exact n9) ⟨ht', br_t (by rw [ct, hs]; exact q) ⟨ht', ?_⟩⟩⟩)
        rw [ct, hn, hnp, nI_clamp (by omega), hz]
        exact ⟨vp_in_nI (by omega) (by decide), ys_give ht hpo⟩
    · refine ⟨none, fun v hv => (by cases hv), fun post hpo => ?_, fun hs hn post hpo => ?_⟩
      · unfold wpX_ofOne
        exact br_f n9 (xv_tabF (cv_ok_s ok) q (br_t rfl hpo))
      · unfold wpY_one
        exact nm_r (nI_pred t) (nm_r (nI_pred d) ⟨he', br_f (by rw [ce]; exact n9) ⟨ht', br_f (by rw [ct, hs]; exact q) hpo⟩⟩)
theorem lk_tp (t : Nat) : nI (t + 2) - 2 = nI t := by
  have := pk_sub (a := t + 2) (b := 2) (by omega)
  rw [Nat.add_sub_cancel] at this
  exact this
/-- the reference's two, up to the comparison of kinds -/
theorem yt_pre {post : SY → Prop} {e d t : Nat} {s p s2 q z : Int32} (ht : t + 1 < 8) (hs : so t = s) (hp : nu t = p) (hs2 : so (t + 1) = s2) (hq : nu (t + 1) = q) (hz : (s = 1 ∧ s2 = 1 ∧ z = 1) ∨ (¬ (s = 1 ∧ s2 = 1) ∧ z = 0)) (h : wY_two_81 post (nI e) s s2 p q z yE yN yC (nI d) (nI t) fl lo kd ex ey yW yP yX yY yZ vs vn zy yK es eu tk sn yO wk sg so nu la tu lz) : wpY_two post (yE, yN, yC, nI (d + 1), nI (t + 2), fl, lo, kd, ex, ey, yW, yP, yX, yY, yZ, vs, vn, zy, yK, es, eu, tk, sn, yO, wk, sg, so, nu, la, tu, lz) (nI e) := by
  unfold wpY_two
  have h1 : vp_in (nI t) 8 := vp_in_nI (by omega) (by decide)
  have h2 : vp_in (nI t + 1) 8 := by rw [nI_1]; exact vp_in_nI ht (by decide)
  have c1 : (nI t).toNatClampNeg = t := nI_clamp (by omega)
  have c2 : (nI t + 1).toNatClampNeg = t + 1 := by rw [nI_1]; exact nI_clamp (by omega)
  refine nm_r (lk_tp t) (nm_r (nI_pred d) ⟨h1, nm_r (by rw [c1, hs]) ⟨h2, nm_r (by rw [c2, hs2]) ⟨h1, nm_r (by rw [c1, hp]) ⟨h2, nm_r (by rw [c2, hq]) ?_⟩⟩⟩⟩)
  rcases hz with ⟨a, b, rfl⟩ | ⟨a, rfl⟩
  · exact br_t a (br_t b h)
  · by_cases r : s = 1
    · exact br_t r (br_f (fun z => a ⟨r, z⟩) h)
    · exact br_f r h
theorem yt_110 {post : SY → Prop} {t : Nat} (ht : t < 8) (hp : post (yE, yN, yC, dp, nI (t + 1), fl, lo, kd, ex, ey, yW, yP, yX, yY, yZ, vs, vn, zy, yK, es, eu, tk, sn, yO, wk, sg, upd so t 1, upd nu t 1, la, tu, lz)) : wY_two_110 post yE yN yC dp (nI t) fl lo kd ex ey yW yP yX yY yZ vs vn zy yK es eu tk sn yO wk sg so nu la tu lz := br_f (by decide) (br_f (by decide) (ys_give ht hp))
theorem yt_114 {post : SY → Prop} {t : Nat} (ht : t < 8) (hp : post (yE, yN, yC, dp, nI (t + 1), fl, lo, kd, ex, ey, yW, yP, yX, yY, yZ, vs, vn, zy, yK, es, eu, tk, sn, yO, wk, sg, upd so t 0, upd nu t 0, la, tu, lz)) : wY_two_114 post yE yN yC dp (nI t) fl lo kd ex ey yW yP yX yY yZ vs vn zy yK es eu tk sn yO wk sg so nu la tu lz := br_t rfl (br_t rfl (ys_give ht hp))
theorem yt_176 {post : SY → Prop} {s s2 : Int32} (h : ¬ s = 2 ∨ ¬ s2 = 1) (hp : post (yE, yN, yC, dp, tp, 1, lo, kd, ex, ey, yW, yP, yX, yY, yZ, vs, vn, zy, yK, es, eu, tk, sn, yO, wk, sg, so, nu, la, tu, lz)) : wY_two_176 post s s2 yE yN yC dp tp fl lo kd ex ey yW yP yX yY yZ vs vn zy yK es eu tk sn yO wk sg so nu la tu lz := by
  by_cases q : s = 2
  · exact br_t q (br_f (fun z => h.elim (fun a => a q) (fun a => a z)) hp)
  · exact br_f q hp
theorem lk_two {U : Nat → Int32} {e d t : Nat} {s p s2 q : Int32} (H : tm_HO U sz zy vs vn es eu) (he : e < 30) (ht : t + 1 < 8) (hk : tm_k2 (kd e)) (ok : cv_ok U s p) (ok2 : cv_ok U s2 q) : ∃ o : Option (Int32 × Int32), (∀ v, o = some v → cv_ok U v.1 v.2) ∧
    (∀ {eN sN oL fC oC : Int32} {wt cK cO cR : Nat → Int32} {rg : Nat → Int64} {oP oX oY oZ lS lT lL : Nat → Int32} {va : Nat → Int64} {iu fd : Nat → Int32} {ou : Nat → Int64}, ∀ post : Int64 → Prop, post (ev_o o) → wpX_ofTwo post (eN, sN, oL, fC, oC, wt, cK, cO, cR, rg, oP, oX, oY, oZ, lS, lT, lL, va, iu, sz, ke, cv_f es eu, fd, ou) (kd e) (cv_e s p) (cv_e s2 q)) ∧
    (match o with
      | none => ∀ {yE yN yC lo : Int32} {ex ey yW yP yX yY yZ vs vn tk sn : Nat → Int32} {yO : Nat → Int64} {wk sg so nu la tu lz : Nat → Int32}, so t = s → nu t = p → so (t + 1) = s2 → nu (t + 1) = q → ∀ post : SY → Prop, post (yE, yN, yC, nI d, nI t, 1, lo, kd, ex, ey, yW, yP, yX, yY, yZ, vs, vn, zy, ke, es, eu, tk, sn, yO, wk, sg, so, nu, la, tu, lz) → wpY_two post (yE, yN, yC, nI (d + 1), nI (t + 2), 0, lo, kd, ex, ey, yW, yP, yX, yY, yZ, vs, vn, zy, ke, es, eu, tk, sn, yO, wk, sg, so, nu, la, tu, lz) (nI e)
      | some v => ∀ {yE yN yC lo : Int32} {ex ey yW yP yX yY yZ vs vn tk sn : Nat → Int32} {yO : Nat → Int64} {wk sg so nu la tu lz : Nat → Int32}, so t = s → nu t = p → so (t + 1) = s2 → nu (t + 1) = q → ∀ post : SY → Prop, post (yE, yN, yC, nI d, nI (t + 1), 0, lo, kd, ex, ey, yW, yP, yX, yY, yZ, vs, vn, zy, ke, es, eu, tk, sn, yO, wk, sg, upd so t v.1, upd nu t v.2, la, tu, lz) → wpY_two post (yE, yN, yC, nI (d + 1), nI (t + 2), 0, lo, kd, ex, ey, yW, yP, yX, yY, yZ, vs, vn, zy, ke, es, eu, tk, sn, yO, wk, sg, so, nu, la, tu, lz) (nI e)) := by
  have he' : vp_in (nI e) 30 := vp_in_nI he (by decide)
  have ce : (nI e).toNatClampNeg = e := nI_clamp (by omega)
  have cs := cv_ok_s ok
  have cs2 := cv_ok_s ok2
  by_cases k6 : kd e = 6
  · -- SAME
    have zc : ∃ z : Int32, (s = 1 ∧ s2 = 1 ∧ z = 1) ∨ (¬ (s = 1 ∧ s2 = 1) ∧ z = 0) := by
      by_cases r : s = 1 ∧ s2 = 1
      · exact ⟨1, Or.inl ⟨r.1, r.2, rfl⟩⟩
      · exact ⟨0, Or.inr ⟨r, rfl⟩⟩
    obtain ⟨z, hz⟩ := zc
    by_cases r : s = s2 ∧ p = q
    · refine ⟨some (1, 1), fun v hv => ?_, fun post hp => ?_, fun hs hn hs2 hq post hp => ?_⟩
      · cases hv; exact Or.inr (Or.inl rfl)
      · unfold wpX_ofTwo
        refine br_t k6 (br_t ((cv_inj cs cs2).mpr r) ?_)
        rw [← cv_11]; exact hp
      · skip
        refine yt_pre ht hs hn hs2 hq hz ⟨he', br_t (by rw [ce]; exact k6) (br_t r.1 ?_)⟩
        exact br_c (fun _ => yt_110 (by omega) hp) (fun _ => br_t r.2 (yt_110 (by omega) hp))
    · refine ⟨some (0, 0), fun v hv => ?_, fun post hp => ?_, fun hs hn hs2 hq post hp => ?_⟩
      · cases hv; exact Or.inl ⟨rfl, rfl⟩
      · unfold wpX_ofTwo
        refine br_t k6 (br_f (fun w => r ((cv_inj cs cs2).mp w)) ?_)
        rw [← cv_00]; exact hp
      · skip
        refine yt_pre ht hs hn hs2 hq hz ⟨he', br_t (by rw [ce]; exact k6) ?_⟩
        refine br_c (fun a => br_c (fun b => ?_) (fun _ => br_f (fun w => r ⟨a, w⟩) (yt_114 (by omega) hp))) (fun _ => yt_114 (by omega) hp)
        exfalso
        refine r ⟨a, ?_⟩
        have a1 : p = 0 := tm_kind ok (fun _ x => x) (fun x => absurd (x.symm.trans b) (by decide)) (fun p x _ _ _ => absurd (x.symm.trans b) (by decide))
        have a2 : q = 0 := tm_kind ok2 (fun _ x => x) (fun x => absurd (x.symm.trans (a.symm.trans b)) (by decide)) (fun p x _ _ _ => absurd (x.symm.trans (a.symm.trans b)) (by decide))
        rw [a1, a2]
  by_cases k10 : kd e = 10
  · -- ENTRY
    by_cases i2 : s2 = 1
    · by_cases t1 : s = 2
      · refine tm_kind ok (fun a _ => absurd (a.symm.trans t1) (by decide)) (fun a => absurd (a.symm.trans t1) (by decide)) (fun w _ hw hpw hU => ?_)
        subst hpw
        obtain ⟨r, v1, v2, okv, a, b, c⟩ := fe_entry (ke := ke) H q hU
        refine ⟨some (v1, v2), fun v hv => ?_, fun post hp => ?_, fun hs hn hs2 hq post hp => ?_⟩
        · cases hv; exact okv
        · unfold wpX_ofTwo
          exact br_f k6 (xv_intT cs2 i2 (br_f (by decide) (xv_num cs (xv_num cs2 (br_t k10 (xv_tabT cs t1 (br_f (by decide) (a _ hp))))))))
        · refine yt_pre (z := 0) ht hs hn hs2 hq (Or.inr ⟨fun w => absurd (w.1.symm.trans t1) (by decide), rfl⟩) ⟨he', br_f (by rw [ce]; exact k6) ⟨he', br_t (by rw [ce]; exact k10) (br_t t1 (br_t i2 (b _ ?_)))⟩⟩
          refine br_t t1 (br_t i2 ?_)
          rcases c with ⟨rfl, rfl, rfl⟩ | ⟨j, hj, rfl, rfl, rfl⟩
          · exact br_f (by decide) (br_f (by decide) (ys_give (by omega) hp))
          · have hj' : vp_in (nI j) 144 := vp_in_nI (by omega) (by decide)
            have cj : (nI j).toNatClampNeg = j := nI_clamp (by omega)
            refine br_t (nI_pos' (by omega)) ⟨hj', ?_⟩
            rw [cj]
            refine br_t (nI_pos' (by omega)) ⟨hj', ?_⟩
            rw [cj]
            exact ys_give (by omega) hp
      · refine ⟨none, fun v hv => (by cases hv), fun post hp => ?_, fun hs hn hs2 hq post hp => ?_⟩
        · unfold wpX_ofTwo
          exact br_f k6 (xv_intT cs2 i2 (br_f (by decide) (xv_num cs (xv_num cs2 (br_t k10 (xv_tabF cs t1 (br_t rfl hp)))))))
        · skip
          by_cases r : s = 1
          · exact yt_pre (z := 1) ht hs hn hs2 hq (Or.inl ⟨r, i2, rfl⟩) ⟨he', br_f (by rw [ce]; exact k6) ⟨he', br_t (by rw [ce]; exact k10) (br_f t1 (yt_176 (Or.inl t1) hp))⟩⟩
          · exact yt_pre (z := 0) ht hs hn hs2 hq (Or.inr ⟨fun w => r w.1, rfl⟩) ⟨he', br_f (by rw [ce]; exact k6) ⟨he', br_t (by rw [ce]; exact k10) (br_f t1 (yt_176 (Or.inl t1) hp))⟩⟩
    · refine ⟨none, fun v hv => (by cases hv), fun post hp => ?_, fun hs hn hs2 hq post hp => ?_⟩
      · unfold wpX_ofTwo
        exact br_f k6 (xv_intF cs2 i2 (br_t rfl hp))
      · skip
        exact yt_pre (z := 0) ht hs hn hs2 hq (Or.inr ⟨fun w => i2 w.2, rfl⟩) ⟨he', br_f (by rw [ce]; exact k6) ⟨he', br_t (by rw [ce]; exact k10) (br_c (fun _ => br_f i2 (yt_176 (Or.inr i2) hp)) (fun _ => yt_176 (Or.inr i2) hp))⟩⟩
  · -- two ints
    by_cases i2 : s2 = 1
    rotate_left
    · refine ⟨none, fun v hv => (by cases hv), fun post hp => ?_, fun hs hn hs2 hq post hp => ?_⟩
      · unfold wpX_ofTwo
        exact br_f k6 (xv_intF cs2 i2 (br_t rfl hp))
      · exact yt_pre (z := 0) ht hs hn hs2 hq (Or.inr ⟨fun w => i2 w.2, rfl⟩) ⟨he', br_f (by rw [ce]; exact k6) ⟨he', br_f (by rw [ce]; exact k10) (br_t rfl hp)⟩⟩
    by_cases i1 : s = 1
    rotate_left
    · refine ⟨none, fun v hv => (by cases hv), fun post hp => ?_, fun hs hn hs2 hq post hp => ?_⟩
      · unfold wpX_ofTwo
        exact br_f k6 (xv_intT cs2 i2 (br_f (by decide) (xv_num cs (xv_num cs2 (br_f k10 (xv_intF cs i1 (br_t rfl hp)))))))
      · exact yt_pre (z := 0) ht hs hn hs2 hq (Or.inr ⟨fun w => i1 w.1, rfl⟩) ⟨he', br_f (by rw [ce]; exact k6) ⟨he', br_f (by rw [ce]; exact k10) (br_t rfl hp)⟩⟩
    have gX : ∀ {V : Int64}, (∀ post : Int64 → Prop, post V → wpX_ofInts post (kd e) p q) → ∀ {eN sN oL fC oC : Int32} {wt cK cO cR : Nat → Int32} {rg : Nat → Int64} {oP oX oY oZ lS lT lL : Nat → Int32} {va : Nat → Int64} {iu fd : Nat → Int32} {ou : Nat → Int64}, ∀ post : Int64 → Prop, post V → wpX_ofTwo post (eN, sN, oL, fC, oC, wt, cK, cO, cR, rg, oP, oX, oY, oZ, lS, lT, lL, va, iu, sz, ke, cv_f es eu, fd, ou) (kd e) (cv_e s p) (cv_e s2 q) := by
      intro V hV eN sN oL fC oC wt cK cO cR rg oP oX oY oZ lS lT lL va iu fd ou post hp
      unfold wpX_ofTwo
      exact br_f k6 (xv_intT cs2 i2 (br_f (by decide) (xv_num cs (xv_num cs2 (br_f k10 (xv_intT cs i1 (br_f (by decide) (hV _ hp))))))))
    by_cases k5 : kd e = 5
    · by_cases r : q ≤ p
      · refine ⟨some (0, 0), fun v hv => ?_, gX (fun post hp => ?_), fun hs hn hs2 hq post hp => ?_⟩
        · cases hv; exact Or.inl ⟨rfl, rfl⟩
        · unfold wpX_ofInts
          rw [k5]
          refine br_f (by decide) (br_t (by decide) (br_t r ?_))
          rw [← cv_00]; exact hp
        · exact yt_pre (z := 1) ht hs hn hs2 hq (Or.inl ⟨i1, i2, rfl⟩) ⟨he', br_f (by rw [ce]; exact k6) ⟨he', br_f (by rw [ce]; exact k10) (br_f (by decide) ⟨he', br_t (by rw [ce]; exact k5) (br_t r (br_t r (ys_give (by omega) hp)))⟩)⟩⟩
      · refine ⟨some (1, 1), fun v hv => ?_, gX (fun post hp => ?_), fun hs hn hs2 hq post hp => ?_⟩
        · cases hv; exact Or.inr (Or.inl rfl)
        · unfold wpX_ofInts
          rw [k5]
          refine br_f (by decide) (br_t (by decide) (br_f r ?_))
          rw [← cv_11]; exact hp
        · exact yt_pre (z := 1) ht hs hn hs2 hq (Or.inl ⟨i1, i2, rfl⟩) ⟨he', br_f (by rw [ce]; exact k6) ⟨he', br_f (by rw [ce]; exact k10) (br_f (by decide) ⟨he', br_t (by rw [ce]; exact k5) (br_f r (br_f r (ys_give (by omega) hp)))⟩)⟩⟩
    by_cases k2 : kd e = 2
    · refine ⟨some (1, p + q), fun v hv => ?_, gX (fun post hp => ?_), fun hs hn hs2 hq post hp => ?_⟩
      · cases hv; exact Or.inr (Or.inl rfl)
      · unfold wpX_ofInts
        rw [k2]
        exact br_f (by decide) (br_f (by decide) (br_t rfl (xv_val hp)))
      · exact yt_pre (z := 1) ht hs hn hs2 hq (Or.inl ⟨i1, i2, rfl⟩) ⟨he', br_f (by rw [ce]; exact k6) ⟨he', br_f (by rw [ce]; exact k10) (br_f (by decide) ⟨he', br_f (by rw [ce]; exact k5) ⟨he', br_t (by rw [ce]; exact k2) (ys_give (by omega) hp)⟩⟩)⟩⟩
    by_cases k3 : kd e = 3
    · refine ⟨some (1, p - q), fun v hv => ?_, gX (fun post hp => ?_), fun hs hn hs2 hq post hp => ?_⟩
      · cases hv; exact Or.inr (Or.inl rfl)
      · unfold wpX_ofInts
        rw [k3]
        exact br_f (by decide) (br_f (by decide) (br_f (by decide) (br_t rfl (xv_val hp))))
      · exact yt_pre (z := 1) ht hs hn hs2 hq (Or.inl ⟨i1, i2, rfl⟩) ⟨he', br_f (by rw [ce]; exact k6) ⟨he', br_f (by rw [ce]; exact k10) (br_f (by decide) ⟨he', br_f (by rw [ce]; exact k5) ⟨he', br_f (by rw [ce]; exact k2) ⟨he', br_t (by rw [ce]; exact k3) (ys_give (by omega) hp)⟩⟩⟩)⟩⟩
    have k4 : kd e = 4 := by
      rcases hk with h | h | h | h | h | h
      · exact absurd h k2
      · exact absurd h k3
      · exact h
      · exact absurd h k5
      · exact absurd h k6
      · exact absurd h k10
    refine ⟨some (1, p * q), fun v hv => ?_, gX (fun post hp => ?_), fun hs hn hs2 hq post hp => ?_⟩
    · cases hv; exact Or.inr (Or.inl rfl)
    · unfold wpX_ofInts
      rw [k4]
      exact br_f (by decide) (br_f (by decide) (br_f (by decide) (br_f (by decide) (br_t rfl (xv_val hp)))))
    · exact yt_pre (z := 1) ht hs hn hs2 hq (Or.inl ⟨i1, i2, rfl⟩) ⟨he', br_f (by rw [ce]; exact k6) ⟨he', br_f (by rw [ce]; exact k10) (br_f (by decide) ⟨he', br_f (by rw [ce]; exact k5) ⟨he', br_f (by rw [ce]; exact k2) ⟨he', br_f (by rw [ce]; exact k3) (ys_give (by omega) hp)⟩⟩⟩)⟩⟩
end
end
section
/-! expressions: the register code and the tree walk come to one outcome -/
def ev_M (vs vn es eu g z1 z2 g' z1' z2' : Nat → Int32) (w : Nat) : Prop :=
  tm_HO g' z1' z2' vs vn es eu ∧ (∀ t, 20 ≤ t → g' t = 0) ∧ (∀ t, ¬ g t = 0 → ¬ g' t = 0 ∧ z1' t = z1 t ∧ z2' t = z2 t) ∧ 2 * cn_c g' 20 ≤ 2 * cn_c g 20 + w + 1
def ev_X (eN sN oL fC oC : Int32) (wt cK cO cR oP oX oY oZ lS lT lL : Nat → Int32) (va : Nat → Int64) (ke : Nat → Int32) (en : Nat → Int64) (fd : Nat → Int32) (ou : Nat → Int64) (o : Option (Int32 × Int32)) (a w r : Nat) (iu sz iu' sz' : Nat → Int32) : Prop :=
  ∀ rg : Nat → Int64, ∃ (c : Nat) (rg' : Nat → Int64), 1 ≤ c ∧ c ≤ w ∧ (∀ j, j < r → rg' j = rg j) ∧
    (match o with
      | none => ∀ (post : Int64 → SX → Prop) (En m k : Nat), a + w ≤ En → En ≤ 210 → k + w ≤ 7 → post 3 (eN, sN, oL, fC, oC, wt, cK, cO, cR, rg', oP, oX, oY, oZ, lS, lT, lL, va, iu', sz', ke, en, fd, ou) → wX_workOut_17 post (nI En) (m + c) (nI a) (nI k) eN sN oL fC oC wt cK cO cR rg oP oX oY oZ lS lT lL va iu sz ke en fd ou
      | some v => rg' r = cv_e v.1 v.2 ∧ ∀ (post : Int64 → SX → Prop) (En m k : Nat), a + w ≤ En → En ≤ 210 → k + w ≤ 7 → wX_workOut_17 post (nI En) m (nI (a + w)) (nI (k + c)) eN sN oL fC oC wt cK cO cR rg' oP oX oY oZ lS lT lL va iu' sz' ke en fd ou → wX_workOut_17 post (nI En) (m + c) (nI a) (nI k) eN sN oL fC oC wt cK cO cR rg oP oX oY oZ lS lT lL va iu sz ke en fd ou)
def ev_Y (yE yN yC lo : Int32) (kd ex ey yW yP yX yY yZ vs vn yK es eu sn : Nat → Int32) (yO : Nat → Int64) (la tu lz : Nat → Int32) (o : Option (Int32 × Int32)) (e w d t : Nat) (zy tk zy' tk' : Nat → Int32) : Prop :=
  ∀ wk sg so nu : Nat → Int32, wk d = nI e → sg d = 0 → ∃ (c : Nat) (wk' sg' so' nu' : Nat → Int32), 1 ≤ c ∧ c ≤ 3 * w ∧ (∀ j, j < d → wk' j = wk j ∧ sg' j = sg j) ∧ (∀ j, j < t → so' j = so j ∧ nu' j = nu j) ∧
    (match o with
      | none => ∃ dp' tp' : Int32, ∀ (post : SY → Prop) (m k : Nat), k + 3 * w ≤ 21 → post (yE, yN, yC, dp', tp', 1, lo, kd, ex, ey, yW, yP, yX, yY, yZ, vs, vn, zy', yK, es, eu, tk', sn, yO, wk', sg', so', nu', la, tu, lz) → wY_work_12 post (m + c + 1) (nI k) yE yN yC (nI (d + 1)) (nI t) 0 lo kd ex ey yW yP yX yY yZ vs vn zy yK es eu tk sn yO wk sg so nu la tu lz
      | some v => so' t = v.1 ∧ nu' t = v.2 ∧ ∀ (post : SY → Prop) (m k : Nat), k + 3 * w ≤ 21 → wY_work_12 post m (nI (k + c)) yE yN yC (nI d) (nI (t + 1)) 0 lo kd ex ey yW yP yX yY yZ vs vn zy' yK es eu tk' sn yO wk' sg' so' nu' la tu lz → wY_work_12 post (m + c) (nI k) yE yN yC (nI (d + 1)) (nI t) 0 lo kd ex ey yW yP yX yY yZ vs vn zy yK es eu tk sn yO wk sg so nu la tu lz)
section
variable {eN sN oL fC oC : Int32} {wt cK cO cR : Nat → Int32} {rg : Nat → Int64} {oP oX oY oZ lS lT lL : Nat → Int32} {va : Nat → Int64} {iu sz ke : Nat → Int32} {en : Nat → Int64} {fd : Nat → Int32} {ou : Nat → Int64} {yE yN yC dp tp fl lo : Int32} {kd ex ey yW yP yX yY yZ vs vn zy yK es eu tk sn : Nat → Int32} {yO : Nat → Int64} {wk sg so nu la tu lz : Nat → Int32}
theorem eX_leaf {v : Int32 × Int32} {a r : Nat} {kk oo : Int32} {iu' sz' : Nat → Int32} (hr : r < 4) (hK : cK a = kk) (hkk : kk = 0 ∨ kk = 1 ∨ kk = 11) (hO : cO a = oo) (hR : cR a = nI r) (hv : cv_s v.1 v.2)
    (hf : ∀ (rg : Nat → Int64) (P : Int64 → SX → Prop), P (cv_e v.1 v.2) (eN, sN, oL, fC, oC, wt, cK, cO, cR, rg, oP, oX, oY, oZ, lS, lT, lL, va, iu', sz', ke, en, fd, ou) → wpX_fetch P (eN, sN, oL, fC, oC, wt, cK, cO, cR, rg, oP, oX, oY, oZ, lS, lT, lL, va, iu, sz, ke, en, fd, ou) kk oo) : ev_X eN sN oL fC oC wt cK cO cR oP oX oY oZ lS lT lL va ke en fd ou (some v) a 1 r iu sz iu' sz' := by
  intro rg
  refine ⟨1, vp_updL rg r (cv_e v.1 v.2), by omega, by omega, fun j hj => pk_uLn (by omega), pk_uLs, fun post En m k h1 h2 h3 hp => ?_⟩
  refine xs_leaf (by omega) h2 (by omega) hr hK hkk hO hR (hf rg) (x205_ok (s := 0) hr ?_ hp)
  rw [pk_uLs]; exact cv_ne3 hv
theorem eX_none {a w wx r : Nat} {iu' sz' : Nat → Int32} (hw : wx ≤ w) (h1 : ev_X eN sN oL fC oC wt cK cO cR oP oX oY oZ lS lT lL va ke en fd ou none a wx r iu sz iu' sz') : ev_X eN sN oL fC oC wt cK cO cR oP oX oY oZ lS lT lL va ke en fd ou none a w r iu sz iu' sz' := by
  intro rg
  obtain ⟨c, rg', c1, c2, hlo, h⟩ := h1 rg
  exact ⟨c, rg', c1, by omega, hlo, fun post En m k h1 h2 h3 hp => h post En m k (by omega) h2 (by omega) hp⟩
theorem eX_one {o : Option (Int32 × Int32)} {v : Int32 × Int32} {a wx r : Nat} {kk : Int32} {iu1 sz1 : Nat → Int32} (h1 : ev_X eN sN oL fC oC wt cK cO cR oP oX oY oZ lS lT lL va ke en fd ou (some v) a wx r iu sz iu1 sz1) (hr : r < 4) (hK : cK (a + wx) = kk) (hkk : kk = 9 ∨ kk = 12) (hR : cR (a + wx) = nI r) (ho : ∀ u, o = some u → cv_s u.1 u.2)
    (hf : ∀ (rg : Nat → Int64) (P : Int64 → Prop), P (ev_o o) → wpX_ofOne P (eN, sN, oL, fC, oC, wt, cK, cO, cR, rg, oP, oX, oY, oZ, lS, lT, lL, va, iu1, sz1, ke, en, fd, ou) kk (cv_e v.1 v.2)) : ev_X eN sN oL fC oC wt cK cO cR oP oX oY oZ lS lT lL va ke en fd ou o a (wx + 1) r iu sz iu1 sz1 := by
  intro rg
  obtain ⟨c, rg', c1, c2, hlo, hv, h⟩ := h1 rg
  have hf' : ∀ P : Int64 → Prop, P (ev_o o) → wpX_ofOne P (eN, sN, oL, fC, oC, wt, cK, cO, cR, rg', oP, oX, oY, oZ, lS, lT, lL, va, iu1, sz1, ke, en, fd, ou) kk (rg' r) := by rw [hv]; exact hf rg'
  refine ⟨c + 1, vp_updL rg' r (ev_o o), by omega, by omega, fun j hj => by rw [pk_uLn (by omega)]; exact hlo j hj, ?_⟩
  cases o with
  | none =>
    intro post En m k h1 h2 h3 hp
    rw [show m + (c + 1) = (m + 1) + c by omega]
    exact h post En (m + 1) k (by omega) h2 (by omega) (xs_one (by omega) h2 (by omega) hr hK hkk hR hf' (x205_no hr pk_uLs hp))
  | some u =>
    refine ⟨pk_uLs, fun post En m k h1 h2 h3 hp => ?_⟩
    rw [show m + (c + 1) = (m + 1) + c by omega]
    refine h post En (m + 1) k (by omega) h2 (by omega) (xs_one (by omega) h2 (by omega) hr hK hkk hR hf' (x205_ok (s := 0) hr ?_ hp))
    rw [pk_uLs]; exact cv_ne3 (ho u rfl)
theorem eX_two {o : Option (Int32 × Int32)} {v v2 : Int32 × Int32} {a wx wy r : Nat} {kk : Int32} {iu1 sz1 iu2 sz2 : Nat → Int32} (h1 : ev_X eN sN oL fC oC wt cK cO cR oP oX oY oZ lS lT lL va ke en fd ou (some v) a wx r iu sz iu1 sz1) (h2 : ev_X eN sN oL fC oC wt cK cO cR oP oX oY oZ lS lT lL va ke en fd ou (some v2) (a + wx) wy (r + 1) iu1 sz1 iu2 sz2) (hr : r + 1 < 4) (hK : cK (a + wx + wy) = kk) (hkk : tm_k2 kk) (hR : cR (a + wx + wy) = nI r) (ho : ∀ u, o = some u → cv_s u.1 u.2)
    (hf : ∀ (rg : Nat → Int64) (P : Int64 → Prop), P (ev_o o) → wpX_ofTwo P (eN, sN, oL, fC, oC, wt, cK, cO, cR, rg, oP, oX, oY, oZ, lS, lT, lL, va, iu2, sz2, ke, en, fd, ou) kk (cv_e v.1 v.2) (cv_e v2.1 v2.2)) : ev_X eN sN oL fC oC wt cK cO cR oP oX oY oZ lS lT lL va ke en fd ou o a (wx + wy + 1) r iu sz iu2 sz2 := by
  intro rg
  obtain ⟨c, rg1, c1, c2, hlo, hv, h⟩ := h1 rg
  obtain ⟨c', rg2, c1', c2', hlo', hv', h'⟩ := h2 rg1
  have hvr : rg2 r = cv_e v.1 v.2 := by rw [hlo' r (by omega), hv]
  have hf' : ∀ P : Int64 → Prop, P (ev_o o) → wpX_ofTwo P (eN, sN, oL, fC, oC, wt, cK, cO, cR, rg2, oP, oX, oY, oZ, lS, lT, lL, va, iu2, sz2, ke, en, fd, ou) kk (rg2 r) (rg2 (r + 1)) := by rw [hvr, hv']; exact hf rg2
  refine ⟨c + c' + 1, vp_updL rg2 r (ev_o o), by omega, by omega, fun j hj => by rw [pk_uLn (by omega), hlo' j (by omega)]; exact hlo j hj, ?_⟩
  cases o with
  | none =>
    intro post En m k h1 h2 h3 hp
    rw [show m + (c + c' + 1) = (m + 1 + c') + c by omega]
    exact h post En _ k (by omega) h2 (by omega) (h' post En (m + 1) (k + c) (by omega) h2 (by omega) (xs_two (by omega) h2 (by omega) hr hK hkk hR hf' (x205_no (by omega) pk_uLs hp)))
  | some u =>
    refine ⟨pk_uLs, fun post En m k h1 h2 h3 hp => ?_⟩
    rw [show m + (c + c' + 1) = (m + 1 + c') + c by omega]
    refine h post En _ k (by omega) h2 (by omega) (h' post En (m + 1) (k + c) (by omega) h2 (by omega) (xs_two (by omega) h2 (by omega) hr hK hkk hR hf' (x205_ok (s := 0) (by omega) ?_ ?_)))
    · rw [pk_uLs]; exact cv_ne3 (ho u rfl)
    · rw [show a + (wx + wy + 1) = a + wx + wy + (1 + 0) by omega, show k + (c + c' + 1) = k + c + c' + 1 by omega] at hp
      exact hp
theorem eX_two_n {v : Int32 × Int32} {a w wx wy r : Nat} {iu1 sz1 iu2 sz2 : Nat → Int32} (hw : wx + wy ≤ w) (h1 : ev_X eN sN oL fC oC wt cK cO cR oP oX oY oZ lS lT lL va ke en fd ou (some v) a wx r iu sz iu1 sz1) (h2 : ev_X eN sN oL fC oC wt cK cO cR oP oX oY oZ lS lT lL va ke en fd ou none (a + wx) wy (r + 1) iu1 sz1 iu2 sz2) : ev_X eN sN oL fC oC wt cK cO cR oP oX oY oZ lS lT lL va ke en fd ou none a w r iu sz iu2 sz2 := by
  intro rg
  obtain ⟨c, rg1, c1, c2, hlo, hv, h⟩ := h1 rg
  obtain ⟨c', rg2, c1', c2', hlo', h'⟩ := h2 rg1
  refine ⟨c + c', rg2, by omega, by omega, fun j hj => by rw [hlo' j (by omega)]; exact hlo j hj, fun post En m k h1 h2 h3 hp => ?_⟩
  rw [show m + (c + c') = (m + c') + c by omega]
  exact h post En _ k (by omega) h2 (by omega) (h' post En m (k + c) (by omega) h2 (by omega) hp)
theorem eX_keep {v : Int32 × Int32} {a wx wy r : Nat} {kk : Int32} {iu1 sz1 : Nat → Int32} (h1 : ev_X eN sN oL fC oC wt cK cO cR oP oX oY oZ lS lT lL va ke en fd ou (some v) a wx r iu sz iu1 sz1) (hr : r < 4) (hK : cK (a + wx) = kk) (hO : cO (a + wx) = nI wy) (hR : cR (a + wx) = nI r) (hv : cv_s v.1 v.2) (hk : (kk = 7 ∧ v.1 = 0) ∨ (kk = 8 ∧ ¬ v.1 = 0)) : ev_X eN sN oL fC oC wt cK cO cR oP oX oY oZ lS lT lL va ke en fd ou (some v) a (wx + 1 + wy) r iu sz iu1 sz1 := by
  intro rg
  obtain ⟨c, rg1, c1, c2, hlo, hv1, h⟩ := h1 rg
  refine ⟨c + 1, rg1, by omega, by omega, hlo, hv1, fun post En m k h1 h2 h3 hp => ?_⟩
  rw [show m + (c + 1) = (m + 1) + c by omega]
  refine h post En (m + 1) k (by omega) h2 (by omega) (xs_ch (s := wy) (by omega) h2 (by omega) hr hK hR (Or.inl ⟨hO, ?_⟩) (x205_ok hr ?_ ?_))
  · rw [hv1, cv_0 hv]; exact hk
  · rw [hv1]; exact cv_ne3 hv
  · rw [show a + (wx + 1 + wy) = a + wx + (1 + wy) by omega] at hp
    exact hp
theorem eX_go {o : Option (Int32 × Int32)} {v : Int32 × Int32} {a wx wy r : Nat} {kk : Int32} {iu1 sz1 iu2 sz2 : Nat → Int32} (h1 : ev_X eN sN oL fC oC wt cK cO cR oP oX oY oZ lS lT lL va ke en fd ou (some v) a wx r iu sz iu1 sz1) (h2 : ev_X eN sN oL fC oC wt cK cO cR oP oX oY oZ lS lT lL va ke en fd ou o (a + wx + 1) wy r iu1 sz1 iu2 sz2) (hr : r < 4) (hK : cK (a + wx) = kk) (hR : cR (a + wx) = nI r) (hv : cv_s v.1 v.2) (hk : (kk = 7 ∧ ¬ v.1 = 0) ∨ (kk = 8 ∧ v.1 = 0)) : ev_X eN sN oL fC oC wt cK cO cR oP oX oY oZ lS lT lL va ke en fd ou o a (wx + 1 + wy) r iu sz iu2 sz2 := by
  intro rg
  obtain ⟨c, rg1, c1, c2, hlo, hv1, h⟩ := h1 rg
  obtain ⟨c', rg2, c1', c2', hlo', h'⟩ := h2 rg1
  have hkk : (kk = 7 ∧ ¬ rg1 r = 0) ∨ (kk = 8 ∧ rg1 r = 0) := by rw [hv1, cv_0 hv]; exact hk
  have h3r : ¬ rg1 r = 3 := by rw [hv1]; exact cv_ne3 hv
  refine ⟨c + 1 + c', rg2, by omega, by omega, fun j hj => by rw [hlo' j hj]; exact hlo j hj, ?_⟩
  cases o with
  | none =>
    intro post En m k h1 h2 h3 hp
    rw [show m + (c + 1 + c') = (m + c' + 1) + c by omega]
    exact h post En _ k (by omega) h2 (by omega) (xs_ch (s := 0) (by omega) h2 (by omega) hr hK hR (Or.inr ⟨rfl, hkk⟩) (x205_ok hr h3r (h' post En m (k + c + 1) (by omega) h2 (by omega) hp)))
  | some u =>
    refine ⟨h'.1, fun post En m k h1 h2 h3 hp => ?_⟩
    rw [show m + (c + 1 + c') = (m + c' + 1) + c by omega]
    refine h post En _ k (by omega) h2 (by omega) (xs_ch (s := 0) (by omega) h2 (by omega) hr hK hR (Or.inr ⟨rfl, hkk⟩) (x205_ok hr h3r (h'.2 post En m (k + c + 1) (by omega) h2 (by omega) ?_)))
    rw [show a + (wx + 1 + wy) = a + wx + 1 + wy by omega, show k + (c + 1 + c') = k + c + 1 + c' by omega] at hp
    exact hp
/-! the tree walk -/
theorem eY_leaf {v : Int32 × Int32} {e d t : Nat} {zy' tk' : Nat → Int32} (hd : d < 8) (he : e < 30) (hk : kd e = 0 ∨ kd e = 1 ∨ kd e = 11)
    (hf : ∀ (wk sg so nu : Nat → Int32) (P : SY → Prop), P (yE, yN, yC, nI d, nI (t + 1), 0, lo, kd, ex, ey, yW, yP, yX, yY, yZ, vs, vn, zy', yK, es, eu, tk', sn, yO, wk, sg, upd so t v.1, upd nu t v.2, la, tu, lz) → wpY_leaf P (yE, yN, yC, nI (d + 1), nI t, 0, lo, kd, ex, ey, yW, yP, yX, yY, yZ, vs, vn, zy, yK, es, eu, tk, sn, yO, wk, sg, so, nu, la, tu, lz) (nI e)) : ev_Y yE yN yC lo kd ex ey yW yP yX yY yZ vs vn yK es eu sn yO la tu lz (some v) e 1 d t zy tk zy' tk' := by
  intro wk sg so nu hwk hsg
  refine ⟨1, wk, upd sg d 1, upd so t v.1, upd nu t v.2, by omega, by omega, fun j hj => ⟨rfl, pk_un (by omega)⟩, fun j hj => ⟨pk_un (by omega), pk_un (by omega)⟩, pk_us, pk_us, fun post m k hk3 hp => ?_⟩
  exact yw_step (by omega) hd (fun P hP => ys_leaf hd he hwk hsg hk (hf wk (upd sg d 1) so nu P hP)) hp
theorem eY_lo {d : Nat} {wk sg wk1 sg1 : Nat → Int32} {x y z : Int32} (hlo : ∀ j, j < d + 1 → wk1 j = upd wk (d + 1) x j ∧ sg1 j = upd (upd sg d y) (d + 1) z j) : (∀ j, j < d → wk1 j = wk j ∧ sg1 j = sg j) ∧ wk1 d = wk d ∧ sg1 d = y := by
  refine ⟨fun j hj => ?_, ?_, ?_⟩
  · have := hlo j (by omega)
    rw [pk_un (by omega), pk_un (by omega), pk_un (by omega)] at this
    exact this
  · rw [(hlo d (by omega)).1, pk_un (by omega)]
  · rw [(hlo d (by omega)).2, pk_un (by omega), pk_us]
theorem eY_none {e w wx x d t : Nat} {zy' tk' : Nat → Int32} (hw : wx + 1 ≤ w) (hd : d + 1 < 8) (he : e < 30) (hk : (kd e = 9 ∨ kd e = 12) ∨ (kd e = 7 ∨ kd e = 8 ∨ tm_k2 (kd e))) (hx : ex e = nI x) (h1 : ev_Y yE yN yC lo kd ex ey yW yP yX yY yZ vs vn yK es eu sn yO la tu lz none x wx (d + 1) t zy tk zy' tk') : ev_Y yE yN yC lo kd ex ey yW yP yX yY yZ vs vn yK es eu sn yO la tu lz none e w d t zy tk zy' tk' := by
  intro wk sg so nu hwk hsg
  obtain ⟨c, wk1, sg1, so1, nu1, c1, c2, hlo, hst, dp', tp', h⟩ := h1 (upd wk (d + 1) (nI x)) (upd (upd sg d 1) (d + 1) 0) so nu pk_us pk_us
  refine ⟨c + 1, wk1, sg1, so1, nu1, by omega, by omega, (eY_lo hlo).1, hst, dp', tp', fun post m k hk3 hp => ?_⟩
  rw [show m + (c + 1) + 1 = (m + c + 1) + 1 by omega]
  refine yw_step (by omega) (by omega) (fun P hP => ys_first hd he hwk hsg hk (by rw [hx]; exact hP)) ?_
  exact h post m (k + 1) (by omega) hp
theorem eY_one {o : Option (Int32 × Int32)} {v : Int32 × Int32} {e wx x d t : Nat} {zy1 tk1 : Nat → Int32} (hd : d + 1 < 8) (he : e < 30) (hk : kd e = 9 ∨ kd e = 12) (hx : ex e = nI x) (h1 : ev_Y yE yN yC lo kd ex ey yW yP yX yY yZ vs vn yK es eu sn yO la tu lz (some v) x wx (d + 1) t zy tk zy1 tk1)
    (hf : ∀ (wk sg so nu : Nat → Int32), so t = v.1 → nu t = v.2 → (match o with
      | none => ∀ post : SY → Prop, post (yE, yN, yC, nI d, nI t, 1, lo, kd, ex, ey, yW, yP, yX, yY, yZ, vs, vn, zy1, yK, es, eu, tk1, sn, yO, wk, sg, so, nu, la, tu, lz) → wpY_one post (yE, yN, yC, nI (d + 1), nI (t + 1), 0, lo, kd, ex, ey, yW, yP, yX, yY, yZ, vs, vn, zy1, yK, es, eu, tk1, sn, yO, wk, sg, so, nu, la, tu, lz) (nI e)
      | some v => ∀ post : SY → Prop, post (yE, yN, yC, nI d, nI (t + 1), 0, lo, kd, ex, ey, yW, yP, yX, yY, yZ, vs, vn, zy1, yK, es, eu, tk1, sn, yO, wk, sg, upd so t v.1, upd nu t v.2, la, tu, lz) → wpY_one post (yE, yN, yC, nI (d + 1), nI (t + 1), 0, lo, kd, ex, ey, yW, yP, yX, yY, yZ, vs, vn, zy1, yK, es, eu, tk1, sn, yO, wk, sg, so, nu, la, tu, lz) (nI e))) : ev_Y yE yN yC lo kd ex ey yW yP yX yY yZ vs vn yK es eu sn yO la tu lz o e (wx + 1) d t zy tk zy1 tk1 := by
  intro wk sg so nu hwk hsg
  obtain ⟨c, wk1, sg1, so1, nu1, c1, c2, hlo, hst, hs, hn, h⟩ := h1 (upd wk (d + 1) (nI x)) (upd (upd sg d 1) (d + 1) 0) so nu pk_us pk_us
  obtain ⟨l1, l2, l3⟩ := eY_lo hlo
  rw [hwk] at l2
  have f := hf wk1 (upd sg1 d 2) so1 nu1 hs hn
  cases o with
  | none =>
    refine ⟨c + 2, wk1, upd sg1 d 2, so1, nu1, by omega, by omega, fun j hj => by rw [pk_un (by omega)]; exact l1 j hj, hst, nI d, nI t, fun post m k hk3 hp => ?_⟩
    rw [show m + (c + 2) + 1 = ((m + 1 + 1) + c) + 1 by omega]
    refine yw_step (by omega) (by omega) (fun P hP => ys_first hd he hwk hsg (Or.inl hk) (by rw [hx]; exact hP)) ?_
    refine h post (m + 1 + 1) (k + 1) (by omega) ?_
    refine yw_step (by omega) (by omega) (fun P hP => ys_one (by omega) he l2 l3 hk (f P hP)) ?_
    exact yw_fail hp
  | some u =>
    refine ⟨c + 2, wk1, upd sg1 d 2, upd so1 t u.1, upd nu1 t u.2, by omega, by omega, fun j hj => by rw [pk_un (by omega)]; exact l1 j hj, fun j hj => by rw [pk_un (by omega), pk_un (by omega)]; exact hst j hj, pk_us, pk_us, fun post m k hk3 hp => ?_⟩
    rw [show m + (c + 2) = ((m + 1) + c) + 1 by omega]
    refine yw_step (by omega) (by omega) (fun P hP => ys_first hd he hwk hsg (Or.inl hk) (by rw [hx]; exact hP)) ?_
    refine h post (m + 1) (k + 1) (by omega) ?_
    refine yw_step (by omega) (by omega) (fun P hP => ys_one (by omega) he l2 l3 hk (f P hP)) ?_
    rw [show k + (c + 2) = k + 1 + c + 1 by omega] at hp
    exact hp
theorem eY_two {o : Option (Int32 × Int32)} {v v2 : Int32 × Int32} {e wx x wy y d t : Nat} {zy1 tk1 zy2 tk2 : Nat → Int32} (hd : d + 1 < 8) (he : e < 30) (hk : tm_k2 (kd e)) (hx : ex e = nI x) (hy : ey e = nI y) (h1 : ev_Y yE yN yC lo kd ex ey yW yP yX yY yZ vs vn yK es eu sn yO la tu lz (some v) x wx (d + 1) t zy tk zy1 tk1) (h2 : ev_Y yE yN yC lo kd ex ey yW yP yX yY yZ vs vn yK es eu sn yO la tu lz (some v2) y wy (d + 1) (t + 1) zy1 tk1 zy2 tk2)
    (hf : ∀ (wk sg so nu : Nat → Int32), so t = v.1 → nu t = v.2 → so (t + 1) = v2.1 → nu (t + 1) = v2.2 → (match o with
      | none => ∀ post : SY → Prop, post (yE, yN, yC, nI d, nI t, 1, lo, kd, ex, ey, yW, yP, yX, yY, yZ, vs, vn, zy2, yK, es, eu, tk2, sn, yO, wk, sg, so, nu, la, tu, lz) → wpY_two post (yE, yN, yC, nI (d + 1), nI (t + 2), 0, lo, kd, ex, ey, yW, yP, yX, yY, yZ, vs, vn, zy2, yK, es, eu, tk2, sn, yO, wk, sg, so, nu, la, tu, lz) (nI e)
      | some v => ∀ post : SY → Prop, post (yE, yN, yC, nI d, nI (t + 1), 0, lo, kd, ex, ey, yW, yP, yX, yY, yZ, vs, vn, zy2, yK, es, eu, tk2, sn, yO, wk, sg, upd so t v.1, upd nu t v.2, la, tu, lz) → wpY_two post (yE, yN, yC, nI (d + 1), nI (t + 2), 0, lo, kd, ex, ey, yW, yP, yX, yY, yZ, vs, vn, zy2, yK, es, eu, tk2, sn, yO, wk, sg, so, nu, la, tu, lz) (nI e))) : ev_Y yE yN yC lo kd ex ey yW yP yX yY yZ vs vn yK es eu sn yO la tu lz o e (wx + wy + 1) d t zy tk zy2 tk2 := by
  intro wk sg so nu hwk hsg
  obtain ⟨c, wk1, sg1, so1, nu1, c1, c2, hlo, hst, hs, hn, h⟩ := h1 (upd wk (d + 1) (nI x)) (upd (upd sg d 1) (d + 1) 0) so nu pk_us pk_us
  obtain ⟨l1, l2, l3⟩ := eY_lo hlo
  rw [hwk] at l2
  obtain ⟨c', wk2, sg2, so2, nu2, c1', c2', hlo', hst', hs', hn', h'⟩ := h2 (upd wk1 (d + 1) (nI y)) (upd (upd sg1 d 2) (d + 1) 0) so1 nu1 pk_us pk_us
  obtain ⟨l1', l2', l3'⟩ := eY_lo hlo'
  rw [l2] at l2'
  have f := hf wk2 (upd sg2 d 3) so2 nu2 (by rw [(hst' t (by omega)).1, hs]) (by rw [(hst' t (by omega)).2, hn]) hs' hn'
  have lw : ∀ j, j < d → wk2 j = wk j ∧ upd sg2 d 3 j = sg j := fun j hj => by rw [pk_un (by omega), (l1' j hj).1, (l1' j hj).2]; exact l1 j hj
  have ls : ∀ j, j < t → so2 j = so j ∧ nu2 j = nu j := fun j hj => by rw [(hst' j (by omega)).1, (hst' j (by omega)).2]; exact hst j hj
  cases o with
  | none =>
    refine ⟨c + c' + 3, wk2, upd sg2 d 3, so2, nu2, by omega, by omega, lw, ls, nI d, nI t, fun post m k hk3 hp => ?_⟩
    rw [show m + (c + c' + 3) + 1 = ((((m + 1 + 1) + c') + 1) + c) + 1 by omega]
    refine yw_step (by omega) (by omega) (fun P hP => ys_first hd he hwk hsg (Or.inr (Or.inr (Or.inr hk))) (by rw [hx]; exact hP)) ?_
    refine h post _ (k + 1) (by omega) ?_
    refine yw_step (by omega) (by omega) (fun P hP => ys_snd hd he l2 l3 hk (by rw [hy]; exact hP)) ?_
    refine h' post (m + 1 + 1) (k + 1 + c + 1) (by omega) ?_
    refine yw_step (by omega) (by omega) (fun P hP => ys_two (by omega) he l2' l3' hk (f P hP)) ?_
    exact yw_fail hp
  | some u =>
    refine ⟨c + c' + 3, wk2, upd sg2 d 3, upd so2 t u.1, upd nu2 t u.2, by omega, by omega, lw, fun j hj => by rw [pk_un (by omega), pk_un (by omega)]; exact ls j hj, pk_us, pk_us, fun post m k hk3 hp => ?_⟩
    rw [show m + (c + c' + 3) = ((((m + 1) + c') + 1) + c) + 1 by omega]
    refine yw_step (by omega) (by omega) (fun P hP => ys_first hd he hwk hsg (Or.inr (Or.inr (Or.inr hk))) (by rw [hx]; exact hP)) ?_
    refine h post _ (k + 1) (by omega) ?_
    refine yw_step (by omega) (by omega) (fun P hP => ys_snd hd he l2 l3 hk (by rw [hy]; exact hP)) ?_
    refine h' post (m + 1) (k + 1 + c + 1) (by omega) ?_
    refine yw_step (by omega) (by omega) (fun P hP => ys_two (by omega) he l2' l3' hk (f P hP)) ?_
    rw [show k + (c + c' + 3) = k + 1 + c + 1 + c' + 1 by omega] at hp
    exact hp
theorem eY_two_n {v : Int32 × Int32} {e w wx x wy y d t : Nat} {zy1 tk1 zy2 tk2 : Nat → Int32} (hw : wx + wy + 1 ≤ w) (hd : d + 1 < 8) (he : e < 30) (hk : tm_k2 (kd e)) (hx : ex e = nI x) (hy : ey e = nI y) (h1 : ev_Y yE yN yC lo kd ex ey yW yP yX yY yZ vs vn yK es eu sn yO la tu lz (some v) x wx (d + 1) t zy tk zy1 tk1) (h2 : ev_Y yE yN yC lo kd ex ey yW yP yX yY yZ vs vn yK es eu sn yO la tu lz none y wy (d + 1) (t + 1) zy1 tk1 zy2 tk2) : ev_Y yE yN yC lo kd ex ey yW yP yX yY yZ vs vn yK es eu sn yO la tu lz none e w d t zy tk zy2 tk2 := by
  intro wk sg so nu hwk hsg
  obtain ⟨c, wk1, sg1, so1, nu1, c1, c2, hlo, hst, hs, hn, h⟩ := h1 (upd wk (d + 1) (nI x)) (upd (upd sg d 1) (d + 1) 0) so nu pk_us pk_us
  obtain ⟨l1, l2, l3⟩ := eY_lo hlo
  rw [hwk] at l2
  obtain ⟨c', wk2, sg2, so2, nu2, c1', c2', hlo', hst', dp', tp', h'⟩ := h2 (upd wk1 (d + 1) (nI y)) (upd (upd sg1 d 2) (d + 1) 0) so1 nu1 pk_us pk_us
  obtain ⟨l1', l2', l3'⟩ := eY_lo hlo'
  refine ⟨c + c' + 2, wk2, sg2, so2, nu2, by omega, by omega, fun j hj => by rw [(l1' j hj).1, (l1' j hj).2]; exact l1 j hj, fun j hj => by rw [(hst' j (by omega)).1, (hst' j (by omega)).2]; exact hst j hj, dp', tp', fun post m k hk3 hp => ?_⟩
  rw [show m + (c + c' + 2) + 1 = (((m + c' + 1) + 1) + c) + 1 by omega]
  refine yw_step (by omega) (by omega) (fun P hP => ys_first hd he hwk hsg (Or.inr (Or.inr (Or.inr hk))) (by rw [hx]; exact hP)) ?_
  refine h post _ (k + 1) (by omega) ?_
  refine yw_step (by omega) (by omega) (fun P hP => ys_snd hd he l2 l3 hk (by rw [hy]; exact hP)) ?_
  exact h' post m (k + 1 + c + 1) (by omega) hp
theorem eY_keep {v : Int32 × Int32} {e wx x wy d t : Nat} {zy1 tk1 : Nat → Int32} (hd : d + 1 < 8) (he : e < 30) (ht : t < 8) (hx : ex e = nI x) (hk : (kd e = 7 ∧ v.1 = 0) ∨ (kd e = 8 ∧ ¬ v.1 = 0)) (h1 : ev_Y yE yN yC lo kd ex ey yW yP yX yY yZ vs vn yK es eu sn yO la tu lz (some v) x wx (d + 1) t zy tk zy1 tk1) : ev_Y yE yN yC lo kd ex ey yW yP yX yY yZ vs vn yK es eu sn yO la tu lz (some v) e (wx + 1 + wy) d t zy tk zy1 tk1 := by
  intro wk sg so nu hwk hsg
  obtain ⟨c, wk1, sg1, so1, nu1, c1, c2, hlo, hst, hs, hn, h⟩ := h1 (upd wk (d + 1) (nI x)) (upd (upd sg d 1) (d + 1) 0) so nu pk_us pk_us
  obtain ⟨l1, l2, l3⟩ := eY_lo hlo
  rw [hwk] at l2
  have hkk : kd e = 7 ∨ kd e = 8 ∨ tm_k2 (kd e) := by rcases hk with h | h; exact Or.inl h.1; exact Or.inr (Or.inl h.1)
  refine ⟨c + 2, wk1, upd sg1 d 2, so1, nu1, by omega, by omega, fun j hj => by rw [pk_un (by omega)]; exact l1 j hj, hst, hs, hn, fun post m k hk3 hp => ?_⟩
  rw [show m + (c + 2) = ((m + 1) + c) + 1 by omega]
  refine yw_step (by omega) (by omega) (fun P hP => ys_first hd he hwk hsg (Or.inr hkk) (by rw [hx]; exact hP)) ?_
  refine h post (m + 1) (k + 1) (by omega) ?_
  refine yw_step (by omega) (by omega) (fun P hP => ys_ch_keep (by omega) he l2 l3 ht (by rw [hs]; exact hk) hP) ?_
  rw [show k + (c + 2) = k + 1 + c + 1 by omega] at hp
  exact hp
theorem eY_go {o : Option (Int32 × Int32)} {v : Int32 × Int32} {e wx x wy y d t : Nat} {zy1 tk1 zy2 tk2 : Nat → Int32} (hd : d + 1 < 8) (he : e < 30) (ht : t < 8) (hx : ex e = nI x) (hy : ey e = nI y) (hk : (kd e = 7 ∧ ¬ v.1 = 0) ∨ (kd e = 8 ∧ v.1 = 0)) (h1 : ev_Y yE yN yC lo kd ex ey yW yP yX yY yZ vs vn yK es eu sn yO la tu lz (some v) x wx (d + 1) t zy tk zy1 tk1) (h2 : ev_Y yE yN yC lo kd ex ey yW yP yX yY yZ vs vn yK es eu sn yO la tu lz o y wy (d + 1) t zy1 tk1 zy2 tk2) : ev_Y yE yN yC lo kd ex ey yW yP yX yY yZ vs vn yK es eu sn yO la tu lz o e (wx + 1 + wy) d t zy tk zy2 tk2 := by
  intro wk sg so nu hwk hsg
  obtain ⟨c, wk1, sg1, so1, nu1, c1, c2, hlo, hst, hs, hn, h⟩ := h1 (upd wk (d + 1) (nI x)) (upd (upd sg d 1) (d + 1) 0) so nu pk_us pk_us
  obtain ⟨l1, l2, l3⟩ := eY_lo hlo
  rw [hwk] at l2
  have hkc : kd e = 7 ∨ kd e = 8 := by rcases hk with h | h; exact Or.inl h.1; exact Or.inr h.1
  have hkk : kd e = 7 ∨ kd e = 8 ∨ tm_k2 (kd e) := by rcases hkc with h | h; exact Or.inl h; exact Or.inr (Or.inl h)
  obtain ⟨c', wk2, sg2, so2, nu2, c1', c2', hlo', hst', h'⟩ := h2 (upd wk1 (d + 1) (nI y)) (upd (upd sg1 d 2) (d + 1) 0) so1 nu1 pk_us pk_us
  obtain ⟨l1', l2', l3'⟩ := eY_lo hlo'
  rw [l2] at l2'
  have ls : ∀ j, j < t → so2 j = so j ∧ nu2 j = nu j := fun j hj => by rw [(hst' j (by omega)).1, (hst' j (by omega)).2]; exact hst j hj
  cases o with
  | none =>
    obtain ⟨dp', tp', h'⟩ := h'
    refine ⟨c + c' + 2, wk2, sg2, so2, nu2, by omega, by omega, fun j hj => by rw [(l1' j hj).1, (l1' j hj).2]; exact l1 j hj, ls, dp', tp', fun post m k hk3 hp => ?_⟩
    rw [show m + (c + c' + 2) + 1 = (((m + c' + 1) + 1) + c) + 1 by omega]
    refine yw_step (by omega) (by omega) (fun P hP => ys_first hd he hwk hsg (Or.inr hkk) (by rw [hx]; exact hP)) ?_
    refine h post _ (k + 1) (by omega) ?_
    refine yw_step (by omega) (by omega) (fun P hP => ys_ch_go hd he l2 l3 ht (by rw [hs]; exact hk) (by rw [hy]; exact hP)) ?_
    exact h' post m (k + 1 + c + 1) (by omega) hp
  | some u =>
    obtain ⟨hs', hn', h'⟩ := h'
    refine ⟨c + c' + 3, wk2, upd sg2 d 3, so2, nu2, by omega, by omega, fun j hj => by rw [pk_un (by omega), (l1' j hj).1, (l1' j hj).2]; exact l1 j hj, ls, hs', hn', fun post m k hk3 hp => ?_⟩
    rw [show m + (c + c' + 3) = ((((m + 1) + c') + 1) + c) + 1 by omega]
    refine yw_step (by omega) (by omega) (fun P hP => ys_first hd he hwk hsg (Or.inr hkk) (by rw [hx]; exact hP)) ?_
    refine h post _ (k + 1) (by omega) ?_
    refine yw_step (by omega) (by omega) (fun P hP => ys_ch_go hd he l2 l3 ht (by rw [hs]; exact hk) (by rw [hy]; exact hP)) ?_
    refine h' post (m + 1) (k + 1 + c + 1) (by omega) ?_
    refine yw_step (by omega) (by omega) (fun P hP => ys_ch_end (by omega) he l2' l3' hkc hP) ?_
    rw [show k + (c + c' + 3) = k + 1 + c + 1 + c' + 1 by omega] at hp
    exact hp
end
end
section
/-! every expression: by induction over its tree -/
theorem tm_new {U sz zy vs vn es eu : Nat → Int32} {p : Nat} (H : tm_HO U sz zy vs vn es eu) (hp : p < 20) (h0 : U p = 0) : tm_HO (upd U p 1) (upd sz p 0) (upd zy p 0) vs vn es eu := by
  have mo : ∀ t, ¬ U t = 0 → ¬ upd U p 1 t = 0 := fun t h => yk_mo h
  refine ⟨fun t h => ?_, fun t i m h hz hm hi => ?_, fun v hv => cv_okm (H.2.2 v hv) mo⟩
  · by_cases e : t = p
    · subst e
      rw [pk_us, pk_us]
      exact ⟨hp, rfl, 0, by omega, rfl⟩
    · rw [pk_un e] at h
      rw [pk_un e, pk_un e]
      exact H.1 t h
  · by_cases e : t = p
    · subst e
      rw [pk_us] at hz
      have := (nI_eq (a := 0) (by decide) (by omega)).mp hz
      omega
    · rw [pk_un e] at h hz
      exact cv_okm (H.2.1 t i m h hz hm hi) mo
theorem ev_M0 {vs vn es eu g z1 z2 : Nat → Int32} {w : Nat} (H : tm_HO g z1 z2 vs vn es eu) (hg : ∀ t, 20 ≤ t → g t = 0) : ev_M vs vn es eu g z1 z2 g z1 z2 w :=
  ⟨H, hg, fun t h => ⟨h, rfl, rfl⟩, by omega⟩
theorem ev_Mw {vs vn es eu g z1 z2 g' z1' z2' : Nat → Int32} {w w' : Nat} (M : ev_M vs vn es eu g z1 z2 g' z1' z2' w) (h : w ≤ w') : ev_M vs vn es eu g z1 z2 g' z1' z2' w' :=
  ⟨M.1, M.2.1, M.2.2.1, by have := M.2.2.2; omega⟩
theorem ev_Mt {vs vn es eu g z1 z2 g1 z11 z21 g2 z12 z22 : Nat → Int32} {w wx wy : Nat} (M : ev_M vs vn es eu g z1 z2 g1 z11 z21 wx) (M2 : ev_M vs vn es eu g1 z11 z21 g2 z12 z22 wy) (h : wx + wy + 1 ≤ w) : ev_M vs vn es eu g z1 z2 g2 z12 z22 w := by
  refine ⟨M2.1, M2.2.1, fun t ht => ?_, by have := M.2.2.2; have := M2.2.2.2; omega⟩
  obtain ⟨a, b, c⟩ := M.2.2.1 t ht
  obtain ⟨a', b', c'⟩ := M2.2.2.1 t a
  exact ⟨a', b'.trans b, c'.trans c⟩
section
variable {eN sN oL fC oC : Int32} {wt cK cO cR : Nat → Int32} {rg : Nat → Int64} {oP oX oY oZ lS lT lL : Nat → Int32} {va : Nat → Int64} {iu sz ke : Nat → Int32} {en : Nat → Int64} {fd : Nat → Int32} {ou : Nat → Int64} {yE yN yC dp tp fl lo : Int32} {kd ex ey yW yP yX yY yZ vs vn zy yK es eu tk sn : Nat → Int32} {yO : Nat → Int64} {wk sg so nu la tu lz : Nat → Int32}
theorem ev_all {E : Nat} (hE : E ≤ 30) : ∀ f w e a r : Nat, tm_T E kd ex ey wt cK cO cR f w e a r → ∀ g z1 z2 : Nat → Int32, tm_HO g z1 z2 vs vn es eu → (∀ t, 20 ≤ t → g t = 0) → 2 * cn_c g 20 + w + 1 ≤ 40 → 2 * r + w ≤ 7 → ∀ d t : Nat, d + w ≤ 8 → 2 * t + w ≤ 15 →
    ∃ (o : Option (Int32 × Int32)) (g' z1' z2' : Nat → Int32), ev_M vs vn es eu g z1 z2 g' z1' z2' w ∧ (∀ v, o = some v → cv_ok g' v.1 v.2) ∧ ev_X eN sN oL fC oC wt cK cO cR oP oX oY oZ lS lT lL (cv_f vs vn) ke (cv_f es eu) fd ou o a w r g z1 g' z1' ∧ ev_Y yE yN yC lo kd ex ey yW yP yX yY yZ vs vn ke es eu sn yO la tu lz o e w d t z2 g z2' g' := by
  intro f
  induction f with
  | zero => intro w e a r h; exact absurd h id
  | succ f ih =>
    intro w e a r T g z1 z2 H hg hcn hr d t hd ht
    obtain ⟨he, hwt, h⟩ := T
    have he30 : e < 30 := by omega
    have ve : vp_in (nI e) 30 := vp_in_nI he30 (by decide)
    have ce : (nI e).toNatClampNeg = e := nI_clamp (by omega)
    rcases h with ⟨rfl, hO, hR, hK, hk⟩ | ⟨x, wx, hk, hx, rfl, Tx, hK, hR⟩ | ⟨x, y, wx, wy, hk, hx, hy, rfl, Tx, hK, hO, hR, Ty⟩ | ⟨x, y, wx, wy, hk, hx, hy, rfl, Tx, Ty, hK, hR⟩
    · rcases hk with hk | ⟨hk, v, hv, hxv⟩ | hk
      · refine ⟨some (1, ex e), g, z1, z2, ev_M0 H hg, fun v hv => (by cases hv; exact Or.inr (Or.inl rfl)), eX_leaf (by omega) hK (Or.inl hk) hO hR (Or.inr (Or.inl rfl)) (fun rg P hP => ?_), eY_leaf (by omega) he30 (Or.inl hk) (fun wk sg so nu P hP => ?_)⟩
        · unfold wpX_fetch
          exact br_t hk (xv_val hP)
        · unfold wpY_leaf
          refine ⟨ve, br_t (by rw [ce]; exact hk) ⟨ve, ?_⟩⟩
          rw [ce]
          exact ys_give (by omega) (nm_r (nI_pred d) hP)
      · have ok := H.2.2 v hv
        have nk : ¬ kd e = 0 := by rw [hk]; decide
        have v6 : vp_in (ex e) 6 := by rw [hxv]; exact vp_in_nI hv (by decide)
        have cv : (ex e).toNatClampNeg = v := by rw [hxv]; exact nI_clamp (by omega)
        refine ⟨some (vs v, vn v), g, z1, z2, ev_M0 H hg, fun u hu => (by cases hu; exact ok), eX_leaf (by omega) hK (Or.inr (Or.inl hk)) hO hR (cv_ok_s ok) (fun rg P hP => ?_), eY_leaf (by omega) he30 (Or.inr (Or.inl hk)) (fun wk sg so nu P hP => ?_)⟩
        · unfold wpX_fetch
          refine br_f nk (br_t hk ⟨v6, ?_⟩)
          rw [cv]; exact hP
        · unfold wpY_leaf
          refine ⟨ve, br_f (by rw [ce]; exact nk) ⟨ve, br_t (by rw [ce]; exact hk) ⟨ve, ?_⟩⟩⟩
          rw [ce, cv]
          exact ⟨v6, ve, v6, ys_give (by omega) (nm_r (nI_pred d) hP)⟩
      · have nk : ¬ kd e = 0 := by rw [hk]; decide
        have nk1 : ¬ kd e = 1 := by rw [hk]; decide
        obtain ⟨p, hp, h0, hl⟩ := cn_free 20 (U := g) (by omega)
        refine ⟨some (2, nI p), upd g p 1, upd z1 p 0, upd z2 p 0, ⟨tm_new H hp h0, fun t ht => by rw [pk_un (by omega)]; exact hg t ht, fun t ht => ?_, ?_⟩, fun u hu => ?_, eX_leaf (by omega) hK (Or.inr (Or.inr hk)) hO hR (Or.inr (Or.inr rfl)) (fun rg P hP => ?_), eY_leaf (by omega) he30 (Or.inr (Or.inr hk)) (fun wk sg so nu P hP => ?_)⟩
        · have e : t ≠ p := fun e => by subst e; exact ht h0
          exact ⟨yk_mo ht, pk_un e, pk_un e⟩
        · rw [cn_upd h0 (by decide) 20 hp]; omega
        · cases hu
          exact Or.inr (Or.inr ⟨rfl, p, hp, rfl, by rw [pk_us]; decide⟩)
        · unfold wpX_fetch
          exact br_f nk (br_f nk1 (xs_new hp h0 hl hP))
        · unfold wpY_leaf
          refine ⟨ve, br_f (by rw [ce]; exact nk) ⟨ve, br_f (by rw [ce]; exact nk1) ?_⟩⟩
          exact ys_new hp h0 hl (ys_give (by omega) (nm_r (nI_pred d) hP))
    · obtain ⟨o1, g1, z11, z21, M1, ok1, X1, Y1⟩ := ih wx x a r Tx g z1 z2 H hg (by omega) (by omega) (d + 1) t (by omega) (by omega)
      have hwx := (tm_pos Tx).2.2
      cases o1 with
      | none => exact ⟨none, g1, z11, z21, ev_Mw M1 (by omega), fun v hv => (by cases hv), eX_none (by omega) X1, eY_none (by omega) (by omega) he30 (Or.inl hk) hx Y1⟩
      | some v =>
        obtain ⟨o, ok, fX, fY⟩ := lk_one (e := e) (d := d) (t := t) (kd := kd) M1.1 he30 (by omega) hk (ok1 v rfl)
        refine ⟨o, g1, z11, z21, ev_Mw M1 (by omega), ok, eX_one X1 (by omega) hK hk hR (fun u hu => cv_ok_s (ok u hu)) (fun rg P hP => fX P hP), eY_one (by omega) he30 hk hx Y1 (fun wk sg so nu hs hn => ?_)⟩
        cases o with
        | none => exact fun post hp => fY hs hn post hp
        | some u => exact fun post hp => fY hs hn post hp
    · obtain ⟨o1, g1, z11, z21, M1, ok1, X1, Y1⟩ := ih wx x a r Tx g z1 z2 H hg (by omega) (by omega) (d + 1) t (by omega) (by omega)
      have hwx := (tm_pos Tx).2.2
      have hwy := (tm_pos Ty).2.2
      have hkk : kd e = 7 ∨ kd e = 8 ∨ tm_k2 (kd e) := by rcases hk with h | h; exact Or.inl h; exact Or.inr (Or.inl h)
      cases o1 with
      | none => exact ⟨none, g1, z11, z21, ev_Mw M1 (by omega), fun v hv => (by cases hv), eX_none (by omega) X1, eY_none (by omega) (by omega) he30 (Or.inr hkk) hx Y1⟩
      | some v =>
        have okv := ok1 v rfl
        by_cases hc : (kd e = 7 ∧ v.1 = 0) ∨ (kd e = 8 ∧ ¬ v.1 = 0)
        · exact ⟨some v, g1, z11, z21, ev_Mw M1 (by omega), ok1, eX_keep X1 (by omega) hK hO hR (cv_ok_s okv) hc, eY_keep (by omega) he30 (by omega) hx hc Y1⟩
        · have hc2 : (kd e = 7 ∧ ¬ v.1 = 0) ∨ (kd e = 8 ∧ v.1 = 0) := by
            rcases hk with h | h
            · exact Or.inl ⟨h, fun z => hc (Or.inl ⟨h, z⟩)⟩
            · refine Or.inr ⟨h, ?_⟩
              by_cases z : v.1 = 0
              · exact z
              · exact absurd (Or.inr ⟨h, z⟩) hc
          have hM1 := M1.2.2.2
          obtain ⟨o2, g2, z12, z22, M2, ok2, X2, Y2⟩ := ih wy y (a + wx + 1) r Ty g1 z11 z21 M1.1 M1.2.1 (by omega) (by omega) (d + 1) t (by omega) (by omega)
          exact ⟨o2, g2, z12, z22, ev_Mt M1 M2 (by omega), ok2, eX_go X1 X2 (by omega) hK hR (cv_ok_s okv) hc2, eY_go (by omega) he30 (by omega) hx hy hc2 Y1 Y2⟩
    · obtain ⟨o1, g1, z11, z21, M1, ok1, X1, Y1⟩ := ih wx x a r Tx g z1 z2 H hg (by omega) (by omega) (d + 1) t (by omega) (by omega)
      have hwx := (tm_pos Tx).2.2
      have hwy := (tm_pos Ty).2.2
      cases o1 with
      | none => exact ⟨none, g1, z11, z21, ev_Mw M1 (by omega), fun v hv => (by cases hv), eX_none (by omega) X1, eY_none (by omega) (by omega) he30 (Or.inr (Or.inr (Or.inr hk))) hx Y1⟩
      | some v =>
        have okv := ok1 v rfl
        have hM1 := M1.2.2.2
        obtain ⟨o2, g2, z12, z22, M2, ok2, X2, Y2⟩ := ih wy y (a + wx) (r + 1) Ty g1 z11 z21 M1.1 M1.2.1 (by omega) (by omega) (d + 1) (t + 1) (by omega) (by omega)
        cases o2 with
        | none => exact ⟨none, g2, z12, z22, ev_Mt M1 M2 (by omega), fun v hv => (by cases hv), eX_two_n (by omega) X1 X2, eY_two_n (by omega) (by omega) he30 hk hx hy Y1 Y2⟩
        | some v2 =>
          have okv' := cv_okm okv (fun t h => (M2.2.2.1 t h).1)
          obtain ⟨o, ok, fX, fY⟩ := lk_two (e := e) (d := d) (t := t) (kd := kd) (ke := ke) M2.1 he30 (by omega) hk okv' (ok2 v2 rfl)
          refine ⟨o, g2, z12, z22, ev_Mt M1 M2 (by omega), ok, eX_two X1 X2 (by omega) hK hk hR (fun u hu => cv_ok_s (ok u hu)) (fun rg P hP => fX P hP), eY_two (by omega) he30 hk hx hy Y1 Y2 (fun wk sg so nu hs hn hs2 hn2 => ?_)⟩
          cases o with
          | none => exact fun post hp => fY hs hn hs2 hn2 post hp
          | some u => exact fun post hp => fY hs hn hs2 hn2 post hp
/-- an expression worked out by X -/
theorem xw_work {o : Option (Int32 × Int32)} {e w : Nat} {g z1 g' z1' : Nat → Int32} (he : e < 30) (hw : wt e = nI w) (hw7 : w ≤ 7) (h : ev_X eN sN oL fC oC wt cK cO cR oP oX oY oZ lS lT lL va ke en fd ou o (7 * e) w 0 g z1 g' z1') : ∃ rg' : Nat → Int64, ∀ post : Int64 → SX → Prop, post (ev_o o) (eN, sN, oL, fC, oC, wt, cK, cO, cR, rg', oP, oX, oY, oZ, lS, lT, lL, va, g', z1', ke, en, fd, ou) → wpX_workOut post (eN, sN, oL, fC, oC, wt, cK, cO, cR, rg, oP, oX, oY, oZ, lS, lT, lL, va, g, z1, ke, en, fd, ou) (nI e) := by
  obtain ⟨c, rg', c1, c2, _, h⟩ := h rg
  refine ⟨rg', fun post hp => ?_⟩
  unfold wpX_workOut
  have e1 : nI e * 7 = nI (7 * e) := by rw [Nat.mul_comm]; exact pk_mul e 7
  have e2 : nI (7 * e) + wt (nI e).toNatClampNeg = nI (7 * e + w) := by rw [nI_clamp (by omega), hw, nI_add]
  refine nm_r e1 ⟨vp_in_nI he (by decide), nm_r e2 ⟨1 + c, ?_⟩⟩
  cases o with
  | none => exact h post (7 * e + w) 1 0 (by omega) (by omega) (by omega) hp
  | some v =>
    have hp' : post (rg' 0) (eN, sN, oL, fC, oC, wt, cK, cO, cR, rg', oP, oX, oY, oZ, lS, lT, lL, va, g', z1', ke, en, fd, ou) := by rw [h.1]; exact hp
    exact h.2 post (7 * e + w) 1 0 (by omega) (by omega) (by omega) (br_c (fun _ => hp') (fun _ => br_t (nI_le (Nat.le_refl _) (by omega)) hp'))
/-- and by Y -/
theorem yw_some {v : Int32 × Int32} {e w t : Nat} {z2 g z2' g' : Nat → Int32} (hw7 : w ≤ 7) (h : ev_Y yE yN yC lo kd ex ey yW yP yX yY yZ vs vn yK es eu sn yO la tu lz (some v) e w 0 t z2 g z2' g') : ∃ wk' sg' so' nu' : Nat → Int32, (∀ j, j < t → so' j = so j ∧ nu' j = nu j) ∧ so' t = v.1 ∧ nu' t = v.2 ∧ ∀ post : SY → Prop, post (yE, yN, yC, nI 0, nI (t + 1), 0, lo, kd, ex, ey, yW, yP, yX, yY, yZ, vs, vn, z2', yK, es, eu, g', sn, yO, wk', sg', so', nu', la, tu, lz) → wpY_work post (yE, yN, yC, dp, nI t, 0, lo, kd, ex, ey, yW, yP, yX, yY, yZ, vs, vn, z2, yK, es, eu, g, sn, yO, wk, sg, so, nu, la, tu, lz) (nI e) := by
  obtain ⟨c, wk', sg', so', nu', c1, c2, _, hst, hs, hn, h⟩ := h (upd wk 0 (nI e)) (upd sg 0 0) so nu pk_us pk_us
  refine ⟨wk', sg', so', nu', hst, hs, hn, fun post hp => ?_⟩
  unfold wpY_work
  refine ys_begin (d := 0) (by decide) ⟨1 + c, ?_⟩
  exact h post 1 0 (by omega) (br_c (fun _ => hp) (fun _ => br_t (by decide) hp))
theorem yw_none {e w t : Nat} {z2 g z2' g' : Nat → Int32} (hw7 : w ≤ 7) (h : ev_Y yE yN yC lo kd ex ey yW yP yX yY yZ vs vn yK es eu sn yO la tu lz none e w 0 t z2 g z2' g') : ∃ (dp' tp' : Int32) (wk' sg' so' nu' : Nat → Int32), ∀ post : SY → Prop, post (yE, yN, yC, dp', tp', 1, lo, kd, ex, ey, yW, yP, yX, yY, yZ, vs, vn, z2', yK, es, eu, g', sn, yO, wk', sg', so', nu', la, tu, lz) → wpY_work post (yE, yN, yC, dp, nI t, 0, lo, kd, ex, ey, yW, yP, yX, yY, yZ, vs, vn, z2, yK, es, eu, g, sn, yO, wk, sg, so, nu, la, tu, lz) (nI e) := by
  obtain ⟨c, wk', sg', so', nu', c1, c2, _, hst, dp', tp', h⟩ := h (upd wk 0 (nI e)) (upd sg 0 0) so nu pk_us pk_us
  refine ⟨dp', tp', wk', sg', so', nu', fun post hp => ?_⟩
  unfold wpY_work
  refine ys_begin (d := 0) (by decide) ⟨0 + c + 1, ?_⟩
  exact h post 0 0 (by omega) hp
end
end
section
/-! one statement -/
theorem tm_back {g sz zy sz' zy' vs vn es eu : Nat → Int32} (H : tm_HO g sz zy vs vn es eu) (h : ∀ t, ¬ g t = 0 → sz' t = sz t ∧ zy' t = zy t) : tm_HO g sz' zy' vs vn es eu := by
  refine ⟨fun t ht => ?_, fun t i m ht hz hm hi => ?_, H.2.2⟩
  · rw [(h t ht).1, (h t ht).2]; exact H.1 t ht
  · rw [(h t ht).1] at hz
    exact H.2.1 t i m ht hz hm hi
theorem tm_let {g sz zy vs vn es eu : Nat → Int32} {s n : Int32} (H : tm_HO g sz zy vs vn es eu) (v : Nat) (ok : cv_ok g s n) : tm_HO g sz zy (upd vs v s) (upd vn v n) es eu := by
  refine ⟨H.1, H.2.1, fun w hw => ?_⟩
  by_cases e : w = v
  · subst e; rw [pk_us, pk_us]; exact ok
  · rw [pk_un e, pk_un e]; exact H.2.2 w hw
section
variable {eN sN oL fC oC : Int32} {wt cK cO cR : Nat → Int32} {rg : Nat → Int64} {oP oX oY oZ lS lT lL : Nat → Int32} {va : Nat → Int64} {iu sz ke : Nat → Int32} {en : Nat → Int64} {fd : Nat → Int32} {ou : Nat → Int64} {yE yN yC dp tp fl lo : Int32} {kd ex ey yW yP yX yY yZ vs vn zy yK es eu tk sn : Nat → Int32} {yO : Nat → Int64} {wk sg so nu la tu lz : Nat → Int32}
theorem x_full {post : Int32 → SX → Prop} {c s : Nat} {g fd' : Nat → Int32} (hcol : ∀ P : Int32 → SX → Prop, P (nI c) (eN, sN, oL, nI c, oC, wt, cK, cO, cR, rg, oP, oX, oY, oZ, lS, lT, lL, va, g, sz, ke, en, fd', ou) → wpX_collect P (eN, sN, oL, fC, oC, wt, cK, cO, cR, rg, oP, oX, oY, oZ, lS, lT, lL, va, iu, sz, ke, en, fd, ou)) (hc : 8 < c) (hc2 : c ≤ 20) (h : post (-1) (eN, sN, oL, nI c, oC, wt, cK, cO, cR, rg, oP, oX, oY, oZ, lS, lT, lL, va, g, sz, ke, en, fd', ou)) : wpX_execute post (eN, sN, oL, fC, oC, wt, cK, cO, cR, rg, oP, oX, oY, oZ, lS, lT, lL, va, iu, sz, ke, en, fd, ou) (nI s) := by
  unfold wpX_execute
  refine hcol _ ?_
  exact br_f (nI_ge (a := 8) hc (by omega)) h
theorem x_one {post : Int32 → SX → Prop} {c s e : Nat} {op : Int32} {g fd' : Nat → Int32} (hcol : ∀ P : Int32 → SX → Prop, P (nI c) (eN, sN, oL, nI c, oC, wt, cK, cO, cR, rg, oP, oX, oY, oZ, lS, lT, lL, va, g, sz, ke, en, fd', ou) → wpX_collect P (eN, sN, oL, fC, oC, wt, cK, cO, cR, rg, oP, oX, oY, oZ, lS, lT, lL, va, iu, sz, ke, en, fd, ou)) (hc : c ≤ 8) (hs : s < 14) (ho : oP s = op) (hz : ((op = 0 ∨ op = 3) ∧ oY s = nI e) ∨ ((op = 2 ∨ op = 4) ∧ oX s = nI e)) (h : wX_execute_102 post (nI s) op (nI e) eN sN oL (nI c) oC wt cK cO cR rg oP oX oY oZ lS lT lL va g sz ke en fd' ou) : wpX_execute post (eN, sN, oL, fC, oC, wt, cK, cO, cR, rg, oP, oX, oY, oZ, lS, lT, lL, va, iu, sz, ke, en, fd, ou) (nI s) := by
  have vs14 : vp_in (nI s) 14 := vp_in_nI hs (by decide)
  have cs : (nI s).toNatClampNeg = s := nI_clamp (by omega)
  unfold wpX_execute
  refine hcol _ ?_
  refine br_t (nI_le (b := 8) hc (by decide)) ⟨vs14, nm_r (by rw [cs, ho]) ?_⟩
  rcases hz with ⟨hop, hy⟩ | ⟨hop, hx⟩
  · have g1 : wX_execute_87 post (nI s) op eN sN oL (nI c) oC wt cK cO cR rg oP oX oY oZ lS lT lL va g sz ke en fd' ou := by
      unfold wX_execute_87
      refine ⟨vs14, ?_⟩
      rw [cs, hy]; exact h
    rcases hop with hop | hop
    · exact br_f (by rw [hop]; decide) (br_t hop g1)
    · exact br_f (by rw [hop]; decide) (br_f (by rw [hop]; decide) (br_t hop g1))
  · refine br_f (by rcases hop with h | h <;> rw [h] <;> decide) (br_f (by rcases hop with h | h <;> rw [h] <;> decide) (br_f (by rcases hop with h | h <;> rw [h] <;> decide) ⟨vs14, ?_⟩))
    rw [cs, hx]; exact h
theorem x_none {post : Int32 → SX → Prop} {s e : Nat} {op : Int32} {rg' : Nat → Int64} {iu' sz' : Nat → Int32} (hw : ∀ P : Int64 → SX → Prop, P 3 (eN, sN, oL, fC, oC, wt, cK, cO, cR, rg', oP, oX, oY, oZ, lS, lT, lL, va, iu', sz', ke, en, fd, ou) → wpX_workOut P (eN, sN, oL, fC, oC, wt, cK, cO, cR, rg, oP, oX, oY, oZ, lS, lT, lL, va, iu, sz, ke, en, fd, ou) (nI e)) (h : post (-1) (eN, sN, oL, fC, oC, wt, cK, cO, cR, rg', oP, oX, oY, oZ, lS, lT, lL, va, iu', sz', ke, en, fd, ou)) : wX_execute_102 post (nI s) op (nI e) eN sN oL fC oC wt cK cO cR rg oP oX oY oZ lS lT lL va iu sz ke en fd ou := by
  unfold wX_execute_102
  refine hw _ ?_
  exact br_t rfl h
theorem x_let {post : Int32 → SX → Prop} {s e v : Nat} {V : Int64} {rg' : Nat → Int64} {iu' sz' : Nat → Int32} (hw : ∀ P : Int64 → SX → Prop, P V (eN, sN, oL, fC, oC, wt, cK, cO, cR, rg', oP, oX, oY, oZ, lS, lT, lL, va, iu', sz', ke, en, fd, ou) → wpX_workOut P (eN, sN, oL, fC, oC, wt, cK, cO, cR, rg, oP, oX, oY, oZ, lS, lT, lL, va, iu, sz, ke, en, fd, ou) (nI e)) (hV : ¬ V = 3) (hs : s < 14) (hv : v < 6) (hx : oX s = nI v) (h : post (nI (s + 1)) (eN, sN, oL, fC, oC, wt, cK, cO, cR, rg', oP, oX, oY, oZ, lS, lT, lL, vp_updL va v V, iu', sz', ke, en, fd, ou)) : wX_execute_102 post (nI s) 0 (nI e) eN sN oL fC oC wt cK cO cR rg oP oX oY oZ lS lT lL va iu sz ke en fd ou := by
  have cs : (nI s).toNatClampNeg = s := nI_clamp (by omega)
  unfold wX_execute_102
  refine hw _ ?_
  refine br_f hV (br_f (by decide) (br_f (by decide) (br_t rfl ⟨vp_in_nI hs (by decide), ?_⟩)))
  rw [cs, hx, nI_1]
  exact ⟨vp_in_nI hv (by decide), nm_r (by rw [nI_clamp (by omega)]) h⟩
theorem x_if {post : Int32 → SX → Prop} {E s e nx : Nat} {V : Int64} {rg' : Nat → Int64} {iu' sz' : Nat → Int32} (hw : ∀ P : Int64 → SX → Prop, P V (eN, sN, oL, fC, oC, wt, cK, cO, cR, rg', oP, oX, oY, oZ, lS, lT, lL, va, iu', sz', ke, en, fd, ou) → wpX_workOut P (eN, sN, oL, fC, oC, wt, cK, cO, cR, rg, oP, oX, oY, oZ, lS, lT, lL, va, iu, sz, ke, en, fd, ou) (nI e)) (hV : ¬ V = 3) (hs : s < 14) (hst : tm_st E (oP s) (oX s) (oY s) (oZ s)) (hn : (V = 0 ∧ nx = tm_nm oP oY oZ s + 1) ∨ (¬ V = 0 ∧ nx = s + 1)) (h : post (nI nx) (eN, sN, oL, fC, oC, wt, cK, cO, cR, rg', oP, oX, oY, oZ, lS, lT, lL, va, iu', sz', ke, en, fd, ou)) : wX_execute_102 post (nI s) 2 (nI e) eN sN oL fC oC wt cK cO cR rg oP oX oY oZ lS lT lL va iu sz ke en fd ou := by
  unfold wX_execute_102
  refine hw _ ?_
  refine br_f hV (br_f (by decide) (br_f (by decide) (br_f (by decide) (br_f (by decide) (br_t rfl ?_)))))
  rcases hn with ⟨h0, rfl⟩ | ⟨h0, rfl⟩
  · refine br_t h0 (xn_named hs hst ?_)
    rw [nI_1]; exact h
  · refine br_f h0 ?_
    rw [nI_1]; exact h
theorem x_show {post : Int32 → SX → Prop} {s e : Nat} {V : Int64} {rg' : Nat → Int64} {iu' sz' : Nat → Int32} {oC' : Int32} {ou' : Nat → Int64} (hw : ∀ P : Int64 → SX → Prop, P V (eN, sN, oL, fC, oC, wt, cK, cO, cR, rg', oP, oX, oY, oZ, lS, lT, lL, va, iu', sz', ke, en, fd, ou) → wpX_workOut P (eN, sN, oL, fC, oC, wt, cK, cO, cR, rg, oP, oX, oY, oZ, lS, lT, lL, va, iu, sz, ke, en, fd, ou) (nI e)) (hV : ¬ V = 3) (hsh : ∀ P : SX → Prop, P (eN, sN, oL, fC, oC', wt, cK, cO, cR, rg', oP, oX, oY, oZ, lS, lT, lL, va, iu', sz', ke, en, fd, ou') → wpX_show P (eN, sN, oL, fC, oC, wt, cK, cO, cR, rg', oP, oX, oY, oZ, lS, lT, lL, va, iu', sz', ke, en, fd, ou) V) (h : post (nI (s + 1)) (eN, sN, oL, fC, oC', wt, cK, cO, cR, rg', oP, oX, oY, oZ, lS, lT, lL, va, iu', sz', ke, en, fd, ou')) : wX_execute_102 post (nI s) 4 (nI e) eN sN oL fC oC wt cK cO cR rg oP oX oY oZ lS lT lL va iu sz ke en fd ou := by
  unfold wX_execute_102
  refine hw _ ?_
  refine br_f hV (br_f (by decide) (br_t (by decide) ?_))
  unfold wX_execute_198
  refine hsh _ ?_
  dsimp only
  rw [nI_1]; exact h
theorem x_loopF {post : Int32 → SX → Prop} {s e : Nat} {a b : Int32} {rg' : Nat → Int64} {iu' sz' : Nat → Int32} (hw : ∀ P : Int64 → SX → Prop, P (cv_e a b) (eN, sN, oL, fC, oC, wt, cK, cO, cR, rg', oP, oX, oY, oZ, lS, lT, lL, va, iu', sz', ke, en, fd, ou) → wpX_workOut P (eN, sN, oL, fC, oC, wt, cK, cO, cR, rg, oP, oX, oY, oZ, lS, lT, lL, va, iu, sz, ke, en, fd, ou) (nI e)) (ok : cv_s a b) (h1 : ¬ a = 1) (h : post (-1) (eN, sN, oL, fC, oC, wt, cK, cO, cR, rg', oP, oX, oY, oZ, lS, lT, lL, va, iu', sz', ke, en, fd, ou)) : wX_execute_102 post (nI s) 3 (nI e) eN sN oL fC oC wt cK cO cR rg oP oX oY oZ lS lT lL va iu sz ke en fd ou := by
  unfold wX_execute_102
  refine hw _ ?_
  refine br_f (cv_ne3 ok) (br_f (by decide) (br_f (by decide) (br_f (by decide) (br_f (by decide) (br_f (by decide) (br_t rfl ?_))))))
  unfold wpX_openLoop
  exact xv_intF ok h1 (br_t rfl h)
theorem x_loop {post : Int32 → SX → Prop} {E s e l : Nat} {b lim : Int32} {rg' : Nat → Int64} {iu' sz' : Nat → Int32} (hw : ∀ P : Int64 → SX → Prop, P (cv_e 1 b) (eN, sN, nI l, fC, oC, wt, cK, cO, cR, rg', oP, oX, oY, oZ, lS, lT, lL, va, iu', sz', ke, en, fd, ou) → wpX_workOut P (eN, sN, nI l, fC, oC, wt, cK, cO, cR, rg, oP, oX, oY, oZ, lS, lT, lL, va, iu, sz, ke, en, fd, ou) (nI e)) (hs : s < 14) (hst : tm_st E (oP s) (oX s) (oY s) (oZ s)) (hl : l < 2) (hlim : (b ≤ 5 ∧ lim = b) ∨ (¬ b ≤ 5 ∧ lim = 5)) (h : post (nI (tm_nm oP oY oZ s + 1)) (eN, sN, nI (l + 1), fC, oC, wt, cK, cO, cR, rg', oP, oX, oY, oZ, upd lS l (nI s), upd lT l 0, upd lL l lim, va, iu', sz', ke, en, fd, ou)) : wX_execute_102 post (nI s) 3 (nI e) eN sN (nI l) fC oC wt cK cO cR rg oP oX oY oZ lS lT lL va iu sz ke en fd ou := by
  have ok : cv_s 1 b := Or.inr (Or.inl rfl)
  have vl : vp_in (nI l) 2 := vp_in_nI hl (by decide)
  have cl : (nI l).toNatClampNeg = l := nI_clamp (by omega)
  have g1 : wX_openLoop_55 post (nI s) lim (nI l) eN sN (nI l) fC oC wt cK cO cR rg' oP oX oY oZ (upd lS l (nI s)) (upd lT l 0) lL va iu' sz' ke en fd ou := by
    unfold wX_openLoop_55
    refine ⟨vl, nm_r (by rw [cl]) (nm_r (nI_1 l) (xn_named hs hst ?_))⟩
    rw [nI_1]; exact h
  unfold wX_execute_102
  refine hw _ ?_
  refine br_f (cv_ne3 ok) (br_f (by decide) (br_f (by decide) (br_f (by decide) (br_f (by decide) (br_f (by decide) (br_t rfl ?_))))))
  unfold wpX_openLoop
  refine xv_intT ok rfl (br_f (by decide) (xv_num ok ⟨vl, nm_r (by rw [cl]) ⟨vl, nm_r (by rw [cl]) ?_⟩⟩))
  rcases hlim with ⟨q, rfl⟩ | ⟨q, rfl⟩
  · exact br_t q g1
  · exact br_f q g1
theorem x_put {post : Int32 → SX → Prop} {c s e1 e2 e3 : Nat} {g fd' : Nat → Int32} {V1 V2 V3 : Int64} {r1 r2 r3 : Nat → Int64} {i1 i2 i3 z1 z2 z3 : Nat → Int32} {b : Int32} {sz' ke' : Nat → Int32} {en' : Nat → Int64} (hcol : ∀ P : Int32 → SX → Prop, P (nI c) (eN, sN, oL, nI c, oC, wt, cK, cO, cR, rg, oP, oX, oY, oZ, lS, lT, lL, va, g, sz, ke, en, fd', ou) → wpX_collect P (eN, sN, oL, fC, oC, wt, cK, cO, cR, rg, oP, oX, oY, oZ, lS, lT, lL, va, iu, sz, ke, en, fd, ou)) (hc : c ≤ 8) (hs : s < 14) (ho : oP s = 1) (hx : oX s = nI e1) (hy : oY s = nI e2) (hz : oZ s = nI e3)
    (w1 : ∀ P : Int64 → SX → Prop, P V1 (eN, sN, oL, nI c, oC, wt, cK, cO, cR, r1, oP, oX, oY, oZ, lS, lT, lL, va, i1, z1, ke, en, fd', ou) → wpX_workOut P (eN, sN, oL, nI c, oC, wt, cK, cO, cR, rg, oP, oX, oY, oZ, lS, lT, lL, va, g, sz, ke, en, fd', ou) (nI e1))
    (w2 : ∀ P : Int64 → SX → Prop, P V2 (eN, sN, oL, nI c, oC, wt, cK, cO, cR, r2, oP, oX, oY, oZ, lS, lT, lL, va, i2, z2, ke, en, fd', ou) → wpX_workOut P (eN, sN, oL, nI c, oC, wt, cK, cO, cR, r1, oP, oX, oY, oZ, lS, lT, lL, va, i1, z1, ke, en, fd', ou) (nI e2))
    (w3 : ∀ P : Int64 → SX → Prop, P V3 (eN, sN, oL, nI c, oC, wt, cK, cO, cR, r3, oP, oX, oY, oZ, lS, lT, lL, va, i3, z3, ke, en, fd', ou) → wpX_workOut P (eN, sN, oL, nI c, oC, wt, cK, cO, cR, r2, oP, oX, oY, oZ, lS, lT, lL, va, i2, z2, ke, en, fd', ou) (nI e3))
    (wp : ∀ P : Int32 → SX → Prop, P b (eN, sN, oL, nI c, oC, wt, cK, cO, cR, r3, oP, oX, oY, oZ, lS, lT, lL, va, i3, sz', ke', en', fd', ou) → wpX_putEntry P (eN, sN, oL, nI c, oC, wt, cK, cO, cR, r3, oP, oX, oY, oZ, lS, lT, lL, va, i3, z3, ke, en, fd', ou) V1 V2 V3)
    (h0 : b = 0 → post (-1) (eN, sN, oL, nI c, oC, wt, cK, cO, cR, r3, oP, oX, oY, oZ, lS, lT, lL, va, i3, sz', ke', en', fd', ou)) (h1 : ¬ b = 0 → post (nI (s + 1)) (eN, sN, oL, nI c, oC, wt, cK, cO, cR, r3, oP, oX, oY, oZ, lS, lT, lL, va, i3, sz', ke', en', fd', ou)) : wpX_execute post (eN, sN, oL, fC, oC, wt, cK, cO, cR, rg, oP, oX, oY, oZ, lS, lT, lL, va, iu, sz, ke, en, fd, ou) (nI s) := by
  have vs14 : vp_in (nI s) 14 := vp_in_nI hs (by decide)
  have cs : (nI s).toNatClampNeg = s := nI_clamp (by omega)
  unfold wpX_execute
  refine hcol _ ?_
  refine br_t (nI_le (b := 8) hc (by decide)) ⟨vs14, nm_r (by rw [cs, ho]) (br_t rfl ⟨vs14, ?_⟩)⟩
  rw [cs, hx]
  refine w1 _ ⟨vs14, ?_⟩
  rw [hy]
  refine w2 _ ⟨vs14, ?_⟩
  rw [hz]
  refine w3 _ (wp _ ⟨h0, fun q => ?_⟩)
  rw [nI_1]; exact h1 q
/-! the reference -/
theorem y_go {post : Int32 → SY → Prop} {J : Int32 → Int32 → Int32 → Int32 → Int32 → Int32 → Int32 → Int32 → Int32 → (Nat → Int32) → (Nat → Int32) → (Nat → Int32) → (Nat → Int32) → (Nat → Int32) → (Nat → Int32) → (Nat → Int32) → (Nat → Int32) → (Nat → Int32) → (Nat → Int32) → (Nat → Int32) → (Nat → Int32) → (Nat → Int32) → (Nat → Int32) → (Nat → Int32) → (Nat → Int32) → (Nat → Int64) → (Nat → Int32) → (Nat → Int32) → (Nat → Int32) → (Nat → Int32) → (Nat → Int32) → (Nat → Int32) → (Nat → Int32) → Prop}
    {N c s k : Nat} {nx : Int32} {g sn' : Nat → Int32} {yC' dp' tp' fl' lo' : Int32} {vs' vn' zy' yK' es' eu' tk' wk' sg' so' nu' la' tu' lz' : Nat → Int32} {yO' : Nat → Int64}
    (hs : s < N) (hN : N ≤ 14) (hr : ∀ P : Int32 → SY → Prop, P (nI c) (yE, nI N, yC, dp, tp, fl, lo, kd, ex, ey, yW, yP, yX, yY, yZ, vs, vn, zy, yK, es, eu, tk, sn', yO, wk, sg, so, nu, la, tu, lz) → wpY_reach P (yE, nI N, yC, dp, tp, fl, lo, kd, ex, ey, yW, yP, yX, yY, yZ, vs, vn, zy, yK, es, eu, tk, sn, yO, wk, sg, so, nu, la, tu, lz)) (hc : c ≤ 8) (h01 : ∀ t, g t = 0 ∨ g t = 1) (hsn : ∀ t, t < 24 → sn' t = g t) (hg : ∀ t, 24 ≤ t → g t = 0) (htk : ∀ t, 24 ≤ t → tk t = 0)
    (hex : ∀ P : Int32 → SY → Prop, P nx (yE, nI N, yC', dp', tp', fl', lo', kd, ex, ey, yW, yP, yX, yY, yZ, vs', vn', zy', yK', es', eu', tk', sn', yO', wk', sg', so', nu', la', tu', lz') → wpY_execute P (yE, nI N, yC, dp, tp, fl, lo, kd, ex, ey, yW, yP, yX, yY, yZ, vs, vn, zy, yK, es, eu, g, sn', yO, wk, sg, so, nu, la, tu, lz) (nI s))
    (h0 : fl' = 0 → J nx (nI (k + 1)) yE (nI N) yC' dp' tp' fl' lo' kd ex ey yW yP yX yY yZ vs' vn' zy' yK' es' eu' tk' sn' yO' wk' sg' so' nu' la' tu' lz')
    (h1 : ¬ fl' = 0 → post (nI s) (yE, nI N, yC', dp', tp', fl', lo', kd, ex, ey, yW, yP, yX, yY, yZ, vs', vn', zy', yK', es', eu', tk', sn', yO', wk', sg', so', nu', la', tu', lz')) :
    wY_run_94 post J (nI s) (nI k) yE (nI N) yC dp tp fl lo kd ex ey yW yP yX yY yZ vs vn zy yK es eu tk sn yO wk sg so nu la tu lz := by
  have cp : ∀ d i : Nat, i + d = 24 → ∀ tk : Nat → Int32, (∀ t, t < i → tk t = g t) → (∀ t, 24 ≤ t → tk t = 0) → wY_run_118 post J (nI s) (nI k) yE (nI N) yC dp tp fl lo (d + 1) (nI i) kd ex ey yW yP yX yY yZ vs vn zy yK es eu tk sn' yO wk sg so nu la tu lz := by
    intro d
    induction d with
    | zero =>
      intro i hi tk a b
      obtain rfl : i = 24 := by omega
      have e : tk = g := funext fun t => by
        by_cases q : t < 24
        · exact a t q
        · rw [b t (by omega), hg t (by omega)]
      subst e
      exact br_t (by decide) (hex _ ⟨fun h => nm_r (nI_1 k) (h0 h), h1⟩)
    | succ d ih =>
      intro i hi tk a b
      have vi : vp_in (nI i) 24 := vp_in_nI (by omega) (by decide)
      have e : vp_nar .boolean (sn' i) = g i := by
        rw [hsn i (by omega)]
        rcases h01 i with h | h <;> rw [h]
        · exact cv_b0
        · exact cv_b1
      refine br_f (nI_ge (b := 24) (by omega) (by decide)) ⟨vi, vi, nm_r (by rw [nI_clamp (by omega), e]) (nm_r (nI_1 i) (ih (i + 1) (by omega) (upd tk i (g i)) (fun t ht => ?_) (fun t ht => ?_)))⟩
      · by_cases q : t = i
        · subst q; exact pk_us
        · rw [pk_un q]; exact a t (by omega)
      · rw [pk_un (by omega)]; exact b t ht
  unfold wY_run_94
  refine br_t (nI_lt hs (by omega)) (hr _ ?_)
  exact br_t (nI_le (b := 8) hc (by decide)) ⟨_, cp 24 0 (by decide) tk (fun t ht => by omega) htk⟩
theorem y_full {post : Int32 → SY → Prop} {J : Int32 → Int32 → Int32 → Int32 → Int32 → Int32 → Int32 → Int32 → Int32 → (Nat → Int32) → (Nat → Int32) → (Nat → Int32) → (Nat → Int32) → (Nat → Int32) → (Nat → Int32) → (Nat → Int32) → (Nat → Int32) → (Nat → Int32) → (Nat → Int32) → (Nat → Int32) → (Nat → Int32) → (Nat → Int32) → (Nat → Int32) → (Nat → Int32) → (Nat → Int32) → (Nat → Int64) → (Nat → Int32) → (Nat → Int32) → (Nat → Int32) → (Nat → Int32) → (Nat → Int32) → (Nat → Int32) → (Nat → Int32) → Prop}
    {N c s k : Nat} {sn' : Nat → Int32} (hs : s < N) (hN : N ≤ 14) (hr : ∀ P : Int32 → SY → Prop, P (nI c) (yE, nI N, yC, dp, tp, fl, lo, kd, ex, ey, yW, yP, yX, yY, yZ, vs, vn, zy, yK, es, eu, tk, sn', yO, wk, sg, so, nu, la, tu, lz) → wpY_reach P (yE, nI N, yC, dp, tp, fl, lo, kd, ex, ey, yW, yP, yX, yY, yZ, vs, vn, zy, yK, es, eu, tk, sn, yO, wk, sg, so, nu, la, tu, lz)) (hc : 8 < c) (hc2 : c ≤ 24) (h : post (nI s) (yE, nI N, yC, dp, tp, fl, lo, kd, ex, ey, yW, yP, yX, yY, yZ, vs, vn, zy, yK, es, eu, tk, sn', yO, wk, sg, so, nu, la, tu, lz)) : wY_run_94 post J (nI s) (nI k) yE (nI N) yC dp tp fl lo kd ex ey yW yP yX yY yZ vs vn zy yK es eu tk sn yO wk sg so nu la tu lz := by
  unfold wY_run_94
  refine br_t (nI_lt hs (by omega)) (hr _ ?_)
  exact br_f (nI_ge (a := 8) hc (by omega)) h
/-- a statement of one expression, up to the answer of work -/
theorem y_one {post : Int32 → SY → Prop} {s e : Nat} {op : Int32} {dp' tp' fl' : Int32} {zy' tk' wk' sg' so' nu' : Nat → Int32} (hs : s < 14) (ho : yP s = op) (hz : ((op = 0 ∨ op = 3) ∧ yY s = nI e) ∨ ((op = 2 ∨ op = 4) ∧ yX s = nI e))
    (hw : ∀ P : SY → Prop, P (yE, yN, yC, dp', tp', fl', lo, kd, ex, ey, yW, yP, yX, yY, yZ, vs, vn, zy', yK, es, eu, tk', sn, yO, wk', sg', so', nu', la, tu, lz) → wpY_work P (yE, yN, yC, dp, nI 0, fl, lo, kd, ex, ey, yW, yP, yX, yY, yZ, vs, vn, zy, yK, es, eu, tk, sn, yO, wk, sg, so, nu, la, tu, lz) (nI e)) (h : wY_execute_99 post (nI s) yE yN yC dp' tp' fl' lo kd ex ey yW yP yX yY yZ vs vn zy' yK es eu tk' sn yO wk' sg' so' nu' la tu lz) : wpY_execute post (yE, yN, yC, dp, tp, fl, lo, kd, ex, ey, yW, yP, yX, yY, yZ, vs, vn, zy, yK, es, eu, tk, sn, yO, wk, sg, so, nu, la, tu, lz) (nI s) := by
  have v14 : vp_in (nI s) 14 := vp_in_nI hs (by decide)
  have cs : (nI s).toNatClampNeg = s := nI_clamp (by omega)
  have n1 : ¬ yP (nI s).toNatClampNeg = 1 := by
    rw [cs, ho]
    rcases hz with ⟨h | h, _⟩ | ⟨h | h, _⟩ <;> rw [h] <;> decide
  have g39 : wY_execute_39 post (nI s) (nI e) yE yN yC dp (nI 0) fl lo kd ex ey yW yP yX yY yZ vs vn zy yK es eu tk sn yO wk sg so nu la tu lz := by
    unfold wY_execute_39
    refine hw _ ⟨v14, br_f n1 ⟨v14, br_f n1 h⟩⟩
  unfold wpY_execute
  refine ⟨v14, ?_⟩
  rw [cs, ho]
  rcases hz with ⟨hop, hy⟩ | ⟨hop, hx⟩
  · have g24 : wY_execute_24 post (nI s) yE yN yC dp (nI 0) fl lo kd ex ey yW yP yX yY yZ vs vn zy yK es eu tk sn yO wk sg so nu la tu lz := by
      unfold wY_execute_24
      refine ⟨v14, ?_⟩
      rw [cs, hy]; exact g39
    rcases hop with hop | hop
    · exact br_t hop g24
    · exact br_f (by rw [hop]; decide) ⟨v14, br_t hop g24⟩
  · refine br_f (by rcases hop with h | h <;> rw [h] <;> decide) ⟨v14, br_f (by rcases hop with h | h <;> rw [h] <;> decide) ⟨v14, ?_⟩⟩
    rw [hx]; exact g39
theorem y_fail {post : Int32 → SY → Prop} {s : Nat} (h : post (nI s) (yE, yN, yC, dp, tp, 1, lo, kd, ex, ey, yW, yP, yX, yY, yZ, vs, vn, zy, yK, es, eu, tk, sn, yO, wk, sg, so, nu, la, tu, lz)) : wY_execute_99 post (nI s) yE yN yC dp tp 1 lo kd ex ey yW yP yX yY yZ vs vn zy yK es eu tk sn yO wk sg so nu la tu lz := by
  unfold wY_execute_99
  exact br_f (by decide) h
theorem y_set {post : SY → Prop} {v : Nat} {a b : Int32} (hv : v < 6) (h : post (yE, yN, yC, dp, tp, fl, lo, kd, ex, ey, yW, yP, yX, yY, yZ, upd vs v a, upd vn v b, zy, yK, es, eu, tk, sn, yO, wk, sg, so, nu, la, tu, lz)) : wpY_set post (yE, yN, yC, dp, tp, fl, lo, kd, ex, ey, yW, yP, yX, yY, yZ, vs, vn, zy, yK, es, eu, tk, sn, yO, wk, sg, so, nu, la, tu, lz) (nI v) a b := by
  have vv : vp_in (nI v) 6 := vp_in_nI hv (by decide)
  have cv : (nI v).toNatClampNeg = v := nI_clamp (by omega)
  unfold wpY_set
  exact ⟨vv, nm_r (by rw [cv]) ⟨vv, nm_r (by rw [cv]) h⟩⟩
theorem y_let {post : Int32 → SY → Prop} {s v : Nat} (hs : s < 14) (ho : yP s = 0) (hv : v < 6) (hx : yX s = nI v) (h : post (nI (s + 1)) (yE, yN, yC, dp, tp, 0, lo, kd, ex, ey, yW, yP, yX, yY, yZ, upd vs v (so 0), upd vn v (nu 0), zy, yK, es, eu, tk, sn, yO, wk, sg, so, nu, la, tu, lz)) : wY_execute_99 post (nI s) yE yN yC dp tp 0 lo kd ex ey yW yP yX yY yZ vs vn zy yK es eu tk sn yO wk sg so nu la tu lz := by
  have v14 : vp_in (nI s) 14 := vp_in_nI hs (by decide)
  have cs : (nI s).toNatClampNeg = s := nI_clamp (by omega)
  have nq : ∀ j : Int32, ¬ j = 0 → ¬ yP (nI s).toNatClampNeg = j := fun j hj z => hj (by rw [← z, cs, ho])
  unfold wY_execute_99
  refine br_t rfl ⟨v14, br_t (by rw [cs]; exact ho) ⟨v14, ?_⟩⟩
  rw [cs, hx]
  refine y_set hv ⟨v14, br_f (nq 1 (by decide)) ⟨v14, br_f (nq 2 (by decide)) ⟨v14, br_f (nq 4 (by decide)) ⟨v14, br_f (nq 3 (by decide)) ?_⟩⟩⟩⟩
  rw [nI_1]; exact h
theorem y_if {post : Int32 → SY → Prop} {E s nx : Nat} (hs : s < 14) (ho : yP s = 2) (hst : tm_st E (yP s) (yX s) (yY s) (yZ s)) (hn : (so 0 = 0 ∧ nx = tm_nm yP yY yZ s + 1) ∨ (¬ so 0 = 0 ∧ nx = s + 1)) (h : post (nI nx) (yE, yN, yC, dp, tp, 0, lo, kd, ex, ey, yW, yP, yX, yY, yZ, vs, vn, zy, yK, es, eu, tk, sn, yO, wk, sg, so, nu, la, tu, lz)) : wY_execute_99 post (nI s) yE yN yC dp tp 0 lo kd ex ey yW yP yX yY yZ vs vn zy yK es eu tk sn yO wk sg so nu la tu lz := by
  have v14 : vp_in (nI s) 14 := vp_in_nI hs (by decide)
  have cs : (nI s).toNatClampNeg = s := nI_clamp (by omega)
  have nq : ∀ j : Int32, ¬ j = 2 → ¬ yP (nI s).toNatClampNeg = j := fun j hj z => hj (by rw [← z, cs, ho])
  unfold wY_execute_99
  refine br_t rfl ⟨v14, br_f (nq 0 (by decide)) ⟨v14, br_f (nq 1 (by decide)) ⟨v14, br_t (by rw [cs]; exact ho) ?_⟩⟩⟩
  rcases hn with ⟨h0, rfl⟩ | ⟨h0, rfl⟩
  · refine br_t h0 (yn_named hs hst ?_)
    rw [nI_1]; exact h
  · refine br_f h0 ⟨v14, br_f (nq 4 (by decide)) ⟨v14, br_f (nq 3 (by decide)) ?_⟩⟩
    rw [nI_1]; exact h
theorem y_show {post : Int32 → SY → Prop} {s : Nat} {yC' : Int32} {yO' : Nat → Int64} (hs : s < 14) (ho : yP s = 4) (hsh : ∀ P : SY → Prop, P (yE, yN, yC', dp, tp, 0, lo, kd, ex, ey, yW, yP, yX, yY, yZ, vs, vn, zy, yK, es, eu, tk, sn, yO', wk, sg, so, nu, la, tu, lz) → wpY_show P (yE, yN, yC, dp, tp, 0, lo, kd, ex, ey, yW, yP, yX, yY, yZ, vs, vn, zy, yK, es, eu, tk, sn, yO, wk, sg, so, nu, la, tu, lz)) (h : post (nI (s + 1)) (yE, yN, yC', dp, tp, 0, lo, kd, ex, ey, yW, yP, yX, yY, yZ, vs, vn, zy, yK, es, eu, tk, sn, yO', wk, sg, so, nu, la, tu, lz)) : wY_execute_99 post (nI s) yE yN yC dp tp 0 lo kd ex ey yW yP yX yY yZ vs vn zy yK es eu tk sn yO wk sg so nu la tu lz := by
  have v14 : vp_in (nI s) 14 := vp_in_nI hs (by decide)
  have cs : (nI s).toNatClampNeg = s := nI_clamp (by omega)
  have nq : ∀ j : Int32, ¬ j = 4 → ¬ yP (nI s).toNatClampNeg = j := fun j hj z => hj (by rw [← z, cs, ho])
  unfold wY_execute_99
  refine br_t rfl ⟨v14, br_f (nq 0 (by decide)) ⟨v14, br_f (nq 1 (by decide)) ⟨v14, br_f (nq 2 (by decide)) ⟨v14, br_t (by rw [cs]; exact ho) (hsh _ ⟨v14, br_f (nq 3 (by decide)) ?_⟩)⟩⟩⟩⟩
  rw [nI_1]; exact h
theorem y_194 {post : Int32 → SY → Prop} {s : Nat} (hs : s < 14) (ho : yP s = 3) (h : wY_execute_194 post (nI s) yE yN yC dp tp 0 lo kd ex ey yW yP yX yY yZ vs vn zy yK es eu tk sn yO wk sg so nu la tu lz) : wY_execute_99 post (nI s) yE yN yC dp tp 0 lo kd ex ey yW yP yX yY yZ vs vn zy yK es eu tk sn yO wk sg so nu la tu lz := by
  have v14 : vp_in (nI s) 14 := vp_in_nI hs (by decide)
  have cs : (nI s).toNatClampNeg = s := nI_clamp (by omega)
  have nq : ∀ j : Int32, ¬ j = 3 → ¬ yP (nI s).toNatClampNeg = j := fun j hj z => hj (by rw [← z, cs, ho])
  unfold wY_execute_99
  exact br_t rfl ⟨v14, br_f (nq 0 (by decide)) ⟨v14, br_f (nq 1 (by decide)) ⟨v14, br_f (nq 2 (by decide)) ⟨v14, br_f (nq 4 (by decide)) h⟩⟩⟩⟩
theorem y_loopF {post : Int32 → SY → Prop} {s : Nat} (hs : s < 14) (ho : yP s = 3) (h1 : ¬ so 0 = 1) (h : post (nI (s + 1)) (yE, yN, yC, dp, tp, 1, lo, kd, ex, ey, yW, yP, yX, yY, yZ, vs, vn, zy, yK, es, eu, tk, sn, yO, wk, sg, so, nu, la, tu, lz)) : wY_execute_99 post (nI s) yE yN yC dp tp 0 lo kd ex ey yW yP yX yY yZ vs vn zy yK es eu tk sn yO wk sg so nu la tu lz := by
  refine y_194 hs ho ⟨vp_in_nI hs (by decide), br_t (by rw [nI_clamp (by omega)]; exact ho) (br_f h1 ?_)⟩
  rw [nI_1]; exact h
theorem y_loop0 {post : Int32 → SY → Prop} {E s : Nat} (hs : s < 14) (ho : yP s = 3) (hst : tm_st E (yP s) (yX s) (yY s) (yZ s)) (h1 : so 0 = 1) (hn : ¬ 1 ≤ nu 0) (h : post (nI (tm_nm yP yY yZ s + 1)) (yE, yN, yC, dp, tp, 0, lo, kd, ex, ey, yW, yP, yX, yY, yZ, vs, vn, zy, yK, es, eu, tk, sn, yO, wk, sg, so, nu, la, tu, lz)) : wY_execute_99 post (nI s) yE yN yC dp tp 0 lo kd ex ey yW yP yX yY yZ vs vn zy yK es eu tk sn yO wk sg so nu la tu lz := by
  refine y_194 hs ho ⟨vp_in_nI hs (by decide), br_t (by rw [nI_clamp (by omega)]; exact ho) (br_t h1 (br_f hn (yn_named hs hst ?_)))⟩
  rw [nI_1]; exact h
theorem y_loop1 {post : Int32 → SY → Prop} {s l v : Nat} {lim : Int32} (hs : s < 14) (ho : yP s = 3) (h1 : so 0 = 1) (hn : 1 ≤ nu 0) (hl : l < 2) (hv : v < 6) (hx : yX s = nI v) (hlim : (nu 0 ≤ 5 ∧ lim = nu 0) ∨ (¬ nu 0 ≤ 5 ∧ lim = 5)) (h : post (nI (s + 1)) (yE, yN, yC, dp, tp, 0, nI (l + 1), kd, ex, ey, yW, yP, yX, yY, yZ, upd vs v 1, upd vn v 1, zy, yK, es, eu, tk, sn, yO, wk, sg, so, nu, upd la l (nI s), upd tu l 1, upd lz l lim)) : wY_execute_99 post (nI s) yE yN yC dp tp 0 (nI l) kd ex ey yW yP yX yY yZ vs vn zy yK es eu tk sn yO wk sg so nu la tu lz := by
  have v14 : vp_in (nI s) 14 := vp_in_nI hs (by decide)
  have vl : vp_in (nI l) 2 := vp_in_nI hl (by decide)
  have cl : (nI l).toNatClampNeg = l := nI_clamp (by omega)
  have cs : (nI s).toNatClampNeg = s := nI_clamp (by omega)
  have g1 : wY_execute_288 post (nI s) lim (nI l) yE yN yC dp tp 0 (nI l) kd ex ey yW yP yX yY yZ vs vn zy yK es eu tk sn yO wk sg so nu (upd la l (nI s)) (upd tu l 1) lz := by
    unfold wY_execute_288
    refine ⟨vl, nm_r (by rw [cl]) (nm_r (nI_1 l) ⟨v14, ?_⟩)⟩
    rw [cs, hx]
    refine y_set hv ?_
    dsimp only
    rw [nI_1]; exact h
  refine y_194 hs ho ⟨v14, br_t (by rw [cs]; exact ho) (br_t h1 (br_t hn ⟨vl, nm_r (by rw [cl]) ⟨vl, nm_r (by rw [cl]) ?_⟩⟩))⟩
  rcases hlim with ⟨q, rfl⟩ | ⟨q, rfl⟩
  · exact br_t q g1
  · exact br_f q g1
end
end
section
/-! PUT and SHOW on both sides -/
theorem tm_put {g sz zy sz' zy' vs vn es eu : Nat → Int32} {p i m m' : Nat} {a b : Int32} (H : tm_HO g sz zy vs vn es eu) (hp : ¬ g p = 0) (hm : sz p = nI m) (hm6 : m ≤ 6) (hm' : m' ≤ 6) (hi : i < 6) (hs : sz' p = nI m') (hy : zy' p = nI m') (hso : ∀ t, t ≠ p → sz' t = sz t ∧ zy' t = zy t) (ok : cv_ok g a b) (hj : ∀ j, j < m' → j ≠ i → j < m) : tm_HO g sz' zy' vs vn (upd es (6 * p + i) a) (upd eu (6 * p + i) b) := by
  refine ⟨fun t ht => ?_, fun t j n ht hz hn hjn => ?_, H.2.2⟩
  · by_cases e : t = p
    · subst e; exact ⟨(H.1 t ht).1, by rw [hs, hy], m', hm', hs⟩
    · rw [(hso t e).1, (hso t e).2]; exact H.1 t ht
  · by_cases e : t = p
    · subst e
      have en : m' = n := (nI_eq (by omega) (by omega)).mp (hs.symm.trans hz)
      subst en
      by_cases e2 : j = i
      · subst e2; rw [pk_us, pk_us]; exact ok
      · rw [pk_un (by omega), pk_un (by omega)]
        exact H.2.1 t j m ht hm hm6 (hj j hjn e2)
    · rw [(hso t e).1] at hz
      rw [pk_un (by omega), pk_un (by omega)]
      exact H.2.1 t j n ht hz hn hjn
section
variable {eN sN oL fC oC : Int32} {wt cK cO cR : Nat → Int32} {rg : Nat → Int64} {oP oX oY oZ lS lT lL : Nat → Int32} {va : Nat → Int64} {iu sz ke : Nat → Int32} {en : Nat → Int64} {fd : Nat → Int32} {ou : Nat → Int64} {yE yN yC dp tp fl lo : Int32} {kd ex ey yW yP yX yY yZ vs vn zy yK es eu tk sn : Nat → Int32} {yO : Nat → Int64} {wk sg so nu la tu lz : Nat → Int32}
theorem lk_put {g : Nat → Int32} {s0 n0 s1 n1 s2 n2 : Int32} (H : tm_HO g sz zy vs vn es eu) (ok0 : cv_ok g s0 n0) (ok1 : cv_ok g s1 n1) (ok2 : cv_ok g s2 n2) (a0 : so 0 = s0) (b0 : nu 0 = n0) (a1 : so 1 = s1) (b1 : nu 1 = n1) (a2 : so 2 = s2) (b2 : nu 2 = n2) :
    ∃ (b fl' : Int32) (sz' zy' ke' es' eu' : Nat → Int32), tm_HO g sz' zy' vs vn es' eu' ∧ ((b = 0 ∧ fl' = 1) ∨ (b = 1 ∧ fl' = 0)) ∧
      (∀ post : Int32 → SX → Prop, post b (eN, sN, oL, fC, oC, wt, cK, cO, cR, rg, oP, oX, oY, oZ, lS, lT, lL, va, iu, sz', ke', cv_f es' eu', fd, ou) → wpX_putEntry post (eN, sN, oL, fC, oC, wt, cK, cO, cR, rg, oP, oX, oY, oZ, lS, lT, lL, va, iu, sz, ke, cv_f es eu, fd, ou) (cv_e s0 n0) (cv_e s1 n1) (cv_e s2 n2)) ∧
      (∀ post : SY → Prop, post (yE, yN, yC, dp, tp, fl', lo, kd, ex, ey, yW, yP, yX, yY, yZ, vs, vn, zy', ke', es', eu', tk, sn, yO, wk, sg, so, nu, la, tu, lz) → wpY_put post (yE, yN, yC, dp, tp, 0, lo, kd, ex, ey, yW, yP, yX, yY, yZ, vs, vn, zy, ke, es, eu, tk, sn, yO, wk, sg, so, nu, la, tu, lz)) := by
  have c0 := cv_ok_s ok0
  have c1 := cv_ok_s ok1
  have c2 := cv_ok_s ok2
  by_cases t0 : s0 = 2
  rotate_left
  · refine ⟨0, 1, sz, zy, ke, es, eu, H, Or.inl ⟨rfl, rfl⟩, fun post hp => ?_, fun post hp => ?_⟩
    · unfold wpX_putEntry
      exact xv_tabF c0 t0 (br_t rfl hp)
    · unfold wpY_put
      exact br_f (by rw [a0]; exact t0) hp
  by_cases t1 : s1 = 1
  rotate_left
  · refine ⟨0, 1, sz, zy, ke, es, eu, H, Or.inl ⟨rfl, rfl⟩, fun post hp => ?_, fun post hp => ?_⟩
    · unfold wpX_putEntry
      exact xv_tabT c0 t0 (br_f (by decide) (xv_intF c1 t1 (br_t rfl hp)))
    · unfold wpY_put
      exact br_t (by rw [a0]; exact t0) (br_f (by rw [a1]; exact t1) hp)
  refine tm_kind ok0 (fun a _ => absurd (a.symm.trans t0) (by decide)) (fun a => absurd (a.symm.trans t0) (by decide)) (fun p _ hp20 hnp hU => ?_)
  subst hnp
  obtain ⟨_, hzy, m, hm, hz⟩ := H.1 p hU
  have hzy' : zy p = nI m := hzy.trans hz
  obtain ⟨r, hr, fX, fY⟩ := fe_find (ke := ke) n1 hp20 hm hz hzy'
  have vp20 : vp_in (nI p) 20 := vp_in_nI hp20 (by decide)
  have vp24 : vp_in (nI p) 24 := vp_in_nI (by omega) (by decide)
  have cp : (nI p).toNatClampNeg = p := nI_clamp (by omega)
  have endY : (6 : Int32) * nI p + zy (nI p).toNatClampNeg = nI (6 * p + m) := by
    rw [cp, hzy', show (6 : Int32) = nI 6 from rfl, pk_mul, nI_add]
  have gX : ∀ {post : Int32 → SX → Prop} {b : Int32} {sz' ke' : Nat → Int32} {en' : Nat → Int64}, (post b (eN, sN, oL, fC, oC, wt, cK, cO, cR, rg, oP, oX, oY, oZ, lS, lT, lL, va, iu, sz', ke', en', fd, ou) → (((cv_e s2 n2) = 0 → (wpX_removeEntry (fun u => match u with | (eN, sN, oL, fC, oC, wt, cK, cO, cR, rg, oP, oX, oY, oZ, lS, lT, lL, va, iu, sz, ke, en, fd, ou) => (post 1 (eN, sN, oL, fC, oC, wt, cK, cO, cR, rg, oP, oX, oY, oZ, lS, lT, lL, va, iu, sz, ke, en, fd, ou))) (eN, sN, oL, fC, oC, wt, cK, cO, cR, rg, oP, oX, oY, oZ, lS, lT, lL, va, iu, sz, ke, cv_f es eu, fd, ou) (nI p) r)) ∧ (¬ (cv_e s2 n2) = 0 → (((r = (-1) → (vp_in (nI p) 20 ∧ ((((sz (nI p).toNatClampNeg) < 6 → (vp_in (nI p) 20 ∧ (∀ x9_42 : Int32, x9_42 = ((nI p) * 6) + (sz (nI p).toNatClampNeg) → (vp_in (nI p) 20 ∧ (vp_in (nI p) 20 ∧ ∀ a_sizes_45 : Nat → Int32, a_sizes_45 = upd sz (nI p).toNatClampNeg ((sz (nI p).toNatClampNeg) + 1) → (wX_putEntry_110 post (cv_e s2 n2) n1 x9_42 eN sN oL fC oC wt cK cO cR rg oP oX oY oZ lS lT lL va iu a_sizes_45 ke (cv_f es eu) fd ou)))))) ∧ (¬ (sz (nI p).toNatClampNeg) < 6 → (post 0 (eN, sN, oL, fC, oC, wt, cK, cO, cR, rg, oP, oX, oY, oZ, lS, lT, lL, va, iu, sz, ke, cv_f es eu, fd, ou))))))) ∧ (¬ r = (-1) → (wX_putEntry_110 post (cv_e s2 n2) n1 r eN sN oL fC oC wt cK cO cR rg oP oX oY oZ lS lT lL va iu sz ke (cv_f es eu) fd ou))))))) → post b (eN, sN, oL, fC, oC, wt, cK, cO, cR, rg, oP, oX, oY, oZ, lS, lT, lL, va, iu, sz', ke', en', fd, ou) → wpX_putEntry post (eN, sN, oL, fC, oC, wt, cK, cO, cR, rg, oP, oX, oY, oZ, lS, lT, lL, va, iu, sz, ke, cv_f es eu, fd, ou) (cv_e s0 (nI p)) (cv_e s1 n1) (cv_e s2 n2) := by
    intro post b sz' ke' en' h hp
    unfold wpX_putEntry
    refine xv_tabT c0 t0 (br_f (by decide) (xv_intT c1 t1 (br_f (by decide) (br_f (cv_ne3 c2) (xv_num c0 (xv_num c1 ?_))))))
    exact fX _ (h hp)
  have gY : ∀ {post : SY → Prop}, (((s2 = 0 → (((0 ≤ r → (vp_in (nI p) 24 ∧ (vp_in (nI p) 24 ∧ ∀ a_size_56 : Nat → Int32, a_size_56 = upd zy (nI p).toNatClampNeg ((zy (nI p).toNatClampNeg) - 1) → (vp_in (nI (6 * p + m) - 1) 144 ∧ (vp_in r 144 ∧ ∀ a_keys_59 : Nat → Int32, a_keys_59 = upd ke r.toNatClampNeg (ke (nI (6 * p + m) - 1).toNatClampNeg) → (vp_in (nI (6 * p + m) - 1) 144 ∧ (vp_in r 144 ∧ ∀ a_entrySorts_62 : Nat → Int32, a_entrySorts_62 = upd es r.toNatClampNeg (es (nI (6 * p + m) - 1).toNatClampNeg) → (vp_in (nI (6 * p + m) - 1) 144 ∧ (vp_in r 144 ∧ ∀ a_entryNumbers_65 : Nat → Int32, a_entryNumbers_65 = upd eu r.toNatClampNeg (eu (nI (6 * p + m) - 1).toNatClampNeg) → (post (yE, yN, yC, dp, tp, 0, lo, kd, ex, ey, yW, yP, yX, yY, yZ, vs, vn, a_size_56, a_keys_59, a_entrySorts_62, a_entryNumbers_65, tk, sn, yO, wk, sg, so, nu, la, tu, lz))))))))))) ∧ (¬ 0 ≤ r → (post (yE, yN, yC, dp, tp, 0, lo, kd, ex, ey, yW, yP, yX, yY, yZ, vs, vn, zy, ke, es, eu, tk, sn, yO, wk, sg, so, nu, la, tu, lz)))))) ∧ (¬ s2 = 0 → (((0 ≤ r → (wY_put_149 post (nI p) r (nI (6 * p + m)) yE yN yC dp tp 0 lo kd ex ey yW yP yX yY yZ vs vn zy ke es eu tk sn yO wk sg so nu la tu lz)) ∧ (¬ 0 ≤ r → (vp_in (nI p) 24 ∧ ((((zy (nI p).toNatClampNeg) = 6 → (post (yE, yN, yC, dp, tp, 1, lo, kd, ex, ey, yW, yP, yX, yY, yZ, vs, vn, zy, ke, es, eu, tk, sn, yO, wk, sg, so, nu, la, tu, lz))) ∧ (¬ (zy (nI p).toNatClampNeg) = 6 → (wY_put_149 post (nI p) r (nI (6 * p + m)) yE yN yC dp tp 0 lo kd ex ey yW yP yX yY yZ vs vn zy ke es eu tk sn yO wk sg so nu la tu lz))))))))))) → wpY_put post (yE, yN, yC, dp, tp, 0, lo, kd, ex, ey, yW, yP, yX, yY, yZ, vs, vn, zy, ke, es, eu, tk, sn, yO, wk, sg, so, nu, la, tu, lz) := by
    intro post h
    unfold wpY_put
    refine br_t (by rw [a0]; exact t0) (br_t (by rw [a1]; exact t1) (nm_r b0 ?_))
    rw [b1]
    refine fY _ ⟨vp24, nm_r endY ?_⟩
    rw [a2]
    exact h
  by_cases t2 : s2 = 0
  · have v0 : cv_e s2 n2 = 0 := (cv_0 c2).mpr t2
    rcases hr with rfl | ⟨i, hi, rfl⟩
    · refine ⟨1, 0, sz, zy, ke, es, eu, H, Or.inr ⟨rfl, rfl⟩, fun post hp => gX (fun hp => ?_) hp, fun post hp => gY ?_⟩
      · exact br_t v0 (br_t rfl hp)
      · exact br_t t2 (br_f (by decide) hp)
    · obtain ⟨M, rfl⟩ : ∃ M, m = M + 1 := ⟨m - 1, by omega⟩
      have ok := H.2.1 p M (M + 1) hU hz hm (by omega)
      have vr120 : vp_in (nI (6 * p + i)) 120 := vp_in_nI (by omega) (by decide)
      have vr144 : vp_in (nI (6 * p + i)) 144 := vp_in_nI (by omega) (by decide)
      have cr : (nI (6 * p + i)).toNatClampNeg = 6 * p + i := nI_clamp (by omega)
      have lastX : nI p * 6 + upd sz p (nI M) (nI p).toNatClampNeg = nI (6 * p + M) := by
        rw [cp, pk_us, show nI p * 6 = nI (p * 6) from pk_mul p 6, nI_add, Nat.mul_comm]
      have cl : (nI (6 * p + M)).toNatClampNeg = 6 * p + M := nI_clamp (by omega)
      have lastY : nI (6 * p + (M + 1)) - 1 = nI (6 * p + M) := nI_pred (6 * p + M)
      have vl144 : vp_in (nI (6 * p + M)) 144 := vp_in_nI (by omega) (by decide)
      have vl120 : vp_in (nI (6 * p + M)) 120 := vp_in_nI (by omega) (by decide)
      refine ⟨1, 0, upd sz p (nI M), upd zy p (nI M), upd ke (6 * p + i) (ke (6 * p + M)), upd es (6 * p + i) (es (6 * p + M)), upd eu (6 * p + i) (eu (6 * p + M)), tm_put H hU hz hm (m' := M) (by omega) (by omega) pk_us pk_us (fun t e => ⟨pk_un e, pk_un e⟩) ok (fun j hj _ => by omega), Or.inr ⟨rfl, rfl⟩, fun post hp => gX (fun hp => ?_) hp, fun post hp => gY ?_⟩
      · refine br_t v0 ?_
        unfold wpX_removeEntry
        refine br_f ?_ ⟨vp20, vp20, nm_r (by rw [cp, hz, nI_pred]) ⟨vp20, nm_r lastX ⟨vl120, vr120, nm_r (by rw [cr, cl]) ⟨vl120, vr120, nm_r (e' := cv_f (upd es (6 * p + i) (es (6 * p + M))) (upd eu (6 * p + i) (eu (6 * p + M)))) (by rw [cr, cl, ← cv_fu]; rfl) hp⟩⟩⟩⟩
        intro z
        have := congrArg Int32.toInt z
        rw [nI_toInt (by omega), show (-1 : Int32).toInt = -1 from by decide] at this
        omega
      · rw [lastY]
        exact br_t t2 (br_t (nI_pos' (by omega)) ⟨vp24, vp24, nm_r (by rw [cp, hzy', nI_pred]) ⟨vl144, vr144, nm_r (by rw [cr, cl]) ⟨vl144, vr144, nm_r (by rw [cr, cl]) ⟨vl144, vr144, nm_r (by rw [cr, cl]) hp⟩⟩⟩⟩)
  · have v0 : ¬ cv_e s2 n2 = 0 := fun z => t2 ((cv_0 c2).mp z)
    rcases hr with rfl | ⟨i, hi, rfl⟩
    · by_cases m6 : m = 6
      · subst m6
        refine ⟨0, 1, sz, zy, ke, es, eu, H, Or.inl ⟨rfl, rfl⟩, fun post hp => gX (fun hp => ?_) hp, fun post hp => gY ?_⟩
        · exact br_f v0 (br_t rfl ⟨vp20, br_f (by rw [cp, hz]; decide) hp⟩)
        · exact br_f t2 (br_f (by decide) ⟨vp24, br_t (by rw [cp, hzy']; rfl) hp⟩)
      · have vr120 : vp_in (nI (6 * p + m)) 120 := vp_in_nI (by omega) (by decide)
        have vr144 : vp_in (nI (6 * p + m)) 144 := vp_in_nI (by omega) (by decide)
        have cr : (nI (6 * p + m)).toNatClampNeg = 6 * p + m := nI_clamp (by omega)
        have atX : nI p * 6 + sz (nI p).toNatClampNeg = nI (6 * p + m) := by
          rw [cp, hz, show nI p * 6 = nI (p * 6) from pk_mul p 6, nI_add, Nat.mul_comm]
        refine ⟨1, 0, upd sz p (nI (m + 1)), upd zy p (nI (m + 1)), upd ke (6 * p + m) n1, upd es (6 * p + m) s2, upd eu (6 * p + m) n2, tm_put H hU hz hm (m' := m + 1) (by omega) (by omega) pk_us pk_us (fun t e => ⟨pk_un e, pk_un e⟩) ok2 (fun j hj _ => by omega), Or.inr ⟨rfl, rfl⟩, fun post hp => gX (fun hp => ?_) hp, fun post hp => gY ?_⟩
        · refine br_f v0 (br_t rfl ⟨vp20, br_t (by rw [cp, hz]; exact nI_lt (b := 6) (by omega) (by decide)) ⟨vp20, nm_r atX ⟨vp20, vp20, nm_r (by rw [cp, hz, nI_1]) ?_⟩⟩⟩)
          unfold wX_putEntry_110
          exact ⟨vr120, nm_r (by rw [cr]) ⟨vr120, nm_r (by rw [cr, cv_fu]) hp⟩⟩
        · refine br_f t2 (br_f (by decide) ⟨vp24, br_f ?_ ?_⟩)
          · rw [cp, hzy']
            intro z
            exact m6 ((nI_eq (b := 6) (by omega) (by decide)).mp z)
          · unfold wY_put_149
            refine br_f (by decide) ⟨vp24, vp24, nm_r (by rw [cp, hzy', nI_1]) (br_f (by decide) ?_)⟩
            unfold wY_put_172
            rw [b1, a2, b2]
            exact ⟨vr144, nm_r (by rw [cr]) ⟨vr144, nm_r (by rw [cr]) ⟨vr144, nm_r (by rw [cr]) hp⟩⟩⟩
    · have vr120 : vp_in (nI (6 * p + i)) 120 := vp_in_nI (by omega) (by decide)
      have vr144 : vp_in (nI (6 * p + i)) 144 := vp_in_nI (by omega) (by decide)
      have cr : (nI (6 * p + i)).toNatClampNeg = 6 * p + i := nI_clamp (by omega)
      refine ⟨1, 0, sz, zy, upd ke (6 * p + i) n1, upd es (6 * p + i) s2, upd eu (6 * p + i) n2, tm_put H hU hz hm (m' := m) hm (by omega) hz hzy' (fun t e => ⟨rfl, rfl⟩) ok2 (fun j hj _ => hj), Or.inr ⟨rfl, rfl⟩, fun post hp => gX (fun hp => ?_) hp, fun post hp => gY ?_⟩
      · refine br_f v0 (br_f ?_ ?_)
        · intro z
          have := congrArg Int32.toInt z
          rw [nI_toInt (by omega), show (-1 : Int32).toInt = -1 from by decide] at this
          omega
        · unfold wX_putEntry_110
          exact ⟨vr120, nm_r (by rw [cr]) ⟨vr120, nm_r (by rw [cr, cv_fu]) hp⟩⟩
      · refine br_f t2 (br_t (nI_pos' (by omega)) ?_)
        unfold wY_put_149
        refine br_t (nI_pos' (by omega)) (br_t (nI_pos' (by omega)) ?_)
        unfold wY_put_172
        rw [b1, a2, b2]
        exact ⟨vr144, nm_r (by rw [cr]) ⟨vr144, nm_r (by rw [cr]) ⟨vr144, nm_r (by rw [cr]) hp⟩⟩⟩
/-- if one of the three failed, X puts nothing -/
theorem xp_fail {post : Int32 → SX → Prop} {o1 o2 o3 : Option (Int32 × Int32)} (h : o1 = none ∨ o2 = none ∨ o3 = none) (hp : post 0 (eN, sN, oL, fC, oC, wt, cK, cO, cR, rg, oP, oX, oY, oZ, lS, lT, lL, va, iu, sz, ke, en, fd, ou)) : wpX_putEntry post (eN, sN, oL, fC, oC, wt, cK, cO, cR, rg, oP, oX, oY, oZ, lS, lT, lL, va, iu, sz, ke, en, fd, ou) (ev_o o1) (ev_o o2) (ev_o o3) := by
  unfold wpX_putEntry
  by_cases q1 : (ev_o o1 &&& 3) = 2
  rotate_left
  · exact br_f q1 (br_t rfl hp)
  refine br_t q1 (br_f (by decide) ?_)
  by_cases q2 : (ev_o o2 &&& 3) = 1
  rotate_left
  · exact br_f q2 (br_t rfl hp)
  refine br_t q2 (br_f (by decide) ?_)
  rcases h with rfl | rfl | rfl
  · exact absurd q1 (by decide)
  · exact absurd q2 (by decide)
  · exact br_t rfl hp
theorem lk_show {g : Nat → Int32} {q : Nat} {s n : Int32} (H : tm_HO g sz zy vs vn es eu) (ok : cv_ok g s n) (hq : q < 2000) (a0 : so 0 = s) (b0 : nu 0 = n) :
    ∃ ou' : Nat → Int64, (∀ post : SX → Prop, post (eN, sN, oL, fC, nI (q + 1), wt, cK, cO, cR, rg, oP, oX, oY, oZ, lS, lT, lL, va, iu, sz, ke, en, fd, ou') → wpX_show post (eN, sN, oL, fC, nI q, wt, cK, cO, cR, rg, oP, oX, oY, oZ, lS, lT, lL, va, iu, sz, ke, en, fd, ou) (cv_e s n)) ∧
      (∀ post : SY → Prop, post (yE, yN, nI (q + 1), dp, tp, fl, lo, kd, ex, ey, yW, yP, yX, yY, yZ, vs, vn, zy, yK, es, eu, tk, sn, ou', wk, sg, so, nu, la, tu, lz) → wpY_show post (yE, yN, nI q, dp, tp, fl, lo, kd, ex, ey, yW, yP, yX, yY, yZ, vs, vn, zy, yK, es, eu, tk, sn, ou, wk, sg, so, nu, la, tu, lz)) := by
  by_cases q30 : q < 30
  rotate_left
  · have h30 : (30 : Int32) ≤ nI q := nI_le (a := 30) (by omega) (by omega)
    refine ⟨ou, fun post hp => ?_, fun post hp => ?_⟩
    · unfold wpX_show
      exact br_t h30 (nm_r (nI_1 q) hp)
    · unfold wpY_show
      have g46 : ∀ z : Int64, wY_show_46 post z yE yN (nI q) dp tp fl lo kd ex ey yW yP yX yY yZ vs vn zy yK es eu tk sn ou wk sg so nu la tu lz := fun z => br_t h30 (nm_r (nI_1 q) hp)
      refine br_c (fun e => ?_) (fun e => br_c (fun _ => g46 _) (fun _ => g46 _))
      rw [a0] at e
      obtain ⟨p, hp20, hn⟩ := xk_cok ok e
      exact ⟨by rw [b0, hn]; exact vp_in_nI (by omega) (by decide), g46 _⟩
  · have h30 : ¬ (30 : Int32) ≤ nI q := nI_ge (b := 30) q30 (by decide)
    have vq : vp_in (nI q) 30 := vp_in_nI q30 (by decide)
    have cq : (nI q).toNatClampNeg = q := nI_clamp (by omega)
    refine ⟨vp_updL ou q (cv_e s (if s = 2 then sz n.toNatClampNeg else n)), fun post hp => ?_, fun post hp => ?_⟩
    · unfold wpX_show
      refine br_f h30 (xv_srt (cv_ok_s ok) (xv_seen ok (xv_val ⟨vq, nm_r (by rw [cq]) (nm_r (nI_1 q) hp)⟩)))
    · unfold wpY_show
      have g46 : ∀ z : Int64, (4 * z) + s.toInt64 = cv_e s (if s = 2 then sz n.toNatClampNeg else n) → wY_show_46 post z yE yN (nI q) dp tp fl lo kd ex ey yW yP yX yY yZ vs vn zy yK es eu tk sn ou wk sg so nu la tu lz := by
        intro z hz
        unfold wY_show_46
        refine br_f h30 ⟨vq, nm_r ?_ (nm_r (nI_1 q) hp)⟩
        rw [cq, a0, hz]
      refine tm_kind ok (fun e e2 => ?_) (fun e => ?_) (fun p e hp20 hn hU => ?_)
      · refine br_f (by rw [a0, e]; decide) (br_f (by rw [a0, e]; decide) (g46 _ ?_))
        rw [if_neg (by rw [e]; decide), e2]
        rfl
      · refine br_f (by rw [a0, e]; decide) (br_t (by rw [a0, e]) (g46 _ ?_))
        rw [if_neg (by rw [e]; decide), b0]
        rfl
      · refine br_t (by rw [a0, e]) ⟨by rw [b0, hn]; exact vp_in_nI (by omega) (by decide), g46 _ ?_⟩
        rw [if_pos e, b0, hn, nI_clamp (by omega), (H.1 p hU).2.1]
        rfl
/-! PUT of the reference -/
theorem y_put {post : Int32 → SY → Prop} {s e1 : Nat} {dp1 tp1 fl1 : Int32} {zy1 tk1 wk1 sg1 so1 nu1 : Nat → Int32} (hs : s < 14) (ho : yP s = 1) (hx : yX s = nI e1) (h1 : ∀ P : SY → Prop, P (yE, yN, yC, dp1, tp1, fl1, lo, kd, ex, ey, yW, yP, yX, yY, yZ, vs, vn, zy1, yK, es, eu, tk1, sn, yO, wk1, sg1, so1, nu1, la, tu, lz) → wpY_work P (yE, yN, yC, dp, nI 0, fl, lo, kd, ex, ey, yW, yP, yX, yY, yZ, vs, vn, zy, yK, es, eu, tk, sn, yO, wk, sg, so, nu, la, tu, lz) (nI e1))
    (hF : ¬ fl1 = 0 → post (nI s) (yE, yN, yC, dp1, tp1, fl1, lo, kd, ex, ey, yW, yP, yX, yY, yZ, vs, vn, zy1, yK, es, eu, tk1, sn, yO, wk1, sg1, so1, nu1, la, tu, lz))
    (hT : fl1 = 0 → wpY_work (fun u => match u with | (yE, yN, yC, dp, tp, fl, lo, kd, ex, ey, yW, yP, yX, yY, yZ, vs, vn, zy, yK, es, eu, tk, sn, yO, wk, sg, so, nu, la, tu, lz) => wY_execute_72 post (nI s) yE yN yC dp tp fl lo kd ex ey yW yP yX yY yZ vs vn zy yK es eu tk sn yO wk sg so nu la tu lz) (yE, yN, yC, dp1, tp1, fl1, lo, kd, ex, ey, yW, yP, yX, yY, yZ, vs, vn, zy1, yK, es, eu, tk1, sn, yO, wk1, sg1, so1, nu1, la, tu, lz) (yY s)) : wpY_execute post (yE, yN, yC, dp, tp, fl, lo, kd, ex, ey, yW, yP, yX, yY, yZ, vs, vn, zy, yK, es, eu, tk, sn, yO, wk, sg, so, nu, la, tu, lz) (nI s) := by
  have v14 : vp_in (nI s) 14 := vp_in_nI hs (by decide)
  have cs : (nI s).toNatClampNeg = s := nI_clamp (by omega)
  unfold wpY_execute
  refine ⟨v14, ?_⟩
  rw [cs, ho]
  refine br_f (by decide) ⟨v14, br_f (by decide) ⟨v14, ?_⟩⟩
  rw [hx]
  unfold wY_execute_39
  refine h1 _ ⟨v14, ?_⟩
  rw [cs]
  refine br_t ho (br_c (fun q => ⟨v14, hT q⟩) (fun q => ?_))
  refine ⟨v14, br_t (by rw [cs]; exact ho) (br_f q ?_)⟩
  unfold wY_execute_99
  exact br_f q (hF q)
theorem y_put2 {post : Int32 → SY → Prop} {s e2 : Nat} {dp1 tp1 fl1 : Int32} {zy1 tk1 wk1 sg1 so1 nu1 : Nat → Int32} (hs : s < 14) (ho : yP s = 1) (hx : yY s = nI e2) (h1 : ∀ P : SY → Prop, P (yE, yN, yC, dp1, tp1, fl1, lo, kd, ex, ey, yW, yP, yX, yY, yZ, vs, vn, zy1, yK, es, eu, tk1, sn, yO, wk1, sg1, so1, nu1, la, tu, lz) → wpY_work P (yE, yN, yC, dp, tp, fl, lo, kd, ex, ey, yW, yP, yX, yY, yZ, vs, vn, zy, yK, es, eu, tk, sn, yO, wk, sg, so, nu, la, tu, lz) (nI e2))
    (hF : ¬ fl1 = 0 → post (nI s) (yE, yN, yC, dp1, tp1, fl1, lo, kd, ex, ey, yW, yP, yX, yY, yZ, vs, vn, zy1, yK, es, eu, tk1, sn, yO, wk1, sg1, so1, nu1, la, tu, lz))
    (hT : fl1 = 0 → wpY_work (fun u => match u with | (yE, yN, yC, dp, tp, fl, lo, kd, ex, ey, yW, yP, yX, yY, yZ, vs, vn, zy, yK, es, eu, tk, sn, yO, wk, sg, so, nu, la, tu, lz) => wY_execute_99 post (nI s) yE yN yC dp tp fl lo kd ex ey yW yP yX yY yZ vs vn zy yK es eu tk sn yO wk sg so nu la tu lz) (yE, yN, yC, dp1, tp1, fl1, lo, kd, ex, ey, yW, yP, yX, yY, yZ, vs, vn, zy1, yK, es, eu, tk1, sn, yO, wk1, sg1, so1, nu1, la, tu, lz) (yZ s)) : wpY_work (fun u => match u with | (yE, yN, yC, dp, tp, fl, lo, kd, ex, ey, yW, yP, yX, yY, yZ, vs, vn, zy, yK, es, eu, tk, sn, yO, wk, sg, so, nu, la, tu, lz) => wY_execute_72 post (nI s) yE yN yC dp tp fl lo kd ex ey yW yP yX yY yZ vs vn zy yK es eu tk sn yO wk sg so nu la tu lz) (yE, yN, yC, dp, tp, fl, lo, kd, ex, ey, yW, yP, yX, yY, yZ, vs, vn, zy, yK, es, eu, tk, sn, yO, wk, sg, so, nu, la, tu, lz) (yY s) := by
  have v14 : vp_in (nI s) 14 := vp_in_nI hs (by decide)
  have cs : (nI s).toNatClampNeg = s := nI_clamp (by omega)
  rw [hx]
  refine h1 _ ?_
  dsimp only
  unfold wY_execute_72
  refine ⟨v14, ?_⟩
  rw [cs]
  refine br_t ho (br_c (fun q => ⟨v14, hT q⟩) (fun q => ?_))
  unfold wY_execute_99
  exact br_f q (hF q)
theorem y_put3 {post : Int32 → SY → Prop} {s e3 : Nat} {dp1 tp1 fl1 fl2 : Int32} {zy1 tk1 wk1 sg1 so1 nu1 zy2 yK2 es2 eu2 : Nat → Int32} (hs : s < 14) (ho : yP s = 1) (hx : yZ s = nI e3) (h1 : ∀ P : SY → Prop, P (yE, yN, yC, dp1, tp1, fl1, lo, kd, ex, ey, yW, yP, yX, yY, yZ, vs, vn, zy1, yK, es, eu, tk1, sn, yO, wk1, sg1, so1, nu1, la, tu, lz) → wpY_work P (yE, yN, yC, dp, tp, fl, lo, kd, ex, ey, yW, yP, yX, yY, yZ, vs, vn, zy, yK, es, eu, tk, sn, yO, wk, sg, so, nu, la, tu, lz) (nI e3))
    (hF : ¬ fl1 = 0 → post (nI s) (yE, yN, yC, dp1, tp1, fl1, lo, kd, ex, ey, yW, yP, yX, yY, yZ, vs, vn, zy1, yK, es, eu, tk1, sn, yO, wk1, sg1, so1, nu1, la, tu, lz))
    (hp : fl1 = 0 → ∀ P : SY → Prop, P (yE, yN, yC, dp1, tp1, fl2, lo, kd, ex, ey, yW, yP, yX, yY, yZ, vs, vn, zy2, yK2, es2, eu2, tk1, sn, yO, wk1, sg1, so1, nu1, la, tu, lz) → wpY_put P (yE, yN, yC, dp1, tp1, fl1, lo, kd, ex, ey, yW, yP, yX, yY, yZ, vs, vn, zy1, yK, es, eu, tk1, sn, yO, wk1, sg1, so1, nu1, la, tu, lz))
    (hT : fl1 = 0 → post (nI (s + 1)) (yE, yN, yC, dp1, tp1, fl2, lo, kd, ex, ey, yW, yP, yX, yY, yZ, vs, vn, zy2, yK2, es2, eu2, tk1, sn, yO, wk1, sg1, so1, nu1, la, tu, lz)) : wpY_work (fun u => match u with | (yE, yN, yC, dp, tp, fl, lo, kd, ex, ey, yW, yP, yX, yY, yZ, vs, vn, zy, yK, es, eu, tk, sn, yO, wk, sg, so, nu, la, tu, lz) => wY_execute_99 post (nI s) yE yN yC dp tp fl lo kd ex ey yW yP yX yY yZ vs vn zy yK es eu tk sn yO wk sg so nu la tu lz) (yE, yN, yC, dp, tp, fl, lo, kd, ex, ey, yW, yP, yX, yY, yZ, vs, vn, zy, yK, es, eu, tk, sn, yO, wk, sg, so, nu, la, tu, lz) (yZ s) := by
  have v14 : vp_in (nI s) 14 := vp_in_nI hs (by decide)
  have cs : (nI s).toNatClampNeg = s := nI_clamp (by omega)
  have nq : ∀ j : Int32, ¬ j = 1 → ¬ yP (nI s).toNatClampNeg = j := fun j hj z => hj (by rw [← z, cs, ho])
  rw [hx]
  refine h1 _ ?_
  dsimp only
  unfold wY_execute_99
  refine br_c (fun q => ?_) (fun q => hF q)
  refine ⟨v14, br_f (nq 0 (by decide)) ⟨v14, br_t (by rw [cs]; exact ho) (hp q _ ⟨v14, br_f (nq 2 (by decide)) ⟨v14, br_f (nq 4 (by decide)) ⟨v14, br_f (nq 3 (by decide)) ?_⟩⟩⟩)⟩⟩
  rw [nI_1]; exact hT q
end
end
section
/-! one statement on both sides: it fails, it goes on, or it opens a LOOP -/
section
variable {eN sN oL fC oC : Int32} {wt cK cO cR : Nat → Int32} {rg : Nat → Int64} {oP oX oY oZ lS lT lL : Nat → Int32} {va : Nat → Int64} {iu sz ke : Nat → Int32} {en : Nat → Int64} {fd : Nat → Int32} {ou : Nat → Int64} {yE yN yC dp tp fl lo : Int32} {kd ex ey yW yP yX yY yZ vs vn zy yK es eu tk sn : Nat → Int32} {yO : Nat → Int64} {wk sg so nu la tu lz : Nat → Int32}
theorem sl_all {E N l q s : Nat} {U : Nat → Int32} (hE : E ≤ 30) (hN : N ≤ 14) (hVE : tm_VE E kd ex ey wt cK cO cR) (hVS : tm_VS E N oP oX oY oZ) (hiu : ∀ t, 20 ≤ t → iu t = 0) (htk : ∀ t, 24 ≤ t → tk t = 0) (H : tm_HO U sz zy vs vn es eu) (hs : s < N) (hl : oP s = 3 → l < 2) (hq : q < 2000) :
    ∃ (fC' : Int32) (rg' : Nat → Int64) (iu' sz' ke' fd' : Nat → Int32) (q' : Nat) (ou' : Nat → Int64) (dp' tp' fl' : Int32) (vs' vn' zy' es' eu' tk' sn' wk' sg' so' nu' : Nat → Int32),
      (∃ U', tm_HO U' sz' zy' vs' vn' es' eu') ∧ (∀ t, 20 ≤ t → iu' t = 0) ∧ (∀ t, 24 ≤ t → tk' t = 0) ∧ q' ≤ q + 1 ∧
      (((∀ post : Int32 → SX → Prop, post (-1) (nI E, nI N, nI l, fC', nI q', wt, cK, cO, cR, rg', oP, oX, oY, oZ, lS, lT, lL, cv_f vs' vn', iu', sz', ke', cv_f es' eu', fd', ou') → wpX_execute post (nI E, nI N, nI l, fC, nI q, wt, cK, cO, cR, rg, oP, oX, oY, oZ, lS, lT, lL, cv_f vs vn, iu, sz, ke, cv_f es eu, fd, ou) (nI s)) ∧
        (∀ (post : Int32 → SY → Prop) (J : Int32 → Int32 → Int32 → Int32 → Int32 → Int32 → Int32 → Int32 → Int32 → (Nat → Int32) → (Nat → Int32) → (Nat → Int32) → (Nat → Int32) → (Nat → Int32) → (Nat → Int32) → (Nat → Int32) → (Nat → Int32) → (Nat → Int32) → (Nat → Int32) → (Nat → Int32) → (Nat → Int32) → (Nat → Int32) → (Nat → Int32) → (Nat → Int32) → (Nat → Int32) → (Nat → Int64) → (Nat → Int32) → (Nat → Int32) → (Nat → Int32) → (Nat → Int32) → (Nat → Int32) → (Nat → Int32) → (Nat → Int32) → Prop) (k : Nat), post (nI s) (nI E, nI N, nI q', dp', tp', fl', nI l, kd, ex, ey, wt, oP, oX, oY, oZ, vs', vn', zy', ke', es', eu', tk', sn', ou', wk', sg', so', nu', la, tu, lz) → wY_run_94 post J (nI s) (nI k) (nI E) (nI N) (nI q) dp tp 0 (nI l) kd ex ey wt oP oX oY oZ vs vn zy ke es eu tk sn ou wk sg so nu la tu lz)) ∨
       (∃ nx : Nat, (nx = s + 1 ∨ nx = tm_nm oP oY oZ s + 1) ∧ fl' = 0 ∧ (∀ post : Int32 → SX → Prop, post (nI nx) (nI E, nI N, nI l, fC', nI q', wt, cK, cO, cR, rg', oP, oX, oY, oZ, lS, lT, lL, cv_f vs' vn', iu', sz', ke', cv_f es' eu', fd', ou') → wpX_execute post (nI E, nI N, nI l, fC, nI q, wt, cK, cO, cR, rg, oP, oX, oY, oZ, lS, lT, lL, cv_f vs vn, iu, sz, ke, cv_f es eu, fd, ou) (nI s)) ∧
        (∀ (post : Int32 → SY → Prop) (J : Int32 → Int32 → Int32 → Int32 → Int32 → Int32 → Int32 → Int32 → Int32 → (Nat → Int32) → (Nat → Int32) → (Nat → Int32) → (Nat → Int32) → (Nat → Int32) → (Nat → Int32) → (Nat → Int32) → (Nat → Int32) → (Nat → Int32) → (Nat → Int32) → (Nat → Int32) → (Nat → Int32) → (Nat → Int32) → (Nat → Int32) → (Nat → Int32) → (Nat → Int32) → (Nat → Int64) → (Nat → Int32) → (Nat → Int32) → (Nat → Int32) → (Nat → Int32) → (Nat → Int32) → (Nat → Int32) → (Nat → Int32) → Prop) (k : Nat), J (nI nx) (nI (k + 1)) (nI E) (nI N) (nI q') dp' tp' fl' (nI l) kd ex ey wt oP oX oY oZ vs' vn' zy' ke' es' eu' tk' sn' ou' wk' sg' so' nu' la tu lz → wY_run_94 post J (nI s) (nI k) (nI E) (nI N) (nI q) dp tp 0 (nI l) kd ex ey wt oP oX oY oZ vs vn zy ke es eu tk sn ou wk sg so nu la tu lz)) ∨
       (oP s = 3 ∧ fl' = 0 ∧ ∃ (n lim : Int32) (v : Nat), v < 6 ∧ oX s = nI v ∧ ((n ≤ 5 ∧ lim = n) ∨ (¬ n ≤ 5 ∧ lim = 5)) ∧
        (∀ post : Int32 → SX → Prop, post (nI (tm_nm oP oY oZ s + 1)) (nI E, nI N, nI (l + 1), fC', nI q', wt, cK, cO, cR, rg', oP, oX, oY, oZ, upd lS l (nI s), upd lT l 0, upd lL l lim, cv_f vs' vn', iu', sz', ke', cv_f es' eu', fd', ou') → wpX_execute post (nI E, nI N, nI l, fC, nI q, wt, cK, cO, cR, rg, oP, oX, oY, oZ, lS, lT, lL, cv_f vs vn, iu, sz, ke, cv_f es eu, fd, ou) (nI s)) ∧
        ((¬ 1 ≤ n ∧ ∀ (post : Int32 → SY → Prop) (J : Int32 → Int32 → Int32 → Int32 → Int32 → Int32 → Int32 → Int32 → Int32 → (Nat → Int32) → (Nat → Int32) → (Nat → Int32) → (Nat → Int32) → (Nat → Int32) → (Nat → Int32) → (Nat → Int32) → (Nat → Int32) → (Nat → Int32) → (Nat → Int32) → (Nat → Int32) → (Nat → Int32) → (Nat → Int32) → (Nat → Int32) → (Nat → Int32) → (Nat → Int32) → (Nat → Int64) → (Nat → Int32) → (Nat → Int32) → (Nat → Int32) → (Nat → Int32) → (Nat → Int32) → (Nat → Int32) → (Nat → Int32) → Prop) (k : Nat), J (nI (tm_nm oP oY oZ s + 1)) (nI (k + 1)) (nI E) (nI N) (nI q') dp' tp' fl' (nI l) kd ex ey wt oP oX oY oZ vs' vn' zy' ke' es' eu' tk' sn' ou' wk' sg' so' nu' la tu lz → wY_run_94 post J (nI s) (nI k) (nI E) (nI N) (nI q) dp tp 0 (nI l) kd ex ey wt oP oX oY oZ vs vn zy ke es eu tk sn ou wk sg so nu la tu lz) ∨
         (1 ≤ n ∧ ∀ (post : Int32 → SY → Prop) (J : Int32 → Int32 → Int32 → Int32 → Int32 → Int32 → Int32 → Int32 → Int32 → (Nat → Int32) → (Nat → Int32) → (Nat → Int32) → (Nat → Int32) → (Nat → Int32) → (Nat → Int32) → (Nat → Int32) → (Nat → Int32) → (Nat → Int32) → (Nat → Int32) → (Nat → Int32) → (Nat → Int32) → (Nat → Int32) → (Nat → Int32) → (Nat → Int32) → (Nat → Int32) → (Nat → Int64) → (Nat → Int32) → (Nat → Int32) → (Nat → Int32) → (Nat → Int32) → (Nat → Int32) → (Nat → Int32) → (Nat → Int32) → Prop) (k : Nat), J (nI (s + 1)) (nI (k + 1)) (nI E) (nI N) (nI q') dp' tp' fl' (nI (l + 1)) kd ex ey wt oP oX oY oZ (upd vs' v 1) (upd vn' v 1) zy' ke' es' eu' tk' sn' ou' wk' sg' so' nu' (upd la l (nI s)) (upd tu l 1) (upd lz l lim) → wY_run_94 post J (nI s) (nI k) (nI E) (nI N) (nI q) dp tp 0 (nI l) kd ex ey wt oP oX oY oZ vs vn zy ke es eu tk sn ou wk sg so nu la tu lz)))) := by
  obtain ⟨g, c, fd', K, kR, kC, hcol⟩ := xk_collect (eN := nI E) (sN := nI N) (oL := nI l) (fC := fC) (oC := nI q) (wt := wt) (cK := cK) (cO := cO) (cR := cR) (rg := rg) (oP := oP) (oX := oX) (oY := oY) (oZ := oZ) (lS := lS) (lT := lT) (lL := lL) (ke := ke) (fd := fd) (ou := ou) H hiu
  obtain ⟨sn', Y, yR, yC, hre⟩ := yk_reach (yE := nI E) (yN := nI N) (yC := nI q) (dp := dp) (tp := tp) (fl := 0) (lo := nI l) (kd := kd) (ex := ex) (ey := ey) (yW := wt) (yP := oP) (yX := oX) (yY := oY) (yZ := oZ) (yK := ke) (tk := tk) (sn := sn) (yO := ou) (wk := wk) (sg := sg) (so := so) (nu := nu) (la := la) (tu := tu) (lz := lz) H
  obtain ⟨e1, e2, Hg⟩ := kk_same H K kR kC Y yR yC
  rw [e2] at hre
  have c20 : c ≤ 20 := by have := cn_le g 20; have := K.1; omega
  have g24 : ∀ t, 24 ≤ t → g t = 0 := fun t ht => K.2.1 t (by omega)
  have s14 : s < 14 := by omega
  by_cases c8 : c ≤ 8
  rotate_left
  · exact ⟨nI c, rg, g, sz, ke, fd', q, ou, dp, tp, 0, vs, vn, zy, es, eu, tk, sn', wk, sg, so, nu, ⟨g, Hg⟩, K.2.1, htk, by omega, Or.inl ⟨fun post hp => x_full hcol (by omega) c20 hp, fun post J k hp => y_full hs hN hre (by omega) (by omega) hp⟩⟩
  have hcn : 2 * cn_c g 20 ≤ 16 := by have := K.1; omega
  have hst := hVS s hs
  by_cases p1 : oP s = 1
  · -- PUT
    have hst1 := hst
    rw [p1] at hst1
    obtain ⟨⟨a1, ha1, hx⟩, ⟨a2, ha2, hy⟩, a3, ha3, hz⟩ := st_1 hst1
    obtain ⟨w1, w17, T1⟩ := hVE a1 ha1
    obtain ⟨w2, w27, T2⟩ := hVE a2 ha2
    obtain ⟨w3, w37, T3⟩ := hVE a3 ha3
    obtain ⟨o1, g1, z11, z21, M1, ok1, X1, Y1⟩ := ev_all (eN := nI E) (sN := nI N) (oL := nI l) (fC := nI c) (oC := nI q) (wt := wt) (cK := cK) (cO := cO) (cR := cR) (oP := oP) (oX := oX) (oY := oY) (oZ := oZ) (lS := lS) (lT := lT) (lL := lL) (ke := ke) (fd := fd') (ou := ou) (yE := nI E) (yN := nI N) (yC := nI q) (lo := nI l) (kd := kd) (ex := ex) (ey := ey) (yW := wt) (yP := oP) (yX := oX) (yY := oY) (yZ := oZ) (vs := vs) (vn := vn) (es := es) (eu := eu) (sn := sn') (yO := ou) (la := la) (tu := tu) (lz := lz) hE w1 w1 a1 (7 * a1) 0 T1 g sz zy Hg K.2.1 (by omega) (by omega) 0 0 (by omega) (by omega)
    have hM1 := M1.2.2.2
    obtain ⟨o2, g2, z12, z22, M2, ok2, X2, Y2⟩ := ev_all (eN := nI E) (sN := nI N) (oL := nI l) (fC := nI c) (oC := nI q) (wt := wt) (cK := cK) (cO := cO) (cR := cR) (oP := oP) (oX := oX) (oY := oY) (oZ := oZ) (lS := lS) (lT := lT) (lL := lL) (ke := ke) (fd := fd') (ou := ou) (yE := nI E) (yN := nI N) (yC := nI q) (lo := nI l) (kd := kd) (ex := ex) (ey := ey) (yW := wt) (yP := oP) (yX := oX) (yY := oY) (yZ := oZ) (vs := vs) (vn := vn) (es := es) (eu := eu) (sn := sn') (yO := ou) (la := la) (tu := tu) (lz := lz) hE w2 w2 a2 (7 * a2) 0 T2 g1 z11 z21 M1.1 M1.2.1 (by omega) (by omega) 0 1 (by omega) (by omega)
    have hM2 := M2.2.2.2
    obtain ⟨o3, g3, z13, z23, M3, ok3, X3, Y3⟩ := ev_all (eN := nI E) (sN := nI N) (oL := nI l) (fC := nI c) (oC := nI q) (wt := wt) (cK := cK) (cO := cO) (cR := cR) (oP := oP) (oX := oX) (oY := oY) (oZ := oZ) (lS := lS) (lT := lT) (lL := lL) (ke := ke) (fd := fd') (ou := ou) (yE := nI E) (yN := nI N) (yC := nI q) (lo := nI l) (kd := kd) (ex := ex) (ey := ey) (yW := wt) (yP := oP) (yX := oX) (yY := oY) (yZ := oZ) (vs := vs) (vn := vn) (es := es) (eu := eu) (sn := sn') (yO := ou) (la := la) (tu := tu) (lz := lz) hE w3 w3 a3 (7 * a3) 0 T3 g2 z12 z22 M2.1 M2.2.1 (by omega) (by omega) 0 2 (by omega) (by omega)
    obtain ⟨r1, hX1⟩ := xw_work (rg := rg) (by omega) (tm_pos T1).2.1 w17 X1
    obtain ⟨r2, hX2⟩ := xw_work (rg := r1) (by omega) (tm_pos T2).2.1 w27 X2
    obtain ⟨r3, hX3⟩ := xw_work (rg := r2) (by omega) (tm_pos T3).2.1 w37 X3
    have mm1 : ∀ t, ¬ g t = 0 → z11 t = sz t ∧ z21 t = zy t := fun t h => (M1.2.2.1 t h).2
    have mm2 : ∀ t, ¬ g t = 0 → z12 t = sz t ∧ z22 t = zy t := fun t h => by
      have a := M1.2.2.1 t h
      have b := M2.2.2.1 t a.1
      exact ⟨b.2.1.trans a.2.1, b.2.2.trans a.2.2⟩
    have mm3 : ∀ t, ¬ g t = 0 → z13 t = sz t ∧ z23 t = zy t := fun t h => by
      have a := M1.2.2.1 t h
      have b := M2.2.2.1 t a.1
      have c := M3.2.2.1 t b.1
      exact ⟨c.2.1.trans (mm2 t h).1, c.2.2.trans (mm2 t h).2⟩
    have g3z : ∀ t, 20 ≤ t → g3 t = 0 := M3.2.1
    cases o1 with
    | none =>
      obtain ⟨dp1, tp1, wk1, sg1, so1, nu1, hY1⟩ := yw_none (dp := dp) (wk := wk) (sg := sg) (so := so) (nu := nu) w17 Y1
      refine ⟨nI c, r3, g3, z13, ke, fd', q, ou, dp1, tp1, 1, vs, vn, z21, es, eu, g1, sn', wk1, sg1, so1, nu1, ⟨g, tm_back Hg (fun t h => ⟨(mm3 t h).1, (mm1 t h).2⟩)⟩, g3z, fun t ht => M1.2.1 t (by omega), by omega, Or.inl ⟨fun post hp => ?_, fun post J k hp => ?_⟩⟩
      · exact x_put hcol c8 s14 p1 hx hy hz hX1 hX2 hX3 (fun P hP => xp_fail (Or.inl rfl) hP) (fun _ => hp) (fun z => absurd rfl z)
      · exact y_go hs hN hre c8 K.2.2.1 e1 g24 htk (fun P hP => y_put s14 p1 hx hY1 (fun _ => hP) (fun z => absurd z (by decide))) (fun z => absurd z (by decide)) (fun _ => hp)
    | some v1 =>
      obtain ⟨wk1, sg1, so1, nu1, lo1, hs1, hn1, hY1⟩ := yw_some (dp := dp) (wk := wk) (sg := sg) (so := so) (nu := nu) w17 Y1
      cases o2 with
      | none =>
        obtain ⟨dp2, tp2, wk2, sg2, so2, nu2, hY2⟩ := yw_none (dp := nI 0) (wk := wk1) (sg := sg1) (so := so1) (nu := nu1) w27 Y2
        refine ⟨nI c, r3, g3, z13, ke, fd', q, ou, dp2, tp2, 1, vs, vn, z22, es, eu, g2, sn', wk2, sg2, so2, nu2, ⟨g, tm_back Hg (fun t h => ⟨(mm3 t h).1, (mm2 t h).2⟩)⟩, g3z, fun t ht => M2.2.1 t (by omega), by omega, Or.inl ⟨fun post hp => ?_, fun post J k hp => ?_⟩⟩
        · exact x_put hcol c8 s14 p1 hx hy hz hX1 hX2 hX3 (fun P hP => xp_fail (Or.inr (Or.inl rfl)) hP) (fun _ => hp) (fun z => absurd rfl z)
        · exact y_go hs hN hre c8 K.2.2.1 e1 g24 htk (fun P hP => y_put s14 p1 hx hY1 (fun z => absurd rfl z) (fun _ => y_put2 s14 p1 hy hY2 (fun _ => hP) (fun z => absurd z (by decide)))) (fun z => absurd z (by decide)) (fun _ => hp)
      | some v2 =>
        obtain ⟨wk2, sg2, so2, nu2, lo2, hs2, hn2, hY2⟩ := yw_some (dp := nI 0) (wk := wk1) (sg := sg1) (so := so1) (nu := nu1) w27 Y2
        cases o3 with
        | none =>
          obtain ⟨dp3, tp3, wk3, sg3, so3, nu3, hY3⟩ := yw_none (dp := nI 0) (wk := wk2) (sg := sg2) (so := so2) (nu := nu2) w37 Y3
          refine ⟨nI c, r3, g3, z13, ke, fd', q, ou, dp3, tp3, 1, vs, vn, z23, es, eu, g3, sn', wk3, sg3, so3, nu3, ⟨g, tm_back Hg (fun t h => mm3 t h)⟩, g3z, fun t ht => M3.2.1 t (by omega), by omega, Or.inl ⟨fun post hp => ?_, fun post J k hp => ?_⟩⟩
          · exact x_put hcol c8 s14 p1 hx hy hz hX1 hX2 hX3 (fun P hP => xp_fail (Or.inr (Or.inr rfl)) hP) (fun _ => hp) (fun z => absurd rfl z)
          · exact y_go hs hN hre c8 K.2.2.1 e1 g24 htk (fun P hP => y_put s14 p1 hx hY1 (fun z => absurd rfl z) (fun _ => y_put2 s14 p1 hy hY2 (fun z => absurd rfl z) (fun _ => y_put3 (fl2 := 1) (zy2 := zy) (yK2 := ke) (es2 := es) (eu2 := eu) s14 p1 hz hY3 (fun _ => hP) (fun z => absurd z (by decide)) (fun z => absurd z (by decide))))) (fun z => absurd z (by decide)) (fun _ => hp)
        | some v3 =>
          obtain ⟨wk3, sg3, so3, nu3, lo3, hs3, hn3, hY3⟩ := yw_some (dp := nI 0) (wk := wk2) (sg := sg2) (so := so2) (nu := nu2) w37 Y3
          have okv2 := cv_okm (ok2 v2 rfl) (fun t h => (M3.2.2.1 t h).1)
          have okv1 := cv_okm (cv_okm (ok1 v1 rfl) (fun t h => (M2.2.2.1 t h).1)) (fun t h => (M3.2.2.1 t h).1)
          obtain ⟨b, fl', sz', zy', ke', es', eu', H', hb, fX, fY⟩ := lk_put (eN := nI E) (sN := nI N) (oL := nI l) (fC := nI c) (oC := nI q) (wt := wt) (cK := cK) (cO := cO) (cR := cR) (rg := r3) (oP := oP) (oX := oX) (oY := oY) (oZ := oZ) (lS := lS) (lT := lT) (lL := lL) (va := cv_f vs vn) (iu := g3) (sz := z13) (ke := ke) (fd := fd') (ou := ou) (yE := nI E) (yN := nI N) (yC := nI q) (dp := nI 0) (tp := nI 3) (lo := nI l) (kd := kd) (ex := ex) (ey := ey) (yW := wt) (yP := oP) (yX := oX) (yY := oY) (yZ := oZ) (vs := vs) (vn := vn) (zy := z23) (es := es) (eu := eu) (tk := g3) (sn := sn') (yO := ou) (wk := wk3) (sg := sg3) (so := so3) (nu := nu3) (la := la) (tu := tu) (lz := lz) M3.1 okv1 okv2 (ok3 v3 rfl)
            (by rw [(lo3 0 (by omega)).1, (lo2 0 (by omega)).1]; exact hs1) (by rw [(lo3 0 (by omega)).2, (lo2 0 (by omega)).2]; exact hn1) (by rw [(lo3 1 (by omega)).1]; exact hs2) (by rw [(lo3 1 (by omega)).2]; exact hn2) hs3 hn3
          rcases hb with ⟨rfl, rfl⟩ | ⟨rfl, rfl⟩
          · refine ⟨nI c, r3, g3, sz', ke', fd', q, ou, nI 0, nI 3, 1, vs, vn, zy', es', eu', g3, sn', wk3, sg3, so3, nu3, ⟨g3, H'⟩, g3z, fun t ht => M3.2.1 t (by omega), by omega, Or.inl ⟨fun post hp => ?_, fun post J k hp => ?_⟩⟩
            · exact x_put hcol c8 s14 p1 hx hy hz hX1 hX2 hX3 fX (fun _ => hp) (fun z => absurd rfl z)
            · exact y_go hs hN hre c8 K.2.2.1 e1 g24 htk (fun P hP => y_put s14 p1 hx hY1 (fun z => absurd rfl z) (fun _ => y_put2 s14 p1 hy hY2 (fun z => absurd rfl z) (fun _ => y_put3 s14 p1 hz hY3 (fun z => absurd rfl z) (fun _ => fY) (fun _ => hP)))) (fun z => absurd z (by decide)) (fun _ => hp)
          · refine ⟨nI c, r3, g3, sz', ke', fd', q, ou, nI 0, nI 3, 0, vs, vn, zy', es', eu', g3, sn', wk3, sg3, so3, nu3, ⟨g3, H'⟩, g3z, fun t ht => M3.2.1 t (by omega), by omega, Or.inr (Or.inl ⟨s + 1, Or.inl rfl, rfl, fun post hp => ?_, fun post J k hp => ?_⟩)⟩
            · exact x_put hcol c8 s14 p1 hx hy hz hX1 hX2 hX3 fX (fun z => absurd z (by decide)) (fun _ => hp)
            · exact y_go hs hN hre c8 K.2.2.1 e1 g24 htk (fun P hP => y_put s14 p1 hx hY1 (fun z => absurd rfl z) (fun _ => y_put2 s14 p1 hy hY2 (fun z => absurd rfl z) (fun _ => y_put3 s14 p1 hz hY3 (fun z => absurd rfl z) (fun _ => fY) (fun _ => hP)))) (fun _ => hp) (fun z => absurd rfl z)
  · -- one expression
    have he : ∃ e, e < E ∧ (((oP s = 0 ∨ oP s = 3) ∧ oY s = nI e) ∨ ((oP s = 2 ∨ oP s = 4) ∧ oX s = nI e)) := by
      rcases hst with ⟨h, _, b, hb, h2⟩ | ⟨h, _⟩ | ⟨h, ⟨a, ha, h2⟩, _⟩ | ⟨h, _, ⟨b, hb, h2⟩, _⟩ | ⟨h, a, ha, h2⟩
      · exact ⟨b, hb, Or.inl ⟨Or.inl h, h2⟩⟩
      · exact absurd h p1
      · exact ⟨a, ha, Or.inr ⟨Or.inl h, h2⟩⟩
      · exact ⟨b, hb, Or.inl ⟨Or.inr h, h2⟩⟩
      · exact ⟨a, ha, Or.inr ⟨Or.inr h, h2⟩⟩
    obtain ⟨e, he, hz⟩ := he
    obtain ⟨w, w7, T⟩ := hVE e he
    obtain ⟨o, g', z1, z2, M, ok, X1, Y1⟩ := ev_all (eN := nI E) (sN := nI N) (oL := nI l) (fC := nI c) (oC := nI q) (wt := wt) (cK := cK) (cO := cO) (cR := cR) (oP := oP) (oX := oX) (oY := oY) (oZ := oZ) (lS := lS) (lT := lT) (lL := lL) (ke := ke) (fd := fd') (ou := ou) (yE := nI E) (yN := nI N) (yC := nI q) (lo := nI l) (kd := kd) (ex := ex) (ey := ey) (yW := wt) (yP := oP) (yX := oX) (yY := oY) (yZ := oZ) (vs := vs) (vn := vn) (es := es) (eu := eu) (sn := sn') (yO := ou) (la := la) (tu := tu) (lz := lz) hE w w e (7 * e) 0 T g sz zy Hg K.2.1 (by omega) (by omega) 0 0 (by omega) (by omega)
    obtain ⟨r1, hX1⟩ := xw_work (rg := rg) (by omega) (tm_pos T).2.1 w7 X1
    have gz : ∀ t, 24 ≤ t → g' t = 0 := fun t ht => M.2.1 t (by omega)
    cases o with
    | none =>
      obtain ⟨dp1, tp1, wk1, sg1, so1, nu1, hY1⟩ := yw_none (dp := dp) (wk := wk) (sg := sg) (so := so) (nu := nu) w7 Y1
      refine ⟨nI c, r1, g', z1, ke, fd', q, ou, dp1, tp1, 1, vs, vn, z2, es, eu, g', sn', wk1, sg1, so1, nu1, ⟨g', M.1⟩, M.2.1, gz, by omega, Or.inl ⟨fun post hp => ?_, fun post J k hp => ?_⟩⟩
      · exact x_one hcol c8 s14 rfl hz (x_none hX1 hp)
      · exact y_go hs hN hre c8 K.2.2.1 e1 g24 htk (fun P hP => y_one s14 rfl hz hY1 (y_fail hP)) (fun z => absurd z (by decide)) (fun _ => hp)
    | some v =>
      obtain ⟨wk1, sg1, so1, nu1, _, hs1, hn1, hY1⟩ := yw_some (dp := dp) (wk := wk) (sg := sg) (so := so) (nu := nu) w7 Y1
      have okv := ok v rfl
      have cs := cv_ok_s okv
      have n3 := cv_ne3 cs
      rcases st_n hst with p0 | p0 | p0 | p0 | p0
      · -- LET
        have hst0 := hst
        rw [p0] at hst0 hz
        obtain ⟨⟨x, hx6, hx⟩, _⟩ := st_0 hst0
        refine ⟨nI c, r1, g', z1, ke, fd', q, ou, nI 0, nI 1, 0, upd vs x v.1, upd vn x v.2, z2, es, eu, g', sn', wk1, sg1, so1, nu1, ⟨g', tm_let M.1 x okv⟩, M.2.1, gz, by omega, Or.inr (Or.inl ⟨s + 1, Or.inl rfl, rfl, fun post hp => ?_, fun post J k hp => ?_⟩)⟩
        · exact x_one hcol c8 s14 p0 hz (x_let hX1 n3 s14 hx6 hx (by rw [show ev_o (some v) = cv_e v.1 v.2 from rfl, cv_fu]; exact hp))
        · exact y_go hs hN hre c8 K.2.2.1 e1 g24 htk (fun P hP => y_one s14 p0 hz hY1 (y_let s14 p0 hx6 hx (by rw [hs1, hn1]; exact hP))) (fun _ => hp) (fun z => absurd rfl z)
      · exact absurd p0 p1
      · -- IF
        have hz2 := hz
        rw [p0] at hz2
        have hn : ∃ nx, (nx = s + 1 ∨ nx = tm_nm oP oY oZ s + 1) ∧ ((v.1 = 0 ∧ nx = tm_nm oP oY oZ s + 1) ∨ (¬ v.1 = 0 ∧ nx = s + 1)) := by
          by_cases z : v.1 = 0
          · exact ⟨_, Or.inr rfl, Or.inl ⟨z, rfl⟩⟩
          · exact ⟨_, Or.inl rfl, Or.inr ⟨z, rfl⟩⟩
        obtain ⟨nx, hn1', hn2⟩ := hn
        refine ⟨nI c, r1, g', z1, ke, fd', q, ou, nI 0, nI 1, 0, vs, vn, z2, es, eu, g', sn', wk1, sg1, so1, nu1, ⟨g', M.1⟩, M.2.1, gz, by omega, Or.inr (Or.inl ⟨nx, hn1', rfl, fun post hp => ?_, fun post J k hp => ?_⟩)⟩
        · exact x_one hcol c8 s14 p0 hz2 (x_if hX1 n3 s14 hst (by rw [show ev_o (some v) = cv_e v.1 v.2 from rfl, cv_0 cs]; exact hn2) hp)
        · exact y_go hs hN hre c8 K.2.2.1 e1 g24 htk (fun P hP => y_one s14 p0 hz2 hY1 (y_if s14 p0 hst (by rw [hs1]; exact hn2) hP)) (fun _ => hp) (fun z => absurd rfl z)
      · -- LOOP
        have hst0 := hst
        have hz2 := hz
        rw [p0] at hst0 hz2
        obtain ⟨⟨x, hx6, hx⟩, _⟩ := st_3 hst0
        by_cases i1 : v.1 = 1
        · obtain ⟨a, b⟩ := v
          have i1' : a = 1 := i1
          subst i1'
          have hlim : ∃ lim : Int32, (b ≤ 5 ∧ lim = b) ∨ (¬ b ≤ 5 ∧ lim = 5) := by
            by_cases z : b ≤ 5
            · exact ⟨b, Or.inl ⟨z, rfl⟩⟩
            · exact ⟨5, Or.inr ⟨z, rfl⟩⟩
          obtain ⟨lim, hlim⟩ := hlim
          refine ⟨nI c, r1, g', z1, ke, fd', q, ou, nI 0, nI 1, 0, vs, vn, z2, es, eu, g', sn', wk1, sg1, so1, nu1, ⟨g', M.1⟩, M.2.1, gz, by omega, Or.inr (Or.inr ⟨p0, rfl, b, lim, x, hx6, hx, hlim, fun post hp => ?_, ?_⟩)⟩
          · exact x_one hcol c8 s14 p0 hz2 (x_loop hX1 s14 hst (hl p0) hlim hp)
          · by_cases z : 1 ≤ b
            · refine Or.inr ⟨z, fun post J k hp => ?_⟩
              exact y_go hs hN hre c8 K.2.2.1 e1 g24 htk (fun P hP => y_one s14 p0 hz2 hY1 (y_loop1 s14 p0 hs1 (by rw [hn1]; exact z) (hl p0) hx6 hx (by rw [hn1]; exact hlim) hP)) (fun _ => hp) (fun z => absurd rfl z)
            · refine Or.inl ⟨z, fun post J k hp => ?_⟩
              exact y_go hs hN hre c8 K.2.2.1 e1 g24 htk (fun P hP => y_one s14 p0 hz2 hY1 (y_loop0 s14 p0 hst hs1 (by rw [hn1]; exact z) hP)) (fun _ => hp) (fun z => absurd rfl z)
        · refine ⟨nI c, r1, g', z1, ke, fd', q, ou, nI 0, nI 1, 1, vs, vn, z2, es, eu, g', sn', wk1, sg1, so1, nu1, ⟨g', M.1⟩, M.2.1, gz, by omega, Or.inl ⟨fun post hp => ?_, fun post J k hp => ?_⟩⟩
          · exact x_one hcol c8 s14 p0 hz2 (x_loopF hX1 cs i1 hp)
          · exact y_go hs hN hre c8 K.2.2.1 e1 g24 htk (fun P hP => y_one s14 p0 hz2 hY1 (y_loopF s14 p0 (by rw [hs1]; exact i1) hP)) (fun z => absurd z (by decide)) (fun _ => hp)
      · -- SHOW
        have hz2 := hz
        rw [p0] at hz2
        obtain ⟨ou', fX, fY⟩ := lk_show (eN := nI E) (sN := nI N) (oL := nI l) (fC := nI c) (wt := wt) (cK := cK) (cO := cO) (cR := cR) (rg := r1) (oP := oP) (oX := oX) (oY := oY) (oZ := oZ) (lS := lS) (lT := lT) (lL := lL) (va := cv_f vs vn) (iu := g') (ke := ke) (en := cv_f es eu) (fd := fd') (ou := ou) (yE := nI E) (yN := nI N) (dp := nI 0) (tp := nI 1) (fl := 0) (lo := nI l) (kd := kd) (ex := ex) (ey := ey) (yW := wt) (yP := oP) (yX := oX) (yY := oY) (yZ := oZ) (yK := ke) (tk := g') (sn := sn') (wk := wk1) (sg := sg1) (so := so1) (nu := nu1) (la := la) (tu := tu) (lz := lz) M.1 okv hq hs1 hn1
        refine ⟨nI c, r1, g', z1, ke, fd', q + 1, ou', nI 0, nI 1, 0, vs, vn, z2, es, eu, g', sn', wk1, sg1, so1, nu1, ⟨g', M.1⟩, M.2.1, gz, by omega, Or.inr (Or.inl ⟨s + 1, Or.inl rfl, rfl, fun post hp => ?_, fun post J k hp => ?_⟩)⟩
        · exact x_one hcol c8 s14 p0 hz2 (x_show hX1 n3 fX hp)
        · exact y_go hs hN hre c8 K.2.2.1 e1 g24 htk (fun P hP => y_one s14 p0 hz2 hY1 (y_show s14 p0 fY hP)) (fun _ => hp) (fun z => absurd rfl z)
end
end
section
/-! LOOPs under way: turnLoops against again, and a bound on the steps -/
section
variable {eN sN oL fC oC : Int32} {wt cK cO cR : Nat → Int32} {rg : Nat → Int64} {oP oX oY oZ lS lT lL : Nat → Int32} {va : Nat → Int64} {iu sz ke : Nat → Int32} {en : Nat → Int64} {fd : Nat → Int32} {ou : Nat → Int64} {yE yN yC dp tp fl lo : Int32} {kd ex ey yW yP yX yY yZ vs vn zy yK es eu tk sn : Nat → Int32} {yO : Nat → Int64} {wk sg so nu la tu lz : Nat → Int32}
theorem xt_nil {post : Int32 → SX → Prop} {n : Nat} {x1 : Int32} (h : post x1 (eN, sN, nI 0, fC, oC, wt, cK, cO, cR, rg, oP, oX, oY, oZ, lS, lT, lL, va, iu, sz, ke, en, fd, ou)) : wX_turnLoops_7 post x1 eN sN fC oC wt cK cO cR rg oP oX oY oZ lS lT lL va iu sz ke en fd ou (n + 1) (nI 0 - 1) (nI 0) := br_t (by decide) h
theorem xt_stay {post : Int32 → SX → Prop} {E L l n at' : Nat} (hl : l < 2) (hS : lS l = nI L) (hL : L < 14) (hst : tm_st E (oP L) (oX L) (oY L) (oZ L)) (ha : at' ≤ tm_nm oP oY oZ L) (h : post (nI at') (eN, sN, nI (l + 1), fC, oC, wt, cK, cO, cR, rg, oP, oX, oY, oZ, lS, lT, lL, va, iu, sz, ke, en, fd, ou)) : wX_turnLoops_7 post (nI at') eN sN fC oC wt cK cO cR rg oP oX oY oZ lS lT lL va iu sz ke en fd ou (n + 1) (nI (l + 1) - 1) (nI (l + 1)) := by
  have hb := tm_nm_b hst
  rw [nI_pred]
  have cl : (nI l).toNatClampNeg = l := nI_clamp (by omega)
  exact br_f (nI_pos (by omega)) ⟨vp_in_nI hl (by decide), nm_r (by rw [cl, hS]) (xn_named hL hst (br_f (nI_nlt (by omega) (by omega)) h))⟩
theorem xt_turn {post : Int32 → SX → Prop} {E L l n v at' : Nat} {tv : Int32} (hl : l < 2) (hS : lS l = nI L) (hL : L < 14) (hst : tm_st E (oP L) (oX L) (oY L) (oZ L)) (ha : tm_nm oP oY oZ L < at') (ha2 : at' < 100) (hlt : ¬ lL l ≤ lT l) (htv : lT l + 1 = tv) (hv : v < 6) (hx : oX L = nI v) (h : post (nI (L + 1)) (eN, sN, nI (l + 1), fC, oC, wt, cK, cO, cR, rg, oP, oX, oY, oZ, lS, upd lT l tv, lL, vp_updL va v (cv_e 1 tv), iu, sz, ke, en, fd, ou)) : wX_turnLoops_7 post (nI at') eN sN fC oC wt cK cO cR rg oP oX oY oZ lS lT lL va iu sz ke en fd ou (n + 1) (nI (l + 1) - 1) (nI (l + 1)) := by
  have hb := tm_nm_b hst
  rw [nI_pred]
  have cl : (nI l).toNatClampNeg = l := nI_clamp (by omega)
  have vl : vp_in (nI l) 2 := vp_in_nI hl (by decide)
  have cL : (nI L).toNatClampNeg = L := nI_clamp (by omega)
  refine br_f (nI_pos (by omega)) ⟨vl, nm_r (by rw [cl, hS]) (xn_named hL hst (br_t (nI_lt (by omega) (by omega)) ⟨vl, vl, br_f (by rw [cl]; exact hlt) ⟨vl, vl, nm_r (by rw [cl, htv]) ⟨vp_in_nI hL (by decide), vl, ?_⟩⟩⟩))⟩
  rw [cl, pk_us, cL, hx, nI_1]
  exact xv_val ⟨vp_in_nI hv (by decide), nm_r (by rw [nI_clamp (by omega)]) h⟩
theorem xt_pop {post : Int32 → SX → Prop} {E L l n at' : Nat} (hl : l < 2) (hS : lS l = nI L) (hL : L < 14) (hst : tm_st E (oP L) (oX L) (oY L) (oZ L)) (ha : tm_nm oP oY oZ L < at') (ha2 : at' < 100) (hlt : lL l ≤ lT l) (h : wX_turnLoops_7 post (nI at') eN sN fC oC wt cK cO cR rg oP oX oY oZ lS lT lL va iu sz ke en fd ou n (nI l - 1) (nI l)) : wX_turnLoops_7 post (nI at') eN sN fC oC wt cK cO cR rg oP oX oY oZ lS lT lL va iu sz ke en fd ou (n + 1) (nI (l + 1) - 1) (nI (l + 1)) := by
  have hb := tm_nm_b hst
  rw [nI_pred]
  have cl : (nI l).toNatClampNeg = l := nI_clamp (by omega)
  have vl : vp_in (nI l) 2 := vp_in_nI hl (by decide)
  have e : nI l + (-1) = nI l - 1 := by rw [Int32.sub_eq_add_neg]
  exact br_f (nI_pos (by omega)) ⟨vl, nm_r (by rw [cl, hS]) (xn_named hL hst (br_t (nI_lt (by omega) (by omega)) ⟨vl, vl, br_t (by rw [cl]; exact hlt) (nm_r e h)⟩))⟩
theorem yt_nil {post : Int32 → SY → Prop} {n k : Nat} {x1 : Int32} (hk : k < 1000) (h : wY_run_94 post (wY_run_50 post n) x1 (nI k) yE yN yC dp tp fl (nI 0) kd ex ey yW yP yX yY yZ vs vn zy yK es eu tk sn yO wk sg so nu la tu lz) : wY_run_50 post (n + 1) x1 (nI k) yE yN yC dp tp fl (nI 0) kd ex ey yW yP yX yY yZ vs vn zy yK es eu tk sn yO wk sg so nu la tu lz :=
  br_f (nI_ge (b := 1000) hk (by decide)) (br_t (by decide) h)
theorem yt_stay {post : Int32 → SY → Prop} {E L l n k at' : Nat} (hk : k < 1000) (hl : l < 2) (hS : la l = nI L) (hL : L < 14) (hst : tm_st E (yP L) (yX L) (yY L) (yZ L)) (ha : at' ≤ tm_nm yP yY yZ L) (h : wY_run_94 post (wY_run_50 post n) (nI at') (nI k) yE yN yC dp tp fl (nI (l + 1)) kd ex ey yW yP yX yY yZ vs vn zy yK es eu tk sn yO wk sg so nu la tu lz) : wY_run_50 post (n + 1) (nI at') (nI k) yE yN yC dp tp fl (nI (l + 1)) kd ex ey yW yP yX yY yZ vs vn zy yK es eu tk sn yO wk sg so nu la tu lz := by
  have hb := tm_nm_b hst
  refine br_f (nI_ge (b := 1000) hk (by decide)) (br_f (nI_nle (by omega) (by omega)) ⟨by rw [nI_pred]; exact vp_in_nI hl (by decide), ?_⟩)
  rw [nI_pred, nI_clamp (n := l) (by omega), hS]
  refine yn_named hL hst (br_f ?_ h)
  rw [nI_1]
  intro z
  have := (nI_eq (by omega) (by omega)).mp z
  omega
theorem ya_pre {post : Int32 → SY → Prop} {E L l n k : Nat} (hk : k < 1000) (hl : l < 2) (hS : la l = nI L) (hL : L < 14) (hst : tm_st E (yP L) (yX L) (yY L) (yZ L)) (h : wpY_again (fun r u => match u with | (yE, yN, yC, dp, tp, fl, lo, kd, ex, ey, yW, yP, yX, yY, yZ, vs, vn, zy, yK, es, eu, tk, sn, yO, wk, sg, so, nu, la, tu, lz) => ∀ x : Int32, x = nI k + 1 → wY_run_50 post n r x yE yN yC dp tp fl lo kd ex ey yW yP yX yY yZ vs vn zy yK es eu tk sn yO wk sg so nu la tu lz) (yE, yN, yC, dp, tp, fl, nI (l + 1), kd, ex, ey, yW, yP, yX, yY, yZ, vs, vn, zy, yK, es, eu, tk, sn, yO, wk, sg, so, nu, la, tu, lz) (nI (tm_nm yP yY yZ L + 1))) : wY_run_50 post (n + 1) (nI (tm_nm yP yY yZ L + 1)) (nI k) yE yN yC dp tp fl (nI (l + 1)) kd ex ey yW yP yX yY yZ vs vn zy yK es eu tk sn yO wk sg so nu la tu lz := by
  have hb := tm_nm_b hst
  refine br_f (nI_ge (b := 1000) hk (by decide)) (br_f (nI_nle (by omega) (by omega)) ⟨by rw [nI_pred]; exact vp_in_nI hl (by decide), ?_⟩)
  rw [nI_pred, nI_clamp (n := l) (by omega), hS]
  exact yn_named hL hst (br_t (nI_1 _).symm h)
theorem yt_turn {post : Int32 → SY → Prop} {E L l n k v : Nat} {tv : Int32} (hk : k < 1000) (hl : l < 2) (hS : la l = nI L) (hL : L < 14) (hst : tm_st E (yP L) (yX L) (yY L) (yZ L)) (hlt : ¬ tu l = lz l) (htv : tu l + 1 = tv) (hv : v < 6) (hx : yX L = nI v) (h : wY_run_50 post n (nI (L + 1)) (nI (k + 1)) yE yN yC dp tp fl (nI (l + 1)) kd ex ey yW yP yX yY yZ (upd vs v 1) (upd vn v tv) zy yK es eu tk sn yO wk sg so nu la (upd tu l tv) lz) : wY_run_50 post (n + 1) (nI (tm_nm yP yY yZ L + 1)) (nI k) yE yN yC dp tp fl (nI (l + 1)) kd ex ey yW yP yX yY yZ vs vn zy yK es eu tk sn yO wk sg so nu la tu lz := by
  refine ya_pre hk hl hS hL hst ?_
  unfold wpY_again
  have vl : vp_in (nI (l + 1) - 1) 2 := by rw [nI_pred]; exact vp_in_nI hl (by decide)
  have cl : (nI (l + 1) - 1).toNatClampNeg = l := by rw [nI_pred]; exact nI_clamp (by omega)
  refine ⟨vl, nm_r (by rw [cl, hS]) ⟨vl, vl, br_f (by rw [cl]; exact hlt) ⟨vl, vl, nm_r (by rw [cl, htv]) ⟨vp_in_nI hL (by decide), vl, ?_⟩⟩⟩⟩
  rw [cl, pk_us, nI_clamp (n := L) (by omega), hx, nI_1 L]
  exact y_set hv (nm_r (nI_1 k) h)
theorem yt_pop {post : Int32 → SY → Prop} {E L l n k : Nat} (hk : k < 1000) (hl : l < 2) (hS : la l = nI L) (hL : L < 14) (hst : tm_st E (yP L) (yX L) (yY L) (yZ L)) (hlt : tu l = lz l) (h : wY_run_50 post n (nI (tm_nm yP yY yZ L + 1)) (nI (k + 1)) yE yN yC dp tp fl (nI l) kd ex ey yW yP yX yY yZ vs vn zy yK es eu tk sn yO wk sg so nu la tu lz) : wY_run_50 post (n + 1) (nI (tm_nm yP yY yZ L + 1)) (nI k) yE yN yC dp tp fl (nI (l + 1)) kd ex ey yW yP yX yY yZ vs vn zy yK es eu tk sn yO wk sg so nu la tu lz := by
  refine ya_pre hk hl hS hL hst ?_
  unfold wpY_again
  have vl : vp_in (nI (l + 1) - 1) 2 := by rw [nI_pred]; exact vp_in_nI hl (by decide)
  have cl : (nI (l + 1) - 1).toNatClampNeg = l := by rw [nI_pred]; exact nI_clamp (by omega)
  exact ⟨vl, nm_r (by rw [cl, hS]) ⟨vl, vl, br_t (by rw [cl]; exact hlt) (nm_r (nI_pred l) (nm_r (nI_1 k) h))⟩⟩
end
/-- a LOOP under way as both sides hold it at place i -/
def sk_o (lS lT lL la tu lz : Nat → Int32) (i L t m : Nat) : Prop :=
  lS i = nI L ∧ la i = nI L ∧ lT i = nI t ∧ tu i = nI t ∧ lL i = nI m ∧ lz i = nI m ∧ 1 ≤ t ∧ t ≤ m ∧ m ≤ 5
/-- the LOOPs under way with statement a next; F bounds the steps to come; with p = 1 the innermost may be over -/
def sk_S (p N : Nat) (oP oY oZ : Nat → Int32) (l a F : Nat) (lS lT lL la tu lz : Nat → Int32) : Prop :=
  (l = 0 ∧ a ≤ N ∧ F = 30 * (N - a)) ∨
  (l = 1 ∧ ∃ L t m, sk_o lS lT lL la tu lz 0 L t m ∧ oP L = 3 ∧ L < N ∧ L < a ∧ a ≤ tm_nm oP oY oZ L + p ∧ F = 30 * (N - (tm_nm oP oY oZ L + 1)) + (m - t) * (6 * (tm_nm oP oY oZ L - L) + 1) + 6 * (tm_nm oP oY oZ L + 1 - a) + 1) ∨
  (l = 2 ∧ ∃ L t m L' t' m', sk_o lS lT lL la tu lz 0 L t m ∧ sk_o lS lT lL la tu lz 1 L' t' m' ∧ oP L = 3 ∧ oP L' = 3 ∧ L < N ∧ L < L' ∧ L' < N ∧ tm_nm oP oY oZ L' ≤ tm_nm oP oY oZ L ∧ L' < a ∧ a ≤ tm_nm oP oY oZ L' + p ∧
    F = 30 * (N - (tm_nm oP oY oZ L + 1)) + (m - t) * (6 * (tm_nm oP oY oZ L - L) + 1) + 6 * (tm_nm oP oY oZ L - tm_nm oP oY oZ L') + 1 + (m' - t') * (tm_nm oP oY oZ L' - L' + 1) + (tm_nm oP oY oZ L' + 1 - a) + 1)
theorem sk_mul {m t c : Nat} (h : t < m) : (m - t) * c = (m - (t + 1)) * c + c := by
  rw [show m - t = (m - (t + 1)) + 1 by omega, Nat.succ_mul]
theorem sk_nm3 {E : Nat} {oP oX oY oZ : Nat → Int32} {s : Nat} (h : tm_st E (oP s) (oX s) (oY s) (oZ s)) (h3 : oP s = 3) : s + 1 ≤ tm_nm oP oY oZ s ∧ ∃ v, v < 6 ∧ oX s = nI v := by
  rw [h3] at h
  obtain ⟨hv, _, m, h1, h2, hz⟩ := st_3 h
  refine ⟨?_, hv⟩
  unfold tm_nm
  rw [h3, if_neg (by decide), if_pos rfl, hz, nI_clamp (by omega)]
  omega
/-- only the places of LOOPs under way matter -/
theorem sk_ext {p N l a F : Nat} {oP oY oZ lS lT lL la tu lz lS' lT' lL' la' tu' lz' : Nat → Int32} (h : sk_S p N oP oY oZ l a F lS lT lL la tu lz) (e : ∀ i, i < l → lS' i = lS i ∧ lT' i = lT i ∧ lL' i = lL i ∧ la' i = la i ∧ tu' i = tu i ∧ lz' i = lz i) : sk_S p N oP oY oZ l a F lS' lT' lL' la' tu' lz' := by
  have g : ∀ {i L t m}, i < l → sk_o lS lT lL la tu lz i L t m → sk_o lS' lT' lL' la' tu' lz' i L t m := by
    intro i L t m hi h
    obtain ⟨a, b, c, d, f, g⟩ := e i hi
    unfold sk_o
    rw [a, b, c, d, f, g]; exact h
  rcases h with h | ⟨h, L, t, m, o, r⟩ | ⟨h, L, t, m, L', t', m', o, o', r⟩
  · exact Or.inl h
  · exact Or.inr (Or.inl ⟨h, L, t, m, g (by omega) o, r⟩)
  · exact Or.inr (Or.inr ⟨h, L, t, m, L', t', m', g (by omega) o, g (by omega) o', r⟩)
theorem sk_N {N l a F E : Nat} {oP oX oY oZ lS lT lL la tu lz : Nat → Int32} (hV : tm_VS E N oP oX oY oZ) (hs : tm_snd N oP oY oZ) (h : sk_S 0 N oP oY oZ l a F lS lT lL la tu lz) : a ≤ N ∧ (a = N → l = 0) ∧ l ≤ 2 := by
  rcases h with ⟨h, ha, _⟩ | ⟨h, L, t, m, o, h3, hL, hLa, ha, _⟩ | ⟨h, L, t, m, L', t', m', o, o', h3, h3', hL, hLL, hL', hn, hLa, ha, _⟩
  · exact ⟨ha, fun _ => h, by omega⟩
  · have := (hs L hL).1
    exact ⟨by omega, fun z => by omega, by omega⟩
  · have := (hs L' hL').1
    exact ⟨by omega, fun z => by omega, by omega⟩
theorem sk_go {N l a F E nx : Nat} {oP oX oY oZ lS lT lL la tu lz : Nat → Int32} (hV : tm_VS E N oP oX oY oZ) (hs : tm_snd N oP oY oZ) (h : sk_S 0 N oP oY oZ l a F lS lT lL la tu lz) (ha : a < N) (hn : nx = a + 1 ∨ nx = tm_nm oP oY oZ a + 1) : ∃ F', F' + 1 ≤ F ∧ sk_S 1 N oP oY oZ l nx F' lS lT lL la tu lz := by
  have hb := tm_nm_b (hV a ha)
  have hna := (hs a ha).1
  have hgt : a < nx ∧ nx ≤ tm_nm oP oY oZ a + 1 := by rcases hn with h | h <;> omega
  rcases h with ⟨h, h1, hF⟩ | ⟨h, L, t, m, o, h3, hL, hLa, h1, hF⟩ | ⟨h, L, t, m, L', t', m', o, o', h3, h3', hL, hLL, hL', hnn, hLa, h1, hF⟩
  · exact ⟨30 * (N - nx), by omega, Or.inl ⟨h, by omega, rfl⟩⟩
  · have hle := (hs L hL).2.1 a hLa (by omega)
    refine ⟨_, ?_, Or.inr (Or.inl ⟨h, L, t, m, o, h3, hL, by omega, by omega, rfl⟩)⟩
    rw [hF]
    generalize (m - t) * (6 * (tm_nm oP oY oZ L - L) + 1) = P
    omega
  · have hle := (hs L' hL').2.1 a hLa (by omega)
    refine ⟨_, ?_, Or.inr (Or.inr ⟨h, L, t, m, L', t', m', o, o', h3, h3', hL, hLL, hL', hnn, by omega, by omega, rfl⟩)⟩
    rw [hF]
    generalize (m - t) * (6 * (tm_nm oP oY oZ L - L) + 1) = P
    generalize (m' - t') * (tm_nm oP oY oZ L' - L' + 1) = Q
    omega
theorem sk_l2 {N l a F E : Nat} {oP oX oY oZ lS lT lL la tu lz : Nat → Int32} (hV : tm_VS E N oP oX oY oZ) (hs : tm_snd N oP oY oZ) (h : sk_S 0 N oP oY oZ l a F lS lT lL la tu lz) (ha : a < N) (h3a : oP a = 3) : l < 2 := by
  rcases h with ⟨h, _⟩ | ⟨h, _⟩ | ⟨h, L, t, m, L', t', m', o, o', h3, h3', hL, hLL, hL', hnn, hLa, h1, hF⟩
  · omega
  · omega
  · exfalso
    have hz := (sk_nm3 (hV a ha) h3a).1
    have hna := (hs a ha).1
    have hle := (hs L' hL').2.1 a hLa (by omega)
    have hc := (hs (a + 1) (by omega)).2.2
    have e1 := tm_lo_hit (oP := oP) (oY := oY) (oZ := oZ) (s := a + 1) (c := a) h3a (by omega)
    have e2 := tm_lo_hit (oP := oP) (oY := oY) (oZ := oZ) (s := a + 1) (c := L') h3' (by omega)
    have e3 := tm_lo_hit (oP := oP) (oY := oY) (oZ := oZ) (s := a + 1) (c := L) h3 (by omega)
    have m1 := tm_lo_mono oP oY oZ (a + 1) (c := L' + 1) (d := a) (by omega)
    have m2 := tm_lo_mono oP oY oZ (a + 1) (c := L + 1) (d := L') (by omega)
    omega
theorem sk_open {N l a F E M : Nat} {oP oX oY oZ lS lT lL la tu lz lS' lT' lL' la' tu' lz' : Nat → Int32} (hV : tm_VS E N oP oX oY oZ) (hs : tm_snd N oP oY oZ) (h : sk_S 0 N oP oY oZ l a F lS lT lL la tu lz) (ha : a < N) (h3a : oP a = 3) (hM : 1 ≤ M) (hM5 : M ≤ 5) (e : ∀ i, i < l → lS' i = lS i ∧ lT' i = lT i ∧ lL' i = lL i ∧ la' i = la i ∧ tu' i = tu i ∧ lz' i = lz i) (o1 : sk_o lS' lT' lL' la' tu' lz' l a 1 M) : ∃ F', F' + 1 ≤ F ∧ sk_S 0 N oP oY oZ (l + 1) (a + 1) F' lS' lT' lL' la' tu' lz' := by
  have hz := (sk_nm3 (hV a ha) h3a).1
  have hna := (hs a ha).1
  have hl2 := sk_l2 hV hs h ha h3a
  have h' := sk_ext h e
  rcases h' with ⟨h, h1, hF⟩ | ⟨h, L, t, m, o, h3, hL, hLa, h1, hF⟩ | ⟨h, _⟩
  · subst h
    refine ⟨_, ?_, Or.inr (Or.inl ⟨rfl, a, 1, M, o1, h3a, ha, by omega, by omega, rfl⟩)⟩
    have hle : (M - 1) * (6 * (tm_nm oP oY oZ a - a) + 1) ≤ 4 * (6 * (tm_nm oP oY oZ a - a) + 1) := Nat.mul_le_mul_right _ (by omega)
    rw [hF]
    generalize (M - 1) * (6 * (tm_nm oP oY oZ a - a) + 1) = P at hle ⊢
    omega
  · subst h
    have hle2 := (hs L hL).2.1 a hLa (by omega)
    refine ⟨_, ?_, Or.inr (Or.inr ⟨rfl, L, t, m, a, 1, M, o, o1, h3, h3a, hL, hLa, ha, hle2, by omega, by omega, rfl⟩)⟩
    have hle : (M - 1) * (tm_nm oP oY oZ a - a + 1) ≤ 4 * (tm_nm oP oY oZ a - a + 1) := Nat.mul_le_mul_right _ (by omega)
    rw [hF]
    generalize (m - t) * (6 * (tm_nm oP oY oZ L - L) + 1) = Q
    generalize (M - 1) * (tm_nm oP oY oZ a - a + 1) = P at hle ⊢
    omega
  · omega
end
section
/-! run -/
section
variable {eN sN oL fC oC : Int32} {wt cK cO cR : Nat → Int32} {rg : Nat → Int64} {oP oX oY oZ lS lT lL : Nat → Int32} {va : Nat → Int64} {iu sz ke : Nat → Int32} {en : Nat → Int64} {fd : Nat → Int32} {ou : Nat → Int64} {yE yN yC dp tp fl lo : Int32} {kd ex ey yW yP yX yY yZ vs vn zy yK es eu tk sn : Nat → Int32} {yO : Nat → Int64} {wk sg so nu la tu lz : Nat → Int32}
/-- what turnLoops does in one call, the reference does in some turns of its loop -/
theorem tl_all {E N l q a k F : Nat} {U : Nat → Int32} (hN : N ≤ 14) (hV : tm_VS E N oP oX oY oZ) (hsn : tm_snd N oP oY oZ) (H : tm_HO U sz zy vs vn es eu) (hS : sk_S 1 N oP oY oZ l a F lS lT lL la tu lz) (hk : k + F ≤ 500) :
    ∃ (a' l' F' k' : Nat) (lT' tu' vs' vn' : Nat → Int32), sk_S 0 N oP oY oZ l' a' F' lS lT' lL la tu' lz ∧ k ≤ k' ∧ k' + F' ≤ k + F ∧ tm_HO U sz zy vs' vn' es eu ∧
      (∀ post : Int32 → SX → Prop, post (nI a') (nI E, nI N, nI l', fC, oC, wt, cK, cO, cR, rg, oP, oX, oY, oZ, lS, lT', lL, cv_f vs' vn', iu, sz, ke, en, fd, ou) → wX_turnLoops_7 post (nI a) (nI E) (nI N) fC oC wt cK cO cR rg oP oX oY oZ lS lT lL (cv_f vs vn) iu sz ke en fd ou (l + 1) (nI l - 1) (nI l)) ∧
      (∀ (post : Int32 → SY → Prop) (m : Nat), wY_run_50 post m (nI a') (nI k') (nI E) (nI N) yC dp tp fl (nI l') kd ex ey wt oP oX oY oZ vs' vn' zy yK es eu tk sn yO wk sg so nu la tu' lz → wY_run_50 post (m + (k' - k)) (nI a) (nI k) (nI E) (nI N) yC dp tp fl (nI l) kd ex ey wt oP oX oY oZ vs vn zy yK es eu tk sn yO wk sg so nu la tu lz) := by
  have t0 : ∀ {a k F : Nat}, a ≤ N → F = 30 * (N - a) → 
    ∃ (a' l' F' k' : Nat) (lT' tu' vs' vn' : Nat → Int32), sk_S 0 N oP oY oZ l' a' F' lS lT' lL la tu' lz ∧ k ≤ k' ∧ k' + F' ≤ k + F ∧ tm_HO U sz zy vs' vn' es eu ∧
      (∀ post : Int32 → SX → Prop, post (nI a') (nI E, nI N, nI l', fC, oC, wt, cK, cO, cR, rg, oP, oX, oY, oZ, lS, lT', lL, cv_f vs' vn', iu, sz, ke, en, fd, ou) → wX_turnLoops_7 post (nI a) (nI E) (nI N) fC oC wt cK cO cR rg oP oX oY oZ lS lT lL (cv_f vs vn) iu sz ke en fd ou (0 + 1) (nI 0 - 1) (nI 0)) ∧
      (∀ (post : Int32 → SY → Prop) (m : Nat), wY_run_50 post m (nI a') (nI k') (nI E) (nI N) yC dp tp fl (nI l') kd ex ey wt oP oX oY oZ vs' vn' zy yK es eu tk sn yO wk sg so nu la tu' lz → wY_run_50 post (m + (k' - k)) (nI a) (nI k) (nI E) (nI N) yC dp tp fl (nI 0) kd ex ey wt oP oX oY oZ vs vn zy yK es eu tk sn yO wk sg so nu la tu lz) := by
    intro a k F ha hF
    refine ⟨a, 0, F, k, lT, tu, vs, vn, Or.inl ⟨rfl, ha, hF⟩, Nat.le_refl k, Nat.le_refl _, H, fun post hp => xt_nil hp, fun post m hp => ?_⟩
    rw [Nat.sub_self]; exact hp
  have t1 : ∀ {a k F L t m : Nat}, sk_o lS lT lL la tu lz 0 L t m → oP L = 3 → L < N → L < a → a ≤ tm_nm oP oY oZ L + 1 → F = 30 * (N - (tm_nm oP oY oZ L + 1)) + (m - t) * (6 * (tm_nm oP oY oZ L - L) + 1) + 6 * (tm_nm oP oY oZ L + 1 - a) + 1 → k + F ≤ 500 →
    ∃ (a' l' F' k' : Nat) (lT' tu' vs' vn' : Nat → Int32), sk_S 0 N oP oY oZ l' a' F' lS lT' lL la tu' lz ∧ k ≤ k' ∧ k' + F' ≤ k + F ∧ tm_HO U sz zy vs' vn' es eu ∧
      (∀ post : Int32 → SX → Prop, post (nI a') (nI E, nI N, nI l', fC, oC, wt, cK, cO, cR, rg, oP, oX, oY, oZ, lS, lT', lL, cv_f vs' vn', iu, sz, ke, en, fd, ou) → wX_turnLoops_7 post (nI a) (nI E) (nI N) fC oC wt cK cO cR rg oP oX oY oZ lS lT lL (cv_f vs vn) iu sz ke en fd ou (1 + 1) (nI 1 - 1) (nI 1)) ∧
      (∀ (post : Int32 → SY → Prop) (m : Nat), wY_run_50 post m (nI a') (nI k') (nI E) (nI N) yC dp tp fl (nI l') kd ex ey wt oP oX oY oZ vs' vn' zy yK es eu tk sn yO wk sg so nu la tu' lz → wY_run_50 post (m + (k' - k)) (nI a) (nI k) (nI E) (nI N) yC dp tp fl (nI 1) kd ex ey wt oP oX oY oZ vs vn zy yK es eu tk sn yO wk sg so nu la tu lz) := by
    intro a k F L t m o h3 hL hLa ha hF hk
    obtain ⟨o1, o2, o3, o4, o5, o6, ht, htm, hm⟩ := o
    have hst := hV L hL
    obtain ⟨hz, v, hv, hx⟩ := sk_nm3 hst h3
    have hnN := (hsn L hL).1
    by_cases hp : a ≤ tm_nm oP oY oZ L
    · refine ⟨a, 1, F, k, lT, tu, vs, vn, Or.inr (Or.inl ⟨rfl, L, t, m, ⟨o1, o2, o3, o4, o5, o6, ht, htm, hm⟩, h3, hL, hLa, hp, hF⟩), Nat.le_refl k, Nat.le_refl _, H, fun post hq => xt_stay (l := 0) (by decide) o1 (by omega) hst hp hq, fun post n hq => ?_⟩
      rw [Nat.sub_self]; exact hq
    · obtain rfl : a = tm_nm oP oY oZ L + 1 := by omega
      by_cases htl : t < m
      · refine ⟨L + 1, 1, F - 1, k + 1, upd lT 0 (nI (t + 1)), upd tu 0 (nI (t + 1)), upd vs v 1, upd vn v (nI (t + 1)), Or.inr (Or.inl ⟨rfl, L, t + 1, m, ⟨o1, o2, pk_us, pk_us, o5, o6, by omega, by omega, hm⟩, h3, hL, by omega, by omega, ?_⟩), by omega, by omega, tm_let H v (Or.inr (Or.inl rfl)), fun post hq => ?_, fun post n hq => ?_⟩
        · rw [hF, sk_mul htl]
          generalize (m - (t + 1)) * (6 * (tm_nm oP oY oZ L - L) + 1) = P
          omega
        · refine xt_turn (l := 0) (by decide) o1 (by omega) hst (by omega) (by omega) (by rw [o3, o5]; exact nI_ge (by omega) (by omega)) (by rw [o3, nI_1]) hv hx ?_
          rw [cv_fu]; exact hq
        · rw [show n + (k + 1 - k) = n + 1 by omega]
          refine yt_turn (l := 0) (by omega) (by decide) o2 (by omega) hst (by rw [o4, o6]; intro z; have := (nI_eq (by omega) (by omega)).mp z; omega) (by rw [o4, nI_1]) hv hx hq
      · have etm : t = m := by omega
        subst etm
        have hF2 : F = 30 * (N - (tm_nm oP oY oZ L + 1)) + 1 := by
          rw [hF, Nat.sub_self, Nat.zero_mul]; omega
        obtain ⟨a', l', F', k', lT', tu', vs', vn', s0, hkk, hkF, H', fX, fY⟩ := t0 (a := tm_nm oP oY oZ L + 1) (k := k + 1) (by omega) rfl
        refine ⟨a', l', F', k', lT', tu', vs', vn', s0, by omega, by omega, H', fun post hq => xt_pop (l := 0) (by decide) o1 (by omega) hst (by omega) (by omega) (by rw [o3, o5]; exact nI_le (Nat.le_refl _) (by omega)) (fX post hq), fun post n hq => ?_⟩
        rw [show n + (k' - k) = (n + (k' - (k + 1))) + 1 by omega]
        exact yt_pop (l := 0) (by omega) (by decide) o2 (by omega) hst (by rw [o4, o6]) (fY post n hq)
  rcases hS with ⟨rfl, ha, hF⟩ | ⟨rfl, L, t, m, o, h3, hL, hLa, ha, hF⟩ | ⟨rfl, L, t, m, L', t', m', o, o', h3, h3', hL, hLL, hL', hnn, hLa, ha, hF⟩
  · exact t0 ha hF
  · exact t1 o h3 hL hLa ha hF hk
  · obtain ⟨o1, o2, o3, o4, o5, o6, ht, htm, hm⟩ := o'
    have hst := hV L' hL'
    obtain ⟨hz, v, hv, hx⟩ := sk_nm3 hst h3'
    have hnN := (hsn L' hL').1
    by_cases hp : a ≤ tm_nm oP oY oZ L'
    · refine ⟨a, 2, F, k, lT, tu, vs, vn, Or.inr (Or.inr ⟨rfl, L, t, m, L', t', m', o, ⟨o1, o2, o3, o4, o5, o6, ht, htm, hm⟩, h3, h3', hL, hLL, hL', hnn, hLa, hp, hF⟩), Nat.le_refl k, Nat.le_refl _, H, fun post hq => xt_stay (l := 1) (by decide) o1 (by omega) hst hp hq, fun post n hq => ?_⟩
      rw [Nat.sub_self]; exact hq
    · obtain rfl : a = tm_nm oP oY oZ L' + 1 := by omega
      by_cases htl : t' < m'
      · obtain ⟨p1, p2, p3, p4, p5, p6, p7⟩ := o
        refine ⟨L' + 1, 2, F - 1, k + 1, upd lT 1 (nI (t' + 1)), upd tu 1 (nI (t' + 1)), upd vs v 1, upd vn v (nI (t' + 1)), Or.inr (Or.inr ⟨rfl, L, t, m, L', t' + 1, m', ⟨p1, p2, (pk_un (by decide)).trans p3, (pk_un (by decide)).trans p4, p5, p6, p7⟩, ⟨o1, o2, pk_us, pk_us, o5, o6, by omega, by omega, hm⟩, h3, h3', hL, hLL, hL', hnn, by omega, by omega, ?_⟩), by omega, by omega, tm_let H v (Or.inr (Or.inl rfl)), fun post hq => ?_, fun post n hq => ?_⟩
        · rw [hF, sk_mul htl]
          generalize (m - t) * (6 * (tm_nm oP oY oZ L - L) + 1) = Q
          generalize (m' - (t' + 1)) * (tm_nm oP oY oZ L' - L' + 1) = P
          omega
        · refine xt_turn (l := 1) (by decide) o1 (by omega) hst (by omega) (by omega) (by rw [o3, o5]; exact nI_ge (by omega) (by omega)) (by rw [o3, nI_1]) hv hx ?_
          rw [cv_fu]; exact hq
        · rw [show n + (k + 1 - k) = n + 1 by omega]
          refine yt_turn (l := 1) (by omega) (by decide) o2 (by omega) hst (by rw [o4, o6]; intro z; have := (nI_eq (by omega) (by omega)).mp z; omega) (by rw [o4, nI_1]) hv hx hq
      · have etm : t' = m' := by omega
        subst etm
        have hF2 : F = 30 * (N - (tm_nm oP oY oZ L + 1)) + (m - t) * (6 * (tm_nm oP oY oZ L - L) + 1) + 6 * (tm_nm oP oY oZ L - tm_nm oP oY oZ L') + 1 + 1 := by
          rw [hF, Nat.sub_self t', Nat.zero_mul]; omega
        have hF3 : 30 * (N - (tm_nm oP oY oZ L + 1)) + (m - t) * (6 * (tm_nm oP oY oZ L - L) + 1) + 6 * (tm_nm oP oY oZ L + 1 - (tm_nm oP oY oZ L' + 1)) + 1 + 1 = F := by
          rw [hF2, show tm_nm oP oY oZ L + 1 - (tm_nm oP oY oZ L' + 1) = tm_nm oP oY oZ L - tm_nm oP oY oZ L' by omega]
        obtain ⟨a', l', F', k', lT', tu', vs', vn', s0, hkk, hkF, H', fX, fY⟩ := t1 (a := tm_nm oP oY oZ L' + 1) (k := k + 1) o h3 hL (by omega) (by omega) rfl (by omega)
        refine ⟨a', l', F', k', lT', tu', vs', vn', s0, by omega, by omega, H', fun post hq => xt_pop (l := 1) (by decide) o1 (by omega) hst (by omega) (by omega) (by rw [o3, o5]; exact nI_le (Nat.le_refl _) (by omega)) (fX post hq), fun post n hq => ?_⟩
        rw [show n + (k' - k) = (n + (k' - (k + 1))) + 1 by omega]
        exact yt_pop (l := 1) (by omega) (by decide) o2 (by omega) hst (by rw [o4, o6]) (fY post n hq)
/-- the reference's head of a turn, where no LOOP is over -/
theorem yt_head {post : Int32 → SY → Prop} {E N l a F n k : Nat} {lS lT lL : Nat → Int32} (hN : N ≤ 14) (hV : tm_VS E N yP yX yY yZ) (hS : sk_S 0 N yP yY yZ l a F lS lT lL la tu lz) (hk : k < 1000) (h : wY_run_94 post (wY_run_50 post n) (nI a) (nI k) yE yN yC dp tp fl (nI l) kd ex ey yW yP yX yY yZ vs vn zy yK es eu tk sn yO wk sg so nu la tu lz) : wY_run_50 post (n + 1) (nI a) (nI k) yE yN yC dp tp fl (nI l) kd ex ey yW yP yX yY yZ vs vn zy yK es eu tk sn yO wk sg so nu la tu lz := by
  rcases hS with ⟨rfl, ha, hF⟩ | ⟨rfl, L, t, m, o, h3, hL, hLa, ha, hF⟩ | ⟨rfl, L, t, m, L', t', m', o, o', h3, h3', hL, hLL, hL', hnn, hLa, ha, hF⟩
  · exact yt_nil hk h
  · exact yt_stay (l := 0) hk (by decide) o.2.1 (by omega) (hV L hL) ha h
  · exact yt_stay (l := 1) hk (by decide) o'.2.1 (by omega) (hV L' hL') ha h
theorem rn_rel {E N : Nat} {oC' : Int32} (hE : E ≤ 30) (hN : N ≤ 14) (hVE : tm_VE E kd ex ey wt cK cO cR) (hVS : tm_VS E N oP oX oY oZ) (hU : ∃ U, tm_HO U sz zy vs vn es eu) (hiu : ∀ t, 20 ≤ t → iu t = 0) (htk : ∀ t, 24 ≤ t → tk t = 0) :
    i_Rel 0 (nI E, nI N, oL, fC, oC, wt, cK, cO, cR, rg, oP, oX, oY, oZ, lS, lT, lL, cv_f vs vn, iu, sz, ke, cv_f es eu, fd, ou) (nI E, nI N, oC, dp, tp, fl, lo, kd, ex, ey, wt, oP, oX, oY, oZ, vs, vn, zy, ke, es, eu, tk, sn, ou, wk, sg, so, nu, la, tu, lz) := by
  obtain ⟨U, H⟩ := hU
  exact ⟨E, N, oL, fC, oC, wt, cK, cO, cR, rg, oP, oX, oY, oZ, lS, lT, lL, iu, sz, ke, fd, ou, dp, tp, fl, lo, kd, ex, ey, vs, vn, zy, es, eu, tk, sn, wk, sg, so, nu, la, tu, lz, rfl, rfl, hE, hN, hVE, hVS, hiu, htk, U, H⟩
theorem rn_end {E N a k j l q F : Nat} (hE : E ≤ 30) (hN : N ≤ 14) (hVE : tm_VE E kd ex ey wt cK cO cR) (hVS : tm_VS E N oP oX oY oZ) (hU : ∃ U, tm_HO U sz zy vs vn es eu) (hiu : ∀ t, 20 ≤ t → iu t = 0) (htk : ∀ t, 24 ≤ t → tk t = 0) (hS : sk_S 0 N oP oY oZ l a F lS lT lL la tu lz) (ha : a = N) (hk : k ≤ 500) (hj : j ≤ k) :
    ∃ (r : Int32) (u' : SX) (v' : SY) (n m : Nat), i_Rel 0 u' v' ∧ (∀ post : Int32 → SX → Prop, post r u' → wX_run_45 post n (nI a) (nI j) (nI E) (nI N) (nI l) fC (nI q) wt cK cO cR rg oP oX oY oZ lS lT lL (cv_f vs vn) iu sz ke (cv_f es eu) fd ou) ∧ (∀ post : Int32 → SY → Prop, post r v' → wY_run_50 post m (nI a) (nI k) (nI E) (nI N) (nI q) dp tp 0 (nI l) kd ex ey wt oP oX oY oZ vs vn zy ke es eu tk sn ou wk sg so nu la tu lz) := by
  refine ⟨-4, (nI E, nI N, nI l, fC, nI q, wt, cK, cO, cR, rg, oP, oX, oY, oZ, lS, lT, lL, cv_f vs vn, iu, sz, ke, cv_f es eu, fd, ou), (nI E, nI N, nI q, dp, tp, 0, nI l, kd, ex, ey, wt, oP, oX, oY, oZ, vs, vn, zy, ke, es, eu, tk, sn, ou, wk, sg, so, nu, la, tu, lz), 1, 1, rn_rel (oC' := nI q) hE hN hVE hVS hU hiu htk, fun post hp => ?_, fun post hp => ?_⟩
  · exact br_f (nI_ge (b := 100000) (by omega) (by decide)) (br_t (nI_le (by omega) (by omega)) hp)
  · refine yt_head hN hVS hS (by omega) ?_
    unfold wY_run_94
    exact br_f (nI_nlt (by omega) (by omega)) hp
theorem rn_m1 {a : Nat} (ha : a < 100) : ¬ nI a = -1 := by
  intro z
  have := congrArg Int32.toInt z
  rw [nI_toInt (by omega), show (-1 : Int32).toInt = -1 from by decide] at this
  omega
theorem rn_all {E N : Nat} (hE : E ≤ 30) (hN : N ≤ 14) (hVE : tm_VE E kd ex ey wt cK cO cR) (hVS : tm_VS E N oP oX oY oZ) (hsn : tm_snd N oP oY oZ) : ∀ B F : Nat, F ≤ B → ∀ (a k j l q : Nat) (fC : Int32) (rg : Nat → Int64) (lS lT lL iu sz ke fd : Nat → Int32) (ou : Nat → Int64) (dp tp : Int32) (vs vn zy es eu tk sn wk sg so nu la tu lz : Nat → Int32),
    (∃ U, tm_HO U sz zy vs vn es eu) → (∀ t, 20 ≤ t → iu t = 0) → (∀ t, 24 ≤ t → tk t = 0) → sk_S 0 N oP oY oZ l a F lS lT lL la tu lz → k + F ≤ 500 → j ≤ k → q ≤ k →
    ∃ (r : Int32) (u' : SX) (v' : SY) (n m : Nat), i_Rel 0 u' v' ∧ (∀ post : Int32 → SX → Prop, post r u' → wX_run_45 post n (nI a) (nI j) (nI E) (nI N) (nI l) fC (nI q) wt cK cO cR rg oP oX oY oZ lS lT lL (cv_f vs vn) iu sz ke (cv_f es eu) fd ou) ∧ (∀ post : Int32 → SY → Prop, post r v' → wY_run_50 post m (nI a) (nI k) (nI E) (nI N) (nI q) dp tp 0 (nI l) kd ex ey wt oP oX oY oZ vs vn zy ke es eu tk sn ou wk sg so nu la tu lz) := by
  intro B
  induction B with
  | zero =>
    intro F hF a k j l q fC rg lS lT lL iu sz ke fd ou dp tp vs vn zy es eu tk sn wk sg so nu la tu lz hU hiu htk hS hk hj hq
    have haN := sk_N hVS hsn hS
    have hx : a = N := by
      by_cases q : a = N
      · exact q
      · obtain ⟨F', h1, _⟩ := sk_go hVS hsn hS (by omega) (Or.inl rfl)
        omega
    exact rn_end hE hN hVE hVS hU hiu htk hS hx (by omega) hj
  | succ B ih =>
    intro F hF a k j l q fC rg lS lT lL iu sz ke fd ou dp tp vs vn zy es eu tk sn wk sg so nu la tu lz hU hiu htk hS hk hj hq
    have haN := sk_N hVS hsn hS
    by_cases hx : a = N
    · exact rn_end hE hN hVE hVS hU hiu htk hS hx (by omega) hj
    have ha : a < N := by omega
    have hst := hVS a ha
    have hna := (hsn a ha).1
    have hb := tm_nm_b hst
    have hl2 : oP a = 3 → l < 2 := sk_l2 hVS hsn hS ha
    obtain ⟨U, H⟩ := hU
    have j5 : ¬ (100000 : Int32) ≤ nI j := nI_ge (b := 100000) (by omega) (by decide)
    have aN : ¬ nI N ≤ nI a := nI_ge ha (by omega)
    obtain ⟨fC', rg', iu', sz', ke', fd', q', ou', dp', tp', fl', vs', vn', zy', es', eu', tk', sn', wk', sg', so', nu', hU', hiu', htk', hq', hc⟩ := sl_all (fC := fC) (wt := wt) (cK := cK) (cO := cO) (cR := cR) (rg := rg) (oP := oP) (oX := oX) (oY := oY) (oZ := oZ) (lS := lS) (lT := lT) (lL := lL) (iu := iu) (sz := sz) (ke := ke) (fd := fd) (ou := ou) (dp := dp) (tp := tp) (kd := kd) (ex := ex) (ey := ey) (vs := vs) (vn := vn) (zy := zy) (es := es) (eu := eu) (tk := tk) (sn := sn) (wk := wk) (sg := sg) (so := so) (nu := nu) (la := la) (tu := tu) (lz := lz) (l := l) (q := q) hE hN hVE hVS hiu htk H ha hl2 (by omega)
    rcases hc with ⟨hX, hY⟩ | ⟨nx, hn, rfl, hX, hY⟩ | ⟨h3, rfl, n, lim, v, hv, hxv, hlim, hX, hY⟩
    · refine ⟨nI a, (nI E, nI N, nI l, fC', nI q', wt, cK, cO, cR, rg', oP, oX, oY, oZ, lS, lT, lL, cv_f vs' vn', iu', sz', ke', cv_f es' eu', fd', ou'), (nI E, nI N, nI q', dp', tp', fl', nI l, kd, ex, ey, wt, oP, oX, oY, oZ, vs', vn', zy', ke', es', eu', tk', sn', ou', wk', sg', so', nu', la, tu, lz), 1, 1, ?_, fun post hp => ?_, fun post hp => ?_⟩
      rotate_left
      · exact br_f j5 (br_f aN (hX _ (br_t rfl hp)))
      · exact yt_head hN hVS hS (by omega) (hY post _ k hp)
      · exact rn_rel (oC' := nI q') hE hN hVE hVS hU' hiu' htk'
    · obtain ⟨F1, hF1, S1⟩ := sk_go hVS hsn hS ha hn
      obtain ⟨U', H'⟩ := hU'
      obtain ⟨a2, l2, F2, k2, lT2, tu2, vs2, vn2, S2, hk2, hkF, H2, tX, tY⟩ := tl_all (fC := fC') (oC := nI q') (wt := wt) (cK := cK) (cO := cO) (cR := cR) (rg := rg') (oP := oP) (oX := oX) (oY := oY) (oZ := oZ) (lS := lS) (lT := lT) (lL := lL) (iu := iu') (sz := sz') (ke := ke') (en := cv_f es' eu') (fd := fd') (ou := ou') (yC := nI q') (dp := dp') (tp := tp') (fl := 0) (kd := kd) (ex := ex) (ey := ey) (vs := vs') (vn := vn') (zy := zy') (yK := ke') (es := es') (eu := eu') (tk := tk') (sn := sn') (yO := ou') (wk := wk') (sg := sg') (so := so') (nu := nu') (la := la) (tu := tu) (lz := lz) (q := 0) (k := k + 1) hN hVS hsn H' S1 (by omega)
      obtain ⟨r, u', v', n, m, R, iX, iY⟩ := ih F2 (by omega) a2 k2 (j + 1) l2 q' fC' rg' lS lT2 lL iu' sz' ke' fd' ou' dp' tp' vs2 vn2 zy' es' eu' tk' sn' wk' sg' so' nu' la tu2 lz ⟨U', H2⟩ hiu' htk' S2 (by omega) (by omega) (by omega)
      refine ⟨r, u', v', n + 1, m + (k2 - (k + 1)) + 1, R, fun post hp => ?_, fun post hp => ?_⟩
      · refine br_f j5 (br_f aN (hX _ (br_f (rn_m1 (by omega)) ?_)))
        unfold wpX_turnLoops
        exact nm_e ⟨_, tX _ (nm_r (nI_1 j) (iX post hp))⟩
      · exact yt_head hN hVS hS (by omega) (hY post _ k (tY post m (iY post hp)))
    · have hl := hl2 h3
      obtain ⟨U', H'⟩ := hU'
      rcases hY with ⟨hn, hY⟩ | ⟨hn, hY⟩
      · obtain ⟨F1, hF1, S1⟩ := sk_go hVS hsn hS ha (Or.inr rfl)
        have hlim0 : lim ≤ 0 := by
          have h1 : n.toInt < 1 := by
            have := Int32.not_le.mp hn
            rw [Int32.lt_iff_toInt_lt] at this
            exact this
          rcases hlim with ⟨_, rfl⟩ | ⟨h5, _⟩
          · rw [Int32.le_iff_toInt_le, show (0 : Int32).toInt = 0 from by decide]; omega
          · exfalso
            refine h5 ?_
            rw [Int32.le_iff_toInt_le, show (5 : Int32).toInt = 5 from by decide]; omega
        have S1' : sk_S 1 N oP oY oZ l (tm_nm oP oY oZ a + 1) F1 (upd lS l (nI a)) (upd lT l 0) (upd lL l lim) la tu lz := sk_ext S1 (fun i hi => ⟨pk_un (by omega), pk_un (by omega), pk_un (by omega), rfl, rfl, rfl⟩)
        obtain ⟨a2, l2, F2, k2, lT2, tu2, vs2, vn2, S2, hk2, hkF, H2, tX, tY⟩ := tl_all (fC := fC') (oC := nI q') (wt := wt) (cK := cK) (cO := cO) (cR := cR) (rg := rg') (oP := oP) (oX := oX) (oY := oY) (oZ := oZ) (lS := upd lS l (nI a)) (lT := upd lT l 0) (lL := upd lL l lim) (iu := iu') (sz := sz') (ke := ke') (en := cv_f es' eu') (fd := fd') (ou := ou') (yC := nI q') (dp := dp') (tp := tp') (fl := 0) (kd := kd) (ex := ex) (ey := ey) (vs := vs') (vn := vn') (zy := zy') (yK := ke') (es := es') (eu := eu') (tk := tk') (sn := sn') (yO := ou') (wk := wk') (sg := sg') (so := so') (nu := nu') (la := la) (tu := tu) (lz := lz) (q := 0) (k := k + 1) hN hVS hsn H' S1' (by omega)
        obtain ⟨r, u', v', n, m, R, iX, iY⟩ := ih F2 (by omega) a2 k2 (j + 1) l2 q' fC' rg' (upd lS l (nI a)) lT2 (upd lL l lim) iu' sz' ke' fd' ou' dp' tp' vs2 vn2 zy' es' eu' tk' sn' wk' sg' so' nu' la tu2 lz ⟨U', H2⟩ hiu' htk' S2 (by omega) (by omega) (by omega)
        refine ⟨r, u', v', n + 1, m + (k2 - (k + 1)) + 1, R, fun post hp => ?_, fun post hp => ?_⟩
        · refine br_f j5 (br_f aN (hX _ (br_f (rn_m1 (by omega)) ?_)))
          unfold wpX_turnLoops
          exact nm_e ⟨_, xt_pop hl pk_us (by omega) hst (by omega) (by omega) (by rw [pk_us, pk_us]; exact hlim0) (tX _ (nm_r (nI_1 j) (iX post hp)))⟩
        · exact yt_head hN hVS hS (by omega) (hY post _ k (tY post m (iY post hp)))
      · have hM : ∃ M, 1 ≤ M ∧ M ≤ 5 ∧ lim = nI M := by
          rcases hlim with ⟨h5, rfl⟩ | ⟨_, rfl⟩
          · have h0 : ¬ lim < 0 := fun z => by
              have := Int32.lt_of_le_of_lt hn z
              exact absurd this (by decide)
            obtain ⟨M, hM, rfl⟩ := nI_of2 (M := 5) (n := 5) (by decide) h0 h5
            exact ⟨M, (nI_leI (a := 1) (by decide) (by omega)).mp hn, hM, rfl⟩
          · exact ⟨5, by decide, by decide, rfl⟩
        obtain ⟨M, hM1, hM5, rfl⟩ := hM
        obtain ⟨F1, hF1, S1⟩ := sk_open (lS' := upd lS l (nI a)) (lT' := upd (upd lT l 0) l 1) (lL' := upd lL l (nI M)) (la' := upd la l (nI a)) (tu' := upd tu l 1) (lz' := upd lz l (nI M)) hVS hsn hS ha h3 hM1 hM5 (fun i hi => ⟨pk_un (by omega), by rw [pk_un (by omega), pk_un (by omega)], pk_un (by omega), pk_un (by omega), pk_un (by omega), pk_un (by omega)⟩) ⟨pk_us, pk_us, pk_us, pk_us, pk_us, pk_us, by omega, hM1, hM5⟩
        obtain ⟨r, u', v', n, m, R, iX, iY⟩ := ih F1 (by omega) (a + 1) (k + 1) (j + 1) (l + 1) q' fC' rg' (upd lS l (nI a)) (upd (upd lT l 0) l 1) (upd lL l (nI M)) iu' sz' ke' fd' ou' dp' tp' (upd vs' v 1) (upd vn' v 1) zy' es' eu' tk' sn' wk' sg' so' nu' (upd la l (nI a)) (upd tu l 1) (upd lz l (nI M)) ⟨U', tm_let H' v (Or.inr (Or.inl rfl))⟩ hiu' htk' S1 (by omega) (by omega) (by omega)
        refine ⟨r, u', v', n + 1, m + 1, R, fun post hp => ?_, fun post hp => ?_⟩
        · refine br_f j5 (br_f aN (hX _ (br_f (rn_m1 (by omega)) ?_)))
          unfold wpX_turnLoops
          refine nm_e ⟨1, xt_turn (n := 0) (tv := 1) hl pk_us (by omega) hst (by omega) (by omega) (by rw [pk_us, pk_us]; exact nI_nle (by omega) (by omega)) (by rw [pk_us]; rfl) hv hxv ?_⟩
          rw [cv_fu]
          exact nm_r (nI_1 j) (iX post hp)
        · exact yt_head hN hVS hS (by omega) (hY post _ k (iY post hp))
/-! the variables are emptied first -/
end
def rn_c (f : Nat → Int32) (i : Nat) : Nat → Int32 := fun j => if j < i then 0 else f j
theorem rn_c0 (f : Nat → Int32) : rn_c f 0 = f := by
  funext j; unfold rn_c; rw [if_neg (by omega)]
theorem rn_cs (f : Nat → Int32) (i : Nat) : upd (rn_c f i) i 0 = rn_c f (i + 1) := by
  funext j
  by_cases e : j = i
  · subst e
    rw [pk_us]
    unfold rn_c
    rw [if_pos (by omega)]
  · rw [pk_un e]
    unfold rn_c
    by_cases h : j < i
    · rw [if_pos h, if_pos (by omega)]
    · rw [if_neg h, if_neg (by omega)]
section
variable {eN sN oL fC oC : Int32} {wt cK cO cR : Nat → Int32} {rg : Nat → Int64} {oP oX oY oZ lS lT lL : Nat → Int32} {va : Nat → Int64} {iu sz ke : Nat → Int32} {en : Nat → Int64} {fd : Nat → Int32} {ou : Nat → Int64} {yE yN yC dp tp fl lo : Int32} {kd ex ey yW yP yX yY yZ vs vn zy yK es eu tk sn : Nat → Int32} {yO : Nat → Int64} {wk sg so nu la tu lz : Nat → Int32}
theorem rx_12 {post : Int32 → SX → Prop} (h : ∃ n, wX_run_45 post n (nI 0) (nI 0) eN sN (nI 0) fC (nI 0) wt cK cO cR rg oP oX oY oZ lS lT lL (cv_f (rn_c vs 6) (rn_c vn 6)) iu sz ke en fd ou) : ∀ d i : Nat, i + d = 6 → wX_run_12 post eN sN oL fC oC (d + 1) (nI i) wt cK cO cR rg oP oX oY oZ lS lT lL (cv_f (rn_c vs i) (rn_c vn i)) iu sz ke en fd ou := by
  intro d
  induction d with
  | zero =>
    intro i hi
    obtain rfl : i = 6 := by omega
    exact br_t (by decide) h
  | succ d ih =>
    intro i hi
    have e : vp_updL (cv_f (rn_c vs i) (rn_c vn i)) i 0 = cv_f (rn_c vs (i + 1)) (rn_c vn (i + 1)) := by
      rw [← cv_00, cv_fu, rn_cs, rn_cs]
    exact br_f (nI_ge (b := 6) (by omega) (by decide)) ⟨vp_in_nI (by omega) (by decide), nm_r (by rw [nI_clamp (by omega), e]) (nm_r (nI_1 i) (ih (i + 1) (by omega)))⟩
theorem ry_12 {post : Int32 → SY → Prop} (h : ∃ n, wY_run_50 post n (nI 0) (nI 0) yE yN (nI 0) dp tp 0 (nI 0) kd ex ey yW yP yX yY yZ (rn_c vs 6) (rn_c vn 6) zy yK es eu tk sn yO wk sg so nu la tu lz) : ∀ d i : Nat, i + d = 6 → wY_run_12 post (d + 1) (nI i) yE yN yC dp tp fl lo kd ex ey yW yP yX yY yZ (rn_c vs i) (rn_c vn i) zy yK es eu tk sn yO wk sg so nu la tu lz := by
  intro d
  induction d with
  | zero =>
    intro i hi
    obtain rfl : i = 6 := by omega
    exact br_t (by decide) h
  | succ d ih =>
    intro i hi
    refine br_f (nI_ge (b := 6) (by omega) (by decide)) (y_set (by omega) ?_)
    rw [rn_cs, rn_cs]
    exact nm_r (nI_1 i) (ih (i + 1) (by omega))
end
theorem i_vc_run {k : Nat} {u : SX} {v : SY} (I : i_Rel k u v) (hk : k + 5 ≤ 2560) : wpX_run (fun r u' => wpY_run (fun r' v' => r' = r ∧ i_Rel (k + 5) u' v') v) u := by
  have hR := i_up I
  obtain ⟨E, N, oL, fC, oC, wt, cK, cO, cR, rg, oP, oX, oY, oZ, lS, lT, lL, iu, sz, ke, fd, ou, dp, tp, fl, lo, kd, ex, ey, vs, vn, zy, es, eu, tk, sn, wk, sg, so, nu, la, tu, lz, rfl, rfl, J⟩ := I
  obtain ⟨hE, hN, hVE, hVS, hiu, htk, U, H⟩ := J
  unfold wpX_run
  refine xn_sound hVS hN (fun hs => br_f (by decide) ?_) (fun hs => br_t rfl ?_)
  · have H0 : tm_HO (fun _ => 0) sz zy (rn_c vs 6) (rn_c vn 6) es eu := by
      refine ⟨fun t h => absurd rfl h, fun t i m h => absurd rfl h, fun w hw => Or.inl ?_⟩
      unfold rn_c
      rw [if_pos hw, if_pos hw]
      exact ⟨rfl, rfl⟩
    obtain ⟨r, u', v', n, m, R, iX, iY⟩ := rn_all hE hN hVE hVS hs (30 * N) (30 * N) (Nat.le_refl _) 0 0 0 0 0 fC rg lS lT lL iu sz ke fd ou dp tp (rn_c vs 6) (rn_c vn 6) zy es eu tk sn wk sg so nu la tu lz ⟨_, H0⟩ hiu htk (Or.inl ⟨rfl, by omega, rfl⟩) (by omega) (by omega) (by omega)
    have gY : wpY_run (fun r' v'' => r' = r ∧ i_Rel (k + 5) u' v'') (nI E, nI N, oC, dp, tp, fl, lo, kd, ex, ey, wt, oP, oX, oY, oZ, vs, vn, zy, ke, es, eu, tk, sn, ou, wk, sg, so, nu, la, tu, lz) := by
      unfold wpY_run
      refine yn_sound hVS hN (fun _ => br_f (by decide) ?_) (fun z => absurd hs z)
      have h := ry_12 (yC := oC) (fl := fl) (lo := lo) (vs := vs) (vn := vn) ⟨m, iY (fun r' v'' => r' = r ∧ i_Rel (k + 5) u' v'') ⟨rfl, R⟩⟩ 6 0 (by decide)
      rw [rn_c0, rn_c0] at h
      exact ⟨_, h⟩
    have h := rx_12 (oL := oL) (oC := oC) (vs := vs) (vn := vn) ⟨n, iX (fun r u' => wpY_run (fun r' v' => r' = r ∧ i_Rel (k + 5) u' v') (nI E, nI N, oC, dp, tp, fl, lo, kd, ex, ey, wt, oP, oX, oY, oZ, vs, vn, zy, ke, es, eu, tk, sn, ou, wk, sg, so, nu, la, tu, lz)) gY⟩ 6 0 (by decide)
    rw [rn_c0, rn_c0] at h
    exact ⟨_, h⟩
  · unfold wpY_run
    exact yn_sound hVS hN (fun z => absurd z hs) (fun _ => br_t rfl ⟨rfl, hR⟩)
end
