/-! rows pasted from kit/rows, and the values: a long is 4 times the number plus the sort -/
theorem pk_us {f : Nat → Int32} {k : Nat} {x : Int32} : upd f k x k = x := if_pos rfl
theorem pk_un {f : Nat → Int32} {k j : Nat} {x : Int32} (h : j ≠ k) : upd f k x j = f j := if_neg h
theorem pk_uLs {f : Nat → Int64} {k : Nat} {x : Int64} : vp_updL f k x k = x := if_pos rfl
theorem pk_uLn {f : Nat → Int64} {k j : Nat} {x : Int64} (h : j ≠ k) : vp_updL f k x j = f j := if_neg h
theorem pk_sub {a b : Nat} (h : b ≤ a) : nI a - nI b = nI (a - b) := by
  obtain ⟨c, rfl⟩ : ∃ c, a = c + b := ⟨a - b, by omega⟩
  rw [← nI_add, Int32.add_sub_cancel, Nat.add_sub_cancel]
theorem pk_m1 (n : Nat) : nI (n + 1) + (-1) = nI n := by
  rw [← nI_1, Int32.add_assoc, show (1 : Int32) + (-1) = 0 from rfl, Int32.add_zero]
theorem pk_mul (a b : Nat) : nI a * nI b = nI (a * b) := (Int32.ofNat_mul a b).symm
theorem pk_div {a d : Nat} (ha : a < 2 ^ 31) (h0 : 0 < d) (hd : d < 2 ^ 31) : nI a / nI d = nI (a / d) := by
  apply Int32.toInt_inj.mp
  rw [lg_idiv_nonneg (by rw [nI_toInt ha]; omega) (by rw [nI_toInt hd]; omega), nI_toInt ha, nI_toInt hd, nI_toInt (Nat.lt_of_le_of_lt (Nat.div_le_self a d) ha)]
  first | rfl | exact (Int.natCast_ediv _ _).symm
theorem pk_rem {a d : Nat} (ha : a < 2 ^ 31) (h0 : 0 < d) (hd : d < 2 ^ 31) : nI a - nI a / nI d * nI d = nI (a % d) := by
  rw [pk_div ha h0 hd, pk_mul, pk_sub (Nat.div_mul_le_self a d)]
  exact congrArg nI (by have := Nat.div_add_mod' a d; omega)
theorem pk_ix (x : Int32) {n : Nat} (hn : n < 2 ^ 31) : x < 0 ∨ nI n ≤ x ∨ ∃ j : Nat, j < n ∧ x = nI j := by
  by_cases h : x < 0
  · exact Or.inl h
  · obtain ⟨j, hj, rfl⟩ := nI_of h
    by_cases h2 : j < n
    · exact Or.inr (Or.inr ⟨j, h2, rfl⟩)
    · exact Or.inr (Or.inl (nI_le (by omega) hj))
theorem pk_le {x y : Int32} {A B : Prop} (a b : Nat) (f : a ≤ b → A) (g : b < a → B) (hx : x = nI a := by rfl) (hy : y = nI b := by rfl) (ha : a < 2 ^ 31 := by omega) (hb : b < 2 ^ 31 := by omega) : (x ≤ y → A) ∧ (¬ x ≤ y → B) := by
  subst hx hy
  rw [nI_leI ha hb]
  exact ⟨f, fun z => g (by omega)⟩
theorem pk_lt {x y : Int32} {A B : Prop} (a b : Nat) (f : a < b → A) (g : b ≤ a → B) (hx : x = nI a := by rfl) (hy : y = nI b := by rfl) (ha : a < 2 ^ 31 := by omega) (hb : b < 2 ^ 31 := by omega) : (x < y → A) ∧ (¬ x < y → B) := by
  subst hx hy
  rw [nI_ltI ha hb]
  exact ⟨f, fun z => g (by omega)⟩
theorem pk_eq {x y : Int32} {A B : Prop} (a b : Nat) (f : a = b → A) (g : a ≠ b → B) (hx : x = nI a := by rfl) (hy : y = nI b := by rfl) (ha : a < 2 ^ 31 := by omega) (hb : b < 2 ^ 31 := by omega) : (x = y → A) ∧ (¬ x = y → B) := by
  subst hx hy
  rw [nI_eq ha hb]
  exact ⟨f, g⟩
theorem pk_in {x : Int32} (n N : Nat) (h : n < N) (hx : x = nI n := by rfl) (hN : N < 2 ^ 31 := by omega) : vp_in x N := by
  subst hx
  exact vp_in_nI h hN
theorem pk_cl {x : Int32} (n : Nat) (hx : x = nI n := by rfl) (h : n < 2 ^ 31 := by omega) : x.toNatClampNeg = n := by
  subst hx
  exact nI_clamp h
theorem cv_b1 : vp_nar .boolean 1 = 1 := by decide
theorem cv_b0 : vp_nar .boolean 0 = 0 := by decide
/-- the long of a value -/
def cv_e (s n : Int32) : Int64 := 4 * n.toInt64 + s.toInt64
/-- a value that may stand: nothing, an int, a table in use -/
def cv_ok (U : Nat → Int32) (s n : Int32) : Prop := (s = 0 ∧ n = 0) ∨ s = 1 ∨ (s = 2 ∧ ∃ p, p < 20 ∧ n = nI p ∧ ¬ U p = 0)
def cv_s (s n : Int32) : Prop := (s = 0 ∧ n = 0) ∨ s = 1 ∨ s = 2
theorem cv_ok_s {U : Nat → Int32} {s n : Int32} (h : cv_ok U s n) : cv_s s n := by
  rcases h with h | h | h
  · exact Or.inl h
  · exact Or.inr (Or.inl h)
  · exact Or.inr (Or.inr h.1)
theorem cv_rng {s n : Int32} (h : cv_s s n) : 0 ≤ s.toInt ∧ s.toInt < 3 := by
  rcases h with ⟨h, _⟩ | h | h <;> subst h <;> decide
theorem cv_toInt {s n : Int32} (h : cv_s s n) : (cv_e s n).toInt = 4 * n.toInt + s.toInt := by
  have h1 := cv_rng h
  have h2 := n.toInt_lt
  have h3 := n.le_toInt
  unfold cv_e
  rw [Int64.toInt_add, Int64.toInt_mul, Int32.toInt_toInt64, Int32.toInt_toInt64, show (4 : Int64).toInt = 4 from by decide]
  rw [Int.bmod_eq_of_le (n := 4 * n.toInt) (by omega) (by omega)]
  exact Int.bmod_eq_of_le (by omega) (by omega)
theorem cv_mod (x : Int64) : (((x &&& 3).toBitVec.toNat : Nat) : Int) = x.toInt % 4 := by
  rw [Int64.toBitVec_and, BitVec.toNat_and, show (3 : Int64).toBitVec.toNat = 2 ^ 2 - 1 from by decide, Nat.and_two_pow_sub_one_eq_mod]
  have e : x.toInt = x.toBitVec.toInt := rfl
  rw [e, BitVec.toInt_eq_toNat_cond]
  split <;> omega
theorem cv_and {s n : Int32} (h : cv_s s n) : cv_e s n &&& 3 = s.toInt64 := by
  have h1 := cv_mod (cv_e s n)
  have h0 := cv_rng h
  rw [cv_toInt h] at h1
  apply Int64.toBitVec_inj.mp
  apply BitVec.eq_of_toNat_eq
  have h2 : (s.toInt64.toBitVec.toNat : Int) = s.toInt := by
    rcases h with ⟨h, _⟩ | h | h <;> subst h <;> decide
  omega
theorem cv_srt {s n : Int32} (h : cv_s s n) : (cv_e s n &&& 3).toInt32 = s := by
  rw [cv_and h]
  rcases h with ⟨h, _⟩ | h | h <;> subst h <;> decide
theorem cv_tab {s n : Int32} (h : cv_s s n) : (cv_e s n &&& 3) = 2 ↔ s = 2 := by
  rw [cv_and h]
  rcases h with ⟨h, _⟩ | h | h <;> subst h <;> decide
theorem cv_int {s n : Int32} (h : cv_s s n) : (cv_e s n &&& 3) = 1 ↔ s = 1 := by
  rw [cv_and h]
  rcases h with ⟨h, _⟩ | h | h <;> subst h <;> decide
theorem cv_num {s n : Int32} (h : cv_s s n) : ((cv_e s n) >>> ((2 : Int32).toInt64 &&& 63)).toInt32 = n := by
  have h1 := cv_rng h
  have h2 := n.toInt_lt
  have h3 := n.le_toInt
  apply Int32.toInt_inj.mp
  rw [Int64.toInt_toInt32]
  have e : ((cv_e s n) >>> ((2 : Int32).toInt64 &&& 63)).toInt = (cv_e s n).toInt >>> 2 := by
    show ((cv_e s n).toBitVec.sshiftRight (((2 : Int32).toInt64 &&& 63).toBitVec.smod 64).toNat).toInt = _
    rw [show (((2 : Int32).toInt64 &&& 63).toBitVec.smod 64).toNat = 2 from by decide, BitVec.toInt_sshiftRight]
    rfl
  rw [e, cv_toInt h, Int.shiftRight_eq_div_pow]
  rw [show (4 * n.toInt + s.toInt) / ((2 ^ 2 : Nat) : Int) = n.toInt from by omega]
  exact Int.bmod_eq_of_le (by omega) (by omega)
theorem cv_ne3 {s n : Int32} (h : cv_s s n) : ¬ cv_e s n = 3 := by
  intro e
  have h1 := cv_rng h
  have h2 := cv_toInt h
  rw [e, show (3 : Int64).toInt = 3 from by decide] at h2
  omega
theorem cv_inj {s n t m : Int32} (h : cv_s s n) (h' : cv_s t m) : cv_e s n = cv_e t m ↔ s = t ∧ n = m := by
  constructor
  · intro e
    refine ⟨?_, ?_⟩
    · rw [← cv_srt h, ← cv_srt h', e]
    · rw [← cv_num h, ← cv_num h', e]
  · rintro ⟨rfl, rfl⟩; rfl
theorem cv_00 : cv_e 0 0 = 0 := by decide
theorem cv_11 : cv_e 1 1 = 5 := by decide
theorem cv_0 {s n : Int32} (h : cv_s s n) : cv_e s n = 0 ↔ s = 0 := by
  rw [← cv_00, cv_inj h (Or.inl ⟨rfl, rfl⟩)]
  constructor
  · exact fun e => e.1
  · intro e
    rcases h with h | h | h
    · exact h
    · rw [e] at h; exact absurd h (by decide)
    · rw [e] at h; exact absurd h (by decide)
/-! what the small value methods answer -/
theorem xv_tabT {post : Int32 → Prop} {s n : Int32} (h : cv_s s n) (e : s = 2) (hp : post 1) : wpX_isTable post (cv_e s n) := br_t ((cv_tab h).mpr e) hp
theorem xv_tabF {post : Int32 → Prop} {s n : Int32} (h : cv_s s n) (e : ¬ s = 2) (hp : post 0) : wpX_isTable post (cv_e s n) := br_f (fun z => e ((cv_tab h).mp z)) hp
theorem xv_intT {post : Int32 → Prop} {s n : Int32} (h : cv_s s n) (e : s = 1) (hp : post 1) : wpX_isInt post (cv_e s n) := br_t ((cv_int h).mpr e) hp
theorem xv_intF {post : Int32 → Prop} {s n : Int32} (h : cv_s s n) (e : ¬ s = 1) (hp : post 0) : wpX_isInt post (cv_e s n) := br_f (fun z => e ((cv_int h).mp z)) hp
theorem xv_num {post : Int32 → Prop} {s n : Int32} (h : cv_s s n) (hp : post n) : wpX_numberOf post (cv_e s n) := by
  unfold wpX_numberOf; rw [cv_num h]; exact hp
theorem xv_srt {post : Int32 → Prop} {s n : Int32} (h : cv_s s n) (hp : post s) : wpX_sortOf post (cv_e s n) := by
  unfold wpX_sortOf; rw [cv_srt h]; exact hp
theorem xv_val {post : Int64 → Prop} {s n : Int32} (hp : post (cv_e s n)) : wpX_valueOf post s n := hp
theorem xv_isV {post : Int32 → Prop} {v : Int32} (h : ∃ j, j < 6 ∧ v = nI j) (hp : post 1) : wpX_isVariable post v := by
  obtain ⟨j, hj, rfl⟩ := h
  exact br_f (nI_pos (by omega)) (br_f (nI_ge (b := 6) hj (by decide)) hp)
theorem xv_noV {post : Int32 → Prop} {v : Int32} (h : v < 0 ∨ nI 6 ≤ v) (hp : post 0) : wpX_isVariable post v := by
  by_cases h0 : v < 0
  · exact br_t h0 hp
  · exact br_f h0 (br_t (h.resolve_left h0) hp)
theorem cv_6 {v : Int32} : (v < 0 ∨ nI 6 ≤ v) ∨ ∃ j, j < 6 ∧ v = nI j := by
  rcases pk_ix v (n := 6) (by decide) with h | h | h
  · exact Or.inl (Or.inl h)
  · exact Or.inl (Or.inr h)
  · exact Or.inr h
section
variable {yE yN yC dp tp fl lo : Int32} {kd ex ey yW yP yX yY yZ vs vn zy yK es eu tk sn : Nat → Int32} {yO : Nat → Int64} {wk sg so nu la tu lz : Nat → Int32}
theorem yv_isV {post : Int32 → Prop} {v : Int32} (h : ∃ j, j < 6 ∧ v = nI j) (hp : post 1) : wpY_isVariable post (yE, yN, yC, dp, tp, fl, lo, kd, ex, ey, yW, yP, yX, yY, yZ, vs, vn, zy, yK, es, eu, tk, sn, yO, wk, sg, so, nu, la, tu, lz) v := by
  obtain ⟨j, hj, rfl⟩ := h
  exact br_f (nI_pos (by omega)) (br_f (nI_nlt (a := 5) (b := j) (by omega) (by decide)) hp)
theorem yv_noV {post : Int32 → Prop} {v : Int32} (h : v < 0 ∨ nI 6 ≤ v) (hp : post 0) : wpY_isVariable post (yE, yN, yC, dp, tp, fl, lo, kd, ex, ey, yW, yP, yX, yY, yZ, vs, vn, zy, yK, es, eu, tk, sn, yO, wk, sg, so, nu, la, tu, lz) v := by
  by_cases h0 : v < 0
  · exact br_t h0 hp
  · refine br_f h0 (br_t ?_ hp)
    obtain ⟨j, hj, rfl⟩ := nI_of h0
    have h6 := (nI_leI (a := 6) (by decide) hj).mp (h.resolve_left h0)
    exact nI_lt (a := 5) (by omega) hj
end
