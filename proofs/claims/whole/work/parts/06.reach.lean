/-! collect and reach: both mark the least closed set -/
def cn_c (U : Nat → Int32) : Nat → Nat
  | 0 => 0
  | n + 1 => cn_c U n + (if U n = 0 then 0 else 1)
theorem cn_le (U : Nat → Int32) (n : Nat) : cn_c U n ≤ n := by
  induction n with
  | zero => exact Nat.le_refl 0
  | succ n ih =>
    show cn_c U n + _ ≤ n + 1
    split <;> omega
theorem cn_out {U : Nat → Int32} {p : Nat} {x : Int32} : ∀ n, n ≤ p → cn_c (upd U p x) n = cn_c U n := by
  intro n
  induction n with
  | zero => intro _; rfl
  | succ n ih =>
    intro h
    show cn_c (upd U p x) n + (if upd U p x n = 0 then 0 else 1) = cn_c U n + (if U n = 0 then 0 else 1)
    rw [ih (by omega), pk_un (by omega)]
theorem cn_upd {U : Nat → Int32} {p : Nat} {x : Int32} (h0 : U p = 0) (hx : ¬ x = 0) : ∀ n, p < n → cn_c (upd U p x) n = cn_c U n + 1 := by
  intro n
  induction n with
  | zero => intro h; omega
  | succ n ih =>
    intro h
    show cn_c (upd U p x) n + (if upd U p x n = 0 then 0 else 1) = cn_c U n + (if U n = 0 then 0 else 1) + 1
    by_cases e : p = n
    · subst e
      rw [cn_out p (Nat.le_refl p), pk_us, if_neg hx, if_pos h0]
    · rw [ih (by omega), pk_un (by omega)]; omega
theorem cn_mono {U V : Nat → Int32} : ∀ n, (∀ t, t < n → ¬ U t = 0 → ¬ V t = 0) → cn_c U n ≤ cn_c V n := by
  intro n
  induction n with
  | zero => intro _; exact Nat.le_refl _
  | succ n ih =>
    intro h
    show cn_c U n + (if U n = 0 then 0 else 1) ≤ cn_c V n + (if V n = 0 then 0 else 1)
    have h1 := ih (fun t ht => h t (by omega))
    by_cases e : U n = 0
    · rw [if_pos e]; split <;> omega
    · rw [if_neg e, if_neg (h n (by omega) e)]; omega
theorem cn_lt {U V : Nat → Int32} {n t : Nat} (h : ∀ t, t < n → ¬ U t = 0 → ¬ V t = 0) (ht : t < n) (h0 : U t = 0) (h1 : ¬ V t = 0) : cn_c U n + 1 ≤ cn_c V n := by
  rw [← cn_upd (x := 1) h0 (by decide) n ht]
  refine cn_mono n (fun s hs z => ?_)
  by_cases e : s = t
  · subst e; exact h1
  · rw [pk_un e] at z; exact h s hs z
theorem cn_free {U : Nat → Int32} : ∀ n, cn_c U n < n → ∃ p, p < n ∧ U p = 0 ∧ ∀ q, q < p → ¬ U q = 0 := by
  intro n
  induction n with
  | zero => intro h; omega
  | succ n ih =>
    intro h
    by_cases q : cn_c U n < n
    · obtain ⟨p, hp, a, b⟩ := ih q
      exact ⟨p, by omega, a, b⟩
    · have h1 : cn_c U n = n := by have := cn_le U n; omega
      have hf : ∀ m, m ≤ n → cn_c U m = m → ∀ t, t < m → ¬ U t = 0 := by
        intro m
        induction m with
        | zero => intro _ _ t ht; omega
        | succ m ihm =>
          intro hm hc t ht
          have hc' : cn_c U m + (if U m = 0 then 0 else 1) = m + 1 := hc
          have hle := cn_le U m
          by_cases e : U m = 0
          · rw [if_pos e] at hc'; omega
          · rw [if_neg e] at hc'
            by_cases e2 : t = m
            · subst e2; exact e
            · exact ihm (by omega) (by omega) t (by omega)
      refine ⟨n, by omega, ?_, hf n (Nat.le_refl n) h1⟩
      by_cases e : U n = 0
      · exact e
      · have h' : cn_c U n + (if U n = 0 then 0 else 1) < n + 1 := h
        rw [if_neg e] at h'; omega
def ck_R (vs vn : Nat → Int32) (S : Nat → Prop) : Prop := ∀ v, v < 6 → vs v = 2 → S (vn v).toNatClampNeg
def ck_C (z es eu : Nat → Int32) (S : Nat → Prop) : Prop := ∀ t i, t < 20 → S t → i < 6 → nI i < z t → es (6 * t + i) = 2 → S (eu (6 * t + i)).toNatClampNeg
def ck_I (sz vs vn es eu iu : Nat → Int32) (c : Nat) (fd : Nat → Int32) : Prop :=
  c = cn_c iu 20 ∧ (∀ t, 20 ≤ t → iu t = 0) ∧ (∀ t, iu t = 0 ∨ iu t = 1) ∧ (∀ i, i < c → ∃ p, p < 20 ∧ fd i = nI p) ∧ (∀ p, ¬ iu p = 0 → ∃ i, i < c ∧ fd i = nI p) ∧ (∀ S : Nat → Prop, ck_R vs vn S → ck_C sz es eu S → ∀ t, ¬ iu t = 0 → S t) ∧ (∀ i p, i < c → p < 20 → fd i = nI p → ¬ iu p = 0)
theorem ck_U {U sz zy vs vn es eu : Nat → Int32} (H : tm_HO U sz zy vs vn es eu) : ck_R vs vn (fun t => ¬ U t = 0) ∧ ck_C sz es eu (fun t => ¬ U t = 0) ∧ ck_C zy es eu (fun t => ¬ U t = 0) := by
  have g : ∀ {s n : Int32}, cv_ok U s n → s = 2 → ¬ U n.toNatClampNeg = 0 := by
    intro s n h e
    refine tm_kind h (fun a _ => absurd (a.symm.trans e) (by decide)) (fun a => absurd (a.symm.trans e) (by decide)) (fun p _ hp hn hU => ?_)
    rw [hn, nI_clamp (by omega)]; exact hU
  refine ⟨fun v hv e => g (H.2.2 v hv) e, fun t i ht hU hi hz e => ?_, fun t i ht hU hi hz e => ?_⟩
  · obtain ⟨_, _, m, hm, hs⟩ := H.1 t hU
    rw [hs, nI_ltI (by omega) (by omega)] at hz
    exact g (H.2.1 t i m hU hs hm hz) e
  · obtain ⟨_, hy, m, hm, hs⟩ := H.1 t hU
    rw [hy, hs, nI_ltI (by omega) (by omega)] at hz
    exact g (H.2.1 t i m hU hs hm hz) e
section
variable {eN sN oL fC oC : Int32} {wt cK cO cR : Nat → Int32} {rg : Nat → Int64} {oP oX oY oZ lS lT lL : Nat → Int32} {va : Nat → Int64} {iu sz ke : Nat → Int32} {en : Nat → Int64} {fd : Nat → Int32} {ou : Nat → Int64} {yE yN yC dp tp fl lo : Int32} {kd ex ey yW yP yX yY yZ vs vn zy yK es eu tk sn : Nat → Int32} {yO : Nat → Int64} {wk sg so nu la tu lz : Nat → Int32}
theorem xk_keep {s n : Int32} {c : Nat} (K : ck_I sz vs vn es eu iu c fd) (hs : cv_s s n) (hp2 : s = 2 → ∃ p, p < 20 ∧ n = nI p) (hm : s = 2 → ∀ S : Nat → Prop, ck_R vs vn S → ck_C sz es eu S → S n.toNatClampNeg) :
    ∃ (iu' : Nat → Int32) (c' : Nat) (fd' : Nat → Int32), ck_I sz vs vn es eu iu' c' fd' ∧ (∀ t, ¬ iu t = 0 → ¬ iu' t = 0) ∧ (s = 2 → ¬ iu' n.toNatClampNeg = 0) ∧ c ≤ c' ∧ (∀ i, i < c → fd' i = fd i) ∧ ∀ post : SX → Prop, post (eN, sN, oL, nI c', oC, wt, cK, cO, cR, rg, oP, oX, oY, oZ, lS, lT, lL, va, iu', sz, ke, en, fd', ou) → wpX_keep post (eN, sN, oL, nI c, oC, wt, cK, cO, cR, rg, oP, oX, oY, oZ, lS, lT, lL, va, iu, sz, ke, en, fd, ou) (cv_e s n) := by
  by_cases e : s = 2
  · obtain ⟨p, hp, rfl⟩ := hp2 e
    have hc : (nI p).toNatClampNeg = p := nI_clamp (by omega)
    have hi : vp_in (nI p) 20 := vp_in_nI hp (by decide)
    have hm' := hm e
    rw [hc] at hm' ⊢
    have K0 := K
    obtain ⟨k1, k2, k3, k4, k5, k6, k7⟩ := K
    by_cases q : iu p = 0
    · have hu := cn_upd (x := 1) q (by decide) 20 hp
      have hl := cn_le (upd iu p 1) 20
      have c20 : c < 20 := by omega
      refine ⟨upd iu p 1, c + 1, upd fd c (nI p), ⟨by omega, ?_, ?_, ?_, ?_, ?_, ?_⟩, ?_, ?_, by omega, ?_, fun post hq => ?_⟩
      · intro t ht; rw [pk_un (by omega)]; exact k2 t ht
      · intro t
        by_cases e2 : t = p
        · subst e2; exact Or.inr pk_us
        · rw [pk_un e2]; exact k3 t
      · intro i hi
        by_cases e2 : i = c
        · subst e2; exact ⟨p, hp, pk_us⟩
        · rw [pk_un e2]; exact k4 i (by omega)
      · intro t ht
        by_cases e2 : t = p
        · subst e2; exact ⟨c, by omega, pk_us⟩
        · rw [pk_un e2] at ht
          obtain ⟨i, hi, h⟩ := k5 t ht
          exact ⟨i, by omega, by rw [pk_un (by omega)]; exact h⟩
      · intro S hR hC t ht
        by_cases e2 : t = p
        · subst e2; exact hm' S hR hC
        · rw [pk_un e2] at ht; exact k6 S hR hC t ht
      · intro i t hi ht h
        by_cases e2 : i = c
        · subst e2
          rw [pk_us] at h
          have := (nI_eq (by omega) (by omega)).mp h
          subst this
          rw [pk_us]; decide
        · rw [pk_un e2] at h
          have := k7 i t (by omega) ht h
          by_cases e3 : t = p
          · subst e3; rw [pk_us]; decide
          · rw [pk_un e3]; exact this
      · intro t ht
        by_cases e3 : t = p
        · subst e3; rw [pk_us]; decide
        · rw [pk_un e3]; exact ht
      · intro _; rw [pk_us]; decide
      · intro i hi; exact pk_un (by omega)
      · unfold wpX_keep
        refine xv_tabT hs e (br_f (by decide) (xv_num hs ⟨hi, ?_⟩))
        rw [hc]
        exact br_t q ⟨hi, nm_r (by rw [cv_b1]) ⟨vp_in_nI c20 (by decide), nm_r (by rw [nI_clamp (by omega)]) (nm_r (nI_1 c) hq)⟩⟩
    · refine ⟨iu, c, fd, K0, fun _ h => h, fun _ => q, Nat.le_refl c, fun _ _ => rfl, fun post hq => ?_⟩
      unfold wpX_keep
      refine xv_tabT hs e (br_f (by decide) (xv_num hs ⟨hi, ?_⟩))
      rw [hc]
      exact br_f q hq
  · refine ⟨iu, c, fd, K, fun _ h => h, fun z => absurd z e, Nat.le_refl c, fun _ _ => rfl, fun post hq => ?_⟩
    unfold wpX_keep
    exact xv_tabF hs e (br_t rfl hq)
theorem xk_cok {U : Nat → Int32} {s n : Int32} (h : cv_ok U s n) : s = 2 → ∃ p, p < 20 ∧ n = nI p := fun e => tm_kind h (fun a _ => absurd (a.symm.trans e) (by decide)) (fun a => absurd (a.symm.trans e) (by decide)) (fun p _ hp hn _ => ⟨p, hp, hn⟩)
theorem xk_in {U : Nat → Int32} {p m i : Nat} (hp : p < 20) (hm : m ≤ 6) (hz : sz p = nI m) (hok : ∀ k, k < m → cv_ok U (es (6 * p + k)) (eu (6 * p + k))) (hSp : ∀ S : Nat → Prop, ck_R vs vn S → ck_C sz es eu S → S p) :
    ∀ d k : Nat, k + d = m → ∀ (iu : Nat → Int32) (c : Nat) (fd : Nat → Int32), ck_I sz vs vn es eu iu c fd → (∀ k', k' < k → es (6 * p + k') = 2 → ¬ iu (eu (6 * p + k')).toNatClampNeg = 0) →
      ∃ (iu' : Nat → Int32) (c' : Nat) (fd' : Nat → Int32), ck_I sz vs vn es eu iu' c' fd' ∧ (∀ t, ¬ iu t = 0 → ¬ iu' t = 0) ∧ (∀ k', k' < m → es (6 * p + k') = 2 → ¬ iu' (eu (6 * p + k')).toNatClampNeg = 0) ∧ c ≤ c' ∧ (∀ i, i < c → fd' i = fd i) ∧
      ∀ (post : Int32 → SX → Prop) (J : Int32 → Int32 → Int32 → Int32 → Int32 → Int32 → (Nat → Int32) → (Nat → Int32) → (Nat → Int32) → (Nat → Int32) → (Nat → Int64) → (Nat → Int32) → (Nat → Int32) → (Nat → Int32) → (Nat → Int32) → (Nat → Int32) → (Nat → Int32) → (Nat → Int32) → (Nat → Int64) → (Nat → Int32) → (Nat → Int32) → (Nat → Int32) → (Nat → Int64) → (Nat → Int32) → (Nat → Int64) → Prop),
      J (nI (i + 1)) eN sN oL (nI c') oC wt cK cO cR rg oP oX oY oZ lS lT lL va iu' sz ke (cv_f es eu) fd' ou → wX_collect_91 post J (nI i) (nI (p * 6)) (nI m) (d + 1) (nI k) eN sN oL (nI c) oC wt cK cO cR rg oP oX oY oZ lS lT lL va iu sz ke (cv_f es eu) fd ou := by
  intro d
  induction d with
  | zero =>
    intro k hk iu c fd K hd
    obtain rfl : k = m := by omega
    exact ⟨iu, c, fd, K, fun _ h => h, hd, Nat.le_refl c, fun _ _ => rfl, fun post J hJ => br_t (nI_le (Nat.le_refl _) (by omega)) (nm_r (nI_1 i) hJ)⟩
  | succ d ih =>
    intro k hk iu c fd K hd
    have e1 : nI (p * 6) + nI k = nI (6 * p + k) := by rw [nI_add, Nat.mul_comm]
    have ok := hok k (by omega)
    obtain ⟨iu', c', fd', K', mo, mk, hc, hf, hw⟩ := xk_keep (eN := eN) (sN := sN) (oL := oL) (oC := oC) (wt := wt) (cK := cK) (cO := cO) (cR := cR) (rg := rg) (oP := oP) (oX := oX) (oY := oY) (oZ := oZ) (lS := lS) (lT := lT) (lL := lL) (va := va) (ke := ke) (en := cv_f es eu) (ou := ou) K (cv_ok_s ok) (xk_cok ok) (fun e S hR hC => hC p k hp (hSp S hR hC) (by omega) (by rw [hz]; exact nI_lt (by omega) (by omega)) e)
    obtain ⟨iu2, c2, fd2, K2, mo2, al, hc2, hf2, hw2⟩ := ih (k + 1) (by omega) iu' c' fd' K' (fun k' hk' e => by
      by_cases e2 : k' = k
      · subst e2; exact mk e
      · exact mo _ (hd k' (by omega) e))
    refine ⟨iu2, c2, fd2, K2, fun t h => mo2 t (mo t h), al, by omega, fun i hi => (hf2 i (by omega)).trans (hf i hi), fun post J hJ => ?_⟩
    refine br_f (nI_ge (by omega) (by omega)) ⟨by rw [e1]; exact vp_in_nI (by omega) (by decide), ?_⟩
    rw [e1, nI_clamp (by omega)]
    exact hw _ (nm_r (nI_1 k) (hw2 post J hJ))
theorem xk_bfs {U : Nat → Int32} (H : tm_HO U sz zy vs vn es eu) :
    ∀ d i : Nat, i + d = 20 → ∀ (iu : Nat → Int32) (c : Nat) (fd : Nat → Int32), ck_I sz vs vn es eu iu c fd → i ≤ c → ck_R vs vn (fun t => ¬ iu t = 0) →
      (∀ i' p k, i' < i → fd i' = nI p → p < 20 → k < 6 → nI k < sz p → es (6 * p + k) = 2 → ¬ iu (eu (6 * p + k)).toNatClampNeg = 0) →
      ∃ (iu' : Nat → Int32) (c' : Nat) (fd' : Nat → Int32), ck_I sz vs vn es eu iu' c' fd' ∧ ck_R vs vn (fun t => ¬ iu' t = 0) ∧ ck_C sz es eu (fun t => ¬ iu' t = 0) ∧ ∀ post : Int32 → SX → Prop, post (nI c') (eN, sN, oL, nI c', oC, wt, cK, cO, cR, rg, oP, oX, oY, oZ, lS, lT, lL, cv_f vs vn, iu', sz, ke, cv_f es eu, fd', ou) →
      wX_collect_52 post (d + 1) (nI i) eN sN oL (nI c) oC wt cK cO cR rg oP oX oY oZ lS lT lL (cv_f vs vn) iu sz ke (cv_f es eu) fd ou := by
  have fin : ∀ (iu : Nat → Int32) (c : Nat) (fd : Nat → Int32), ck_I sz vs vn es eu iu c fd →
      (∀ i' p k, i' < c → fd i' = nI p → p < 20 → k < 6 → nI k < sz p → es (6 * p + k) = 2 → ¬ iu (eu (6 * p + k)).toNatClampNeg = 0) → ck_C sz es eu (fun t => ¬ iu t = 0) := by
    intro iu c fd K hd t k ht hu hk hz e
    obtain ⟨i', hi', hf⟩ := K.2.2.2.2.1 t hu
    exact hd i' t k hi' hf ht hk hz e
  intro d
  induction d with
  | zero =>
    intro i hi iu c fd K hic hr hd
    have hc := cn_le iu 20
    have hc2 := K.1
    obtain rfl : i = c := by omega
    exact ⟨iu, i, fd, K, hr, fin iu i fd K hd, fun post hp => br_t (nI_le (a := 20) (by omega) (by omega)) hp⟩
  | succ d ih =>
    intro i hi iu c fd K hic hr hd
    have hc := cn_le iu 20
    have hc2 := K.1
    by_cases e : i = c
    · subst e
      exact ⟨iu, i, fd, K, hr, fin iu i fd K hd, fun post hp => br_f (nI_ge (b := 20) (by omega) (by decide)) (br_t (nI_le (Nat.le_refl _) (by omega)) hp)⟩
    · obtain ⟨p, hp, hf⟩ := K.2.2.2.1 i (by omega)
      have hu := K.2.2.2.2.2.2 i p (by omega) hp hf
      have hU : ¬ U p = 0 := K.2.2.2.2.2.1 _ (ck_U H).1 (ck_U H).2.1 p hu
      obtain ⟨_, _, m, hm, hz⟩ := H.1 p hU
      have hi20 : vp_in (nI i) 20 := vp_in_nI (by omega) (by decide)
      have hci : (nI i).toNatClampNeg = i := nI_clamp (by omega)
      obtain ⟨iu', c', fd', K', mo, al, hc', hf', hw⟩ := xk_in (eN := eN) (sN := sN) (oL := oL) (oC := oC) (wt := wt) (cK := cK) (cO := cO) (cR := cR) (rg := rg) (oP := oP) (oX := oX) (oY := oY) (oZ := oZ) (lS := lS) (lT := lT) (lL := lL) (va := cv_f vs vn) (ke := ke) (ou := ou) (i := i) hp hm hz (fun k hk => H.2.1 p k m hU hz hm hk) (fun S a b => K.2.2.2.2.2.1 S a b p hu) m 0 (by omega) iu c fd K (fun k' hk' => by omega)
      obtain ⟨iu2, c2, fd2, K2, hr2, hC2, hw2⟩ := ih (i + 1) (by omega) iu' c' fd' K' (by omega) (fun v hv e => mo _ (hr v hv e)) (fun i' p' k hi' hfp hp' hk hz' e => by
        by_cases e2 : i' = i
        · subst e2
          rw [hf' i' (by omega), hf] at hfp
          have := (nI_eq (by omega) (by omega)).mp hfp
          subst this
          rw [hz, nI_ltI (by omega) (by omega)] at hz'
          exact al k hz' e
        · rw [hf' i' (by omega)] at hfp
          exact mo _ (hd i' p' k (by omega) hfp hp' hk hz' e))
      refine ⟨iu2, c2, fd2, K2, hr2, hC2, fun post hpo => ?_⟩
      exact br_f (nI_ge (b := 20) (by omega) (by decide)) (br_f (nI_ge (by omega) (by omega)) ⟨hi20, nm_r (by rw [hci, hf]; exact pk_mul p 6) ⟨hi20, by rw [hci, hf]; exact vp_in_nI hp (by decide), nm_r (by rw [hci, hf, nI_clamp (by omega), hz]) ⟨_, hw post _ (hw2 post hpo)⟩⟩⟩)
theorem xk_roots {U : Nat → Int32} (H : tm_HO U sz zy vs vn es eu) :
    ∀ d i : Nat, i + d = 6 → ∀ (iu : Nat → Int32) (c : Nat) (fd : Nat → Int32), ck_I sz vs vn es eu iu c fd → (∀ v, v < i → vs v = 2 → ¬ iu (vn v).toNatClampNeg = 0) →
      ∃ (iu' : Nat → Int32) (c' : Nat) (fd' : Nat → Int32), ck_I sz vs vn es eu iu' c' fd' ∧ ck_R vs vn (fun t => ¬ iu' t = 0) ∧ ck_C sz es eu (fun t => ¬ iu' t = 0) ∧ ∀ post : Int32 → SX → Prop, post (nI c') (eN, sN, oL, nI c', oC, wt, cK, cO, cR, rg, oP, oX, oY, oZ, lS, lT, lL, cv_f vs vn, iu', sz, ke, cv_f es eu, fd', ou) →
      wX_collect_28 post (d + 1) (nI i) eN sN oL (nI c) oC wt cK cO cR rg oP oX oY oZ lS lT lL (cv_f vs vn) iu sz ke (cv_f es eu) fd ou := by
  intro d
  induction d with
  | zero =>
    intro i hi iu c fd K hd
    obtain rfl : i = 6 := by omega
    obtain ⟨iu2, c2, fd2, K2, hr2, hC2, hw2⟩ := xk_bfs (eN := eN) (sN := sN) (oL := oL) (oC := oC) (wt := wt) (cK := cK) (cO := cO) (cR := cR) (rg := rg) (oP := oP) (oX := oX) (oY := oY) (oZ := oZ) (lS := lS) (lT := lT) (lL := lL) (ke := ke) (ou := ou) H 20 0 (by omega) iu c fd K (Nat.zero_le c) (fun v hv e => hd v hv e) (fun i' p k h => absurd h (by omega))
    exact ⟨iu2, c2, fd2, K2, hr2, hC2, fun post hp => br_t (by decide) ⟨_, hw2 post hp⟩⟩
  | succ d ih =>
    intro i hi iu c fd K hd
    have ok := H.2.2 i (by omega)
    obtain ⟨iu', c', fd', K', mo, mk, hc, hf, hw⟩ := xk_keep (eN := eN) (sN := sN) (oL := oL) (oC := oC) (wt := wt) (cK := cK) (cO := cO) (cR := cR) (rg := rg) (oP := oP) (oX := oX) (oY := oY) (oZ := oZ) (lS := lS) (lT := lT) (lL := lL) (va := cv_f vs vn) (ke := ke) (en := cv_f es eu) (ou := ou) K (cv_ok_s ok) (xk_cok ok) (fun e S hR hC => hR i (by omega) e)
    obtain ⟨iu2, c2, fd2, K2, hr2, hC2, hw2⟩ := ih (i + 1) (by omega) iu' c' fd' K' (fun v hv e => by
      by_cases e2 : v = i
      · subst e2; exact mk e
      · exact mo _ (hd v (by omega) e))
    refine ⟨iu2, c2, fd2, K2, hr2, hC2, fun post hp => ?_⟩
    refine br_f (nI_ge (b := 6) (by omega) (by decide)) ⟨vp_in_nI (by omega) (by decide), ?_⟩
    rw [nI_clamp (by omega)]
    exact hw _ (nm_r (nI_1 i) (hw2 post hp))
theorem xk_collect {U : Nat → Int32} (H : tm_HO U sz zy vs vn es eu) (hiu : ∀ t, 20 ≤ t → iu t = 0) :
    ∃ (iu' : Nat → Int32) (c' : Nat) (fd' : Nat → Int32), ck_I sz vs vn es eu iu' c' fd' ∧ ck_R vs vn (fun t => ¬ iu' t = 0) ∧ ck_C sz es eu (fun t => ¬ iu' t = 0) ∧ ∀ post : Int32 → SX → Prop, post (nI c') (eN, sN, oL, nI c', oC, wt, cK, cO, cR, rg, oP, oX, oY, oZ, lS, lT, lL, cv_f vs vn, iu', sz, ke, cv_f es eu, fd', ou) →
    wpX_collect post (eN, sN, oL, fC, oC, wt, cK, cO, cR, rg, oP, oX, oY, oZ, lS, lT, lL, cv_f vs vn, iu, sz, ke, cv_f es eu, fd, ou) := by
  obtain ⟨iu2, c2, fd2, K2, hr2, hC2, hw2⟩ := xk_roots (eN := eN) (sN := sN) (oL := oL) (oC := oC) (wt := wt) (cK := cK) (cO := cO) (cR := cR) (rg := rg) (oP := oP) (oX := oX) (oY := oY) (oZ := oZ) (lS := lS) (lT := lT) (lL := lL) (ke := ke) (ou := ou) H 6 0 (by omega) (fun _ => 0) 0 fd ⟨by decide, fun _ _ => rfl, fun _ => Or.inl rfl, fun i h => absurd h (by omega), fun p h => absurd rfl h, fun S _ _ t h => absurd rfl h, fun i p h => absurd h (by omega)⟩ (fun v h => absurd h (by omega))
  refine ⟨iu2, c2, fd2, K2, hr2, hC2, fun post hp => ?_⟩
  unfold wpX_collect
  have g : ∀ d i : Nat, i + d = 20 → ∀ iu : Nat → Int32, (∀ t, 20 ≤ t → iu t = 0) → (∀ t, t < i → iu t = 0) → wX_collect_2 post eN sN oL fC oC (d + 1) (nI i) wt cK cO cR rg oP oX oY oZ lS lT lL (cv_f vs vn) iu sz ke (cv_f es eu) fd ou := by
    intro d
    induction d with
    | zero =>
      intro i hi iu h1 h2
      obtain rfl : i = 20 := by omega
      have e : iu = fun _ => 0 := funext fun t => by
        by_cases q : t < 20
        · exact h2 t q
        · exact h1 t (by omega)
      subst e
      exact br_t (by decide) ⟨_, hw2 post hp⟩
    | succ d ih =>
      intro i hi iu h1 h2
      refine br_f (nI_ge (b := 20) (by omega) (by decide)) ⟨vp_in_nI (by omega) (by decide), nm_r (by rw [nI_clamp (by omega), cv_b0]) (nm_r (nI_1 i) (ih (i + 1) (by omega) (upd iu i 0) (fun t ht => ?_) (fun t ht => ?_)))⟩
      · rw [pk_un (by omega)]; exact h1 t ht
      · by_cases e : t = i
        · subst e; exact pk_us
        · rw [pk_un e]; exact h2 t (by omega)
  exact ⟨_, g 20 0 (by omega) iu hiu (fun t ht => by omega)⟩
end
