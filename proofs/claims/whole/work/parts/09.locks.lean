/-! the operations: one outcome for both sides -/
section
variable {eN sN oL fC oC : Int32} {wt cK cO cR : Nat → Int32} {rg : Nat → Int64} {oP oX oY oZ lS lT lL : Nat → Int32} {va : Nat → Int64} {iu sz ke : Nat → Int32} {en : Nat → Int64} {fd : Nat → Int32} {ou : Nat → Int64} {yE yN yC dp tp fl lo : Int32} {kd ex ey yW yP yX yY yZ vs vn zy yK es eu tk sn : Nat → Int32} {yO : Nat → Int64} {wk sg so nu la tu lz : Nat → Int32}
theorem lk_one {U : Nat → Int32} {e d t : Nat} {s n : Int32} (H : tm_HO U sz zy vs vn es eu) (he : e < 30) (ht : t < 8) (hk : kd e = 9 ∨ kd e = 12) (ok : cv_ok U s n) : ∃ o : Option (Int32 × Int32), (∀ v, o = some v → cv_ok U v.1 v.2) ∧
    (∀ {eN sN oL fC oC : Int32} {wt cK cO cR : Nat → Int32} {rg : Nat → Int64} {oP oX oY oZ lS lT lL : Nat → Int32} {va : Nat → Int64} {iu ke : Nat → Int32} {en : Nat → Int64} {fd : Nat → Int32} {ou : Nat → Int64}, ∀ post : Int64 → Prop, post (ev_o o) → wpX_ofOne post (eN, sN, oL, fC, oC, wt, cK, cO, cR, rg, oP, oX, oY, oZ, lS, lT, lL, va, iu, sz, ke, en, fd, ou) (kd e) (cv_e s n)) ∧
    (match o with
      | none => ∀ {yE yN yC lo : Int32} {ex ey yW yP yX yY yZ vs vn yK es eu tk sn : Nat → Int32} {yO : Nat → Int64} {wk sg so nu la tu lz : Nat → Int32}, so t = s → nu t = n → ∀ post : SY → Prop, post (yE, yN, yC, nI d, nI t, 1, lo, kd, ex, ey, yW, yP, yX, yY, yZ, vs, vn, zy, yK, es, eu, tk, sn, yO, wk, sg, so, nu, la, tu, lz) → wpY_one post (yE, yN, yC, nI (d + 1), nI (t + 1), 0, lo, kd, ex, ey, yW, yP, yX, yY, yZ, vs, vn, zy, yK, es, eu, tk, sn, yO, wk, sg, so, nu, la, tu, lz) (nI e)
      | some v => ∀ {yE yN yC lo : Int32} {ex ey yW yP yX yY yZ vs vn yK es eu tk sn : Nat → Int32} {yO : Nat → Int64} {wk sg so nu la tu lz : Nat → Int32}, so t = s → nu t = n → ∀ post : SY → Prop, post (yE, yN, yC, nI d, nI (t + 1), 0, lo, kd, ex, ey, yW, yP, yX, yY, yZ, vs, vn, zy, yK, es, eu, tk, sn, yO, wk, sg, upd so t v.1, upd nu t v.2, la, tu, lz) → wpY_one post (yE, yN, yC, nI (d + 1), nI (t + 1), 0, lo, kd, ex, ey, yW, yP, yX, yY, yZ, vs, vn, zy, yK, es, eu, tk, sn, yO, wk, sg, so, nu, la, tu, lz) (nI e)) := by
  have he' : vp_in (nI e) 30 := vp_in_nI he (by decide)
  have ce : (nI e).toNatClampNeg = e := nI_clamp (by omega)
  have ht' : vp_in (nI t) 8 := vp_in_nI ht (by decide)
  have ct : (nI t).toNatClampNeg = t := nI_clamp (by omega)
  rcases hk with hk | hk
  · by_cases q : s = 0
    · refine ⟨some (1, 1), fun v hv => ?_, fun post hp => ?_, fun hs hn post hp => ?_⟩
      · cases hv; exact Or.inr (Or.inl rfl)
      · unfold wpX_ofOne
        refine br_t hk (br_t ((cv_0 (cv_ok_s ok)).mpr q) ?_)
        rw [← cv_11]; exact hp
      · unfold wpY_one
        refine nm_r (nI_pred t) (nm_r (nI_pred d) ⟨he', br_t (by rw [ce]; exact hk) ⟨ht', br_t (by rw [ct, hs]; exact q) ?_⟩⟩)
        exact ⟨ht', br_t (by rw [ct, hs]; exact q) (ys_give ht hp)⟩
    · refine ⟨some (0, 0), fun v hv => ?_, fun post hp => ?_, fun hs hn post hp => ?_⟩
      · cases hv; exact Or.inl ⟨rfl, rfl⟩
      · unfold wpX_ofOne
        refine br_t hk (br_f (fun z => q ((cv_0 (cv_ok_s ok)).mp z)) ?_)
        rw [← cv_00]; exact hp
      · unfold wpY_one
        refine nm_r (nI_pred t) (nm_r (nI_pred d) ⟨he', br_t (by rw [ce]; exact hk) ⟨ht', br_f (by rw [ct, hs]; exact q) ?_⟩⟩)
        exact ⟨ht', br_f (by rw [ct, hs]; exact q) (ys_give ht hp)⟩
  · have n9 : ¬ kd e = 9 := by rw [hk]; decide
    by_cases q : s = 2
    · refine tm_kind ok (fun a _ => absurd (a.symm.trans q) (by decide)) (fun a => absurd (a.symm.trans q) (by decide)) (fun p _ hp hnp hU => ?_)
      have hz := (H.1 p hU).2.1
      refine ⟨some (1, sz p), fun v hv => ?_, fun post hpo => ?_, fun hs hn post hpo => ?_⟩
      · cases hv; exact Or.inr (Or.inl rfl)
      · unfold wpX_ofOne
        refine br_f n9 (xv_tabT (cv_ok_s ok) q (br_f (by decide) (xv_seen ok ?_)))
        rw [if_pos q, hnp, nI_clamp (by omega)]
        exact xv_val hpo
      · unfold wpY_one
        refine nm_r (nI_pred t) (nm_r (nI_pred d) ⟨he', br_f (by rw [ce]; exact n9) ⟨ht', br_t (by rw [ct, hs]; exact q) ⟨ht', ?_⟩⟩⟩)
        rw [ct, hn, hnp, nI_clamp (by omega), hz]
        exact ⟨vp_in_nI (by omega) (by decide), ys_give ht hpo⟩
    · refine ⟨none, fun v hv => (by cases hv), fun post hpo => ?_, fun hs hn post hpo => ?_⟩
      · unfold wpX_ofOne
        exact br_f n9 (xv_tabF (cv_ok_s ok) q (br_t rfl hpo))
      · unfold wpY_one
        exact nm_r (nI_pred t) (nm_r (nI_pred d) ⟨he', br_f (by rw [ce]; exact n9) ⟨ht', br_f (by rw [ct, hs]; exact q) hpo⟩⟩)
theorem lk_tp (t : Nat) : nI (t + 2) - 2 = nI t := by
  have := pk_sub (a := t + 2) (b := 2) (by omega)
  rw [Nat.add_sub_cancel] at this
  exact this
/-- the reference's two, up to the comparison of kinds -/
theorem yt_pre {post : SY → Prop} {e d t : Nat} {s p s2 q z : Int32} (ht : t + 1 < 8) (hs : so t = s) (hp : nu t = p) (hs2 : so (t + 1) = s2) (hq : nu (t + 1) = q) (hz : (s = 1 ∧ s2 = 1 ∧ z = 1) ∨ (¬ (s = 1 ∧ s2 = 1) ∧ z = 0)) (h : wY_two_81 post (nI e) s s2 p q z yE yN yC (nI d) (nI t) fl lo kd ex ey yW yP yX yY yZ vs vn zy yK es eu tk sn yO wk sg so nu la tu lz) : wpY_two post (yE, yN, yC, nI (d + 1), nI (t + 2), fl, lo, kd, ex, ey, yW, yP, yX, yY, yZ, vs, vn, zy, yK, es, eu, tk, sn, yO, wk, sg, so, nu, la, tu, lz) (nI e) := by
  unfold wpY_two
  have h1 : vp_in (nI t) 8 := vp_in_nI (by omega) (by decide)
  have h2 : vp_in (nI t + 1) 8 := by rw [nI_1]; exact vp_in_nI ht (by decide)
  have c1 : (nI t).toNatClampNeg = t := nI_clamp (by omega)
  have c2 : (nI t + 1).toNatClampNeg = t + 1 := by rw [nI_1]; exact nI_clamp (by omega)
  refine nm_r (lk_tp t) (nm_r (nI_pred d) ⟨h1, nm_r (by rw [c1, hs]) ⟨h2, nm_r (by rw [c2, hs2]) ⟨h1, nm_r (by rw [c1, hp]) ⟨h2, nm_r (by rw [c2, hq]) ?_⟩⟩⟩⟩)
  rcases hz with ⟨a, b, rfl⟩ | ⟨a, rfl⟩
  · exact br_t a (br_t b h)
  · by_cases r : s = 1
    · exact br_t r (br_f (fun z => a ⟨r, z⟩) h)
    · exact br_f r h
theorem yt_110 {post : SY → Prop} {t : Nat} (ht : t < 8) (hp : post (yE, yN, yC, dp, nI (t + 1), fl, lo, kd, ex, ey, yW, yP, yX, yY, yZ, vs, vn, zy, yK, es, eu, tk, sn, yO, wk, sg, upd so t 1, upd nu t 1, la, tu, lz)) : wY_two_110 post yE yN yC dp (nI t) fl lo kd ex ey yW yP yX yY yZ vs vn zy yK es eu tk sn yO wk sg so nu la tu lz := br_f (by decide) (br_f (by decide) (ys_give ht hp))
theorem yt_114 {post : SY → Prop} {t : Nat} (ht : t < 8) (hp : post (yE, yN, yC, dp, nI (t + 1), fl, lo, kd, ex, ey, yW, yP, yX, yY, yZ, vs, vn, zy, yK, es, eu, tk, sn, yO, wk, sg, upd so t 0, upd nu t 0, la, tu, lz)) : wY_two_114 post yE yN yC dp (nI t) fl lo kd ex ey yW yP yX yY yZ vs vn zy yK es eu tk sn yO wk sg so nu la tu lz := br_t rfl (br_t rfl (ys_give ht hp))
theorem yt_176 {post : SY → Prop} {s s2 : Int32} (h : ¬ s = 2 ∨ ¬ s2 = 1) (hp : post (yE, yN, yC, dp, tp, 1, lo, kd, ex, ey, yW, yP, yX, yY, yZ, vs, vn, zy, yK, es, eu, tk, sn, yO, wk, sg, so, nu, la, tu, lz)) : wY_two_176 post s s2 yE yN yC dp tp fl lo kd ex ey yW yP yX yY yZ vs vn zy yK es eu tk sn yO wk sg so nu la tu lz := by
  by_cases q : s = 2
  · exact br_t q (br_f (fun z => h.elim (fun a => a q) (fun a => a z)) hp)
  · exact br_f q hp
theorem lk_two {U : Nat → Int32} {e d t : Nat} {s p s2 q : Int32} (H : tm_HO U sz zy vs vn es eu) (he : e < 30) (ht : t + 1 < 8) (hk : tm_k2 (kd e)) (ok : cv_ok U s p) (ok2 : cv_ok U s2 q) : ∃ o : Option (Int32 × Int32), (∀ v, o = some v → cv_ok U v.1 v.2) ∧
    (∀ {eN sN oL fC oC : Int32} {wt cK cO cR : Nat → Int32} {rg : Nat → Int64} {oP oX oY oZ lS lT lL : Nat → Int32} {va : Nat → Int64} {iu fd : Nat → Int32} {ou : Nat → Int64}, ∀ post : Int64 → Prop, post (ev_o o) → wpX_ofTwo post (eN, sN, oL, fC, oC, wt, cK, cO, cR, rg, oP, oX, oY, oZ, lS, lT, lL, va, iu, sz, ke, cv_f es eu, fd, ou) (kd e) (cv_e s p) (cv_e s2 q)) ∧
    (match o with
      | none => ∀ {yE yN yC lo : Int32} {ex ey yW yP yX yY yZ vs vn tk sn : Nat → Int32} {yO : Nat → Int64} {wk sg so nu la tu lz : Nat → Int32}, so t = s → nu t = p → so (t + 1) = s2 → nu (t + 1) = q → ∀ post : SY → Prop, post (yE, yN, yC, nI d, nI t, 1, lo, kd, ex, ey, yW, yP, yX, yY, yZ, vs, vn, zy, ke, es, eu, tk, sn, yO, wk, sg, so, nu, la, tu, lz) → wpY_two post (yE, yN, yC, nI (d + 1), nI (t + 2), 0, lo, kd, ex, ey, yW, yP, yX, yY, yZ, vs, vn, zy, ke, es, eu, tk, sn, yO, wk, sg, so, nu, la, tu, lz) (nI e)
      | some v => ∀ {yE yN yC lo : Int32} {ex ey yW yP yX yY yZ vs vn tk sn : Nat → Int32} {yO : Nat → Int64} {wk sg so nu la tu lz : Nat → Int32}, so t = s → nu t = p → so (t + 1) = s2 → nu (t + 1) = q → ∀ post : SY → Prop, post (yE, yN, yC, nI d, nI (t + 1), 0, lo, kd, ex, ey, yW, yP, yX, yY, yZ, vs, vn, zy, ke, es, eu, tk, sn, yO, wk, sg, upd so t v.1, upd nu t v.2, la, tu, lz) → wpY_two post (yE, yN, yC, nI (d + 1), nI (t + 2), 0, lo, kd, ex, ey, yW, yP, yX, yY, yZ, vs, vn, zy, ke, es, eu, tk, sn, yO, wk, sg, so, nu, la, tu, lz) (nI e)) := by
  have he' : vp_in (nI e) 30 := vp_in_nI he (by decide)
  have ce : (nI e).toNatClampNeg = e := nI_clamp (by omega)
  have cs := cv_ok_s ok
  have cs2 := cv_ok_s ok2
  by_cases k6 : kd e = 6
  · -- SAME
    have zc : ∃ z : Int32, (s = 1 ∧ s2 = 1 ∧ z = 1) ∨ (¬ (s = 1 ∧ s2 = 1) ∧ z = 0) := by
      by_cases r : s = 1 ∧ s2 = 1
      · exact ⟨1, Or.inl ⟨r.1, r.2, rfl⟩⟩
      · exact ⟨0, Or.inr ⟨r, rfl⟩⟩
    obtain ⟨z, hz⟩ := zc
    by_cases r : s = s2 ∧ p = q
    · refine ⟨some (1, 1), fun v hv => ?_, fun post hp => ?_, fun hs hn hs2 hq post hp => ?_⟩
      · cases hv; exact Or.inr (Or.inl rfl)
      · unfold wpX_ofTwo
        refine br_t k6 (br_t ((cv_inj cs cs2).mpr r) ?_)
        rw [← cv_11]; exact hp
      · skip
        refine yt_pre ht hs hn hs2 hq hz ⟨he', br_t (by rw [ce]; exact k6) (br_t r.1 ?_)⟩
        exact br_c (fun _ => yt_110 (by omega) hp) (fun _ => br_t r.2 (yt_110 (by omega) hp))
    · refine ⟨some (0, 0), fun v hv => ?_, fun post hp => ?_, fun hs hn hs2 hq post hp => ?_⟩
      · cases hv; exact Or.inl ⟨rfl, rfl⟩
      · unfold wpX_ofTwo
        refine br_t k6 (br_f (fun w => r ((cv_inj cs cs2).mp w)) ?_)
        rw [← cv_00]; exact hp
      · skip
        refine yt_pre ht hs hn hs2 hq hz ⟨he', br_t (by rw [ce]; exact k6) ?_⟩
        refine br_c (fun a => br_c (fun b => ?_) (fun _ => br_f (fun w => r ⟨a, w⟩) (yt_114 (by omega) hp))) (fun _ => yt_114 (by omega) hp)
        exfalso
        refine r ⟨a, ?_⟩
        have a1 : p = 0 := tm_kind ok (fun _ x => x) (fun x => absurd (x.symm.trans b) (by decide)) (fun p x _ _ _ => absurd (x.symm.trans b) (by decide))
        have a2 : q = 0 := tm_kind ok2 (fun _ x => x) (fun x => absurd (x.symm.trans (a.symm.trans b)) (by decide)) (fun p x _ _ _ => absurd (x.symm.trans (a.symm.trans b)) (by decide))
        rw [a1, a2]
  by_cases k10 : kd e = 10
  · -- ENTRY
    by_cases i2 : s2 = 1
    · by_cases t1 : s = 2
      · refine tm_kind ok (fun a _ => absurd (a.symm.trans t1) (by decide)) (fun a => absurd (a.symm.trans t1) (by decide)) (fun w _ hw hpw hU => ?_)
        subst hpw
        obtain ⟨r, v1, v2, okv, a, b, c⟩ := fe_entry (ke := ke) H q hU
        refine ⟨some (v1, v2), fun v hv => ?_, fun post hp => ?_, fun hs hn hs2 hq post hp => ?_⟩
        · cases hv; exact okv
        · unfold wpX_ofTwo
          exact br_f k6 (xv_intT cs2 i2 (br_f (by decide) (xv_num cs (xv_num cs2 (br_t k10 (xv_tabT cs t1 (br_f (by decide) (a _ hp))))))))
        · refine yt_pre (z := 0) ht hs hn hs2 hq (Or.inr ⟨fun w => absurd (w.1.symm.trans t1) (by decide), rfl⟩) ⟨he', br_f (by rw [ce]; exact k6) ⟨he', br_t (by rw [ce]; exact k10) (br_t t1 (br_t i2 (b _ ?_)))⟩⟩
          refine br_t t1 (br_t i2 ?_)
          rcases c with ⟨rfl, rfl, rfl⟩ | ⟨j, hj, rfl, rfl, rfl⟩
          · exact br_f (by decide) (br_f (by decide) (ys_give (by omega) hp))
          · have hj' : vp_in (nI j) 144 := vp_in_nI (by omega) (by decide)
            have cj : (nI j).toNatClampNeg = j := nI_clamp (by omega)
            refine br_t (nI_pos' (by omega)) ⟨hj', ?_⟩
            rw [cj]
            refine br_t (nI_pos' (by omega)) ⟨hj', ?_⟩
            rw [cj]
            exact ys_give (by omega) hp
      · refine ⟨none, fun v hv => (by cases hv), fun post hp => ?_, fun hs hn hs2 hq post hp => ?_⟩
        · unfold wpX_ofTwo
          exact br_f k6 (xv_intT cs2 i2 (br_f (by decide) (xv_num cs (xv_num cs2 (br_t k10 (xv_tabF cs t1 (br_t rfl hp)))))))
        · skip
          by_cases r : s = 1
          · exact yt_pre (z := 1) ht hs hn hs2 hq (Or.inl ⟨r, i2, rfl⟩) ⟨he', br_f (by rw [ce]; exact k6) ⟨he', br_t (by rw [ce]; exact k10) (br_f t1 (yt_176 (Or.inl t1) hp))⟩⟩
          · exact yt_pre (z := 0) ht hs hn hs2 hq (Or.inr ⟨fun w => r w.1, rfl⟩) ⟨he', br_f (by rw [ce]; exact k6) ⟨he', br_t (by rw [ce]; exact k10) (br_f t1 (yt_176 (Or.inl t1) hp))⟩⟩
    · refine ⟨none, fun v hv => (by cases hv), fun post hp => ?_, fun hs hn hs2 hq post hp => ?_⟩
      · unfold wpX_ofTwo
        exact br_f k6 (xv_intF cs2 i2 (br_t rfl hp))
      · skip
        exact yt_pre (z := 0) ht hs hn hs2 hq (Or.inr ⟨fun w => i2 w.2, rfl⟩) ⟨he', br_f (by rw [ce]; exact k6) ⟨he', br_t (by rw [ce]; exact k10) (br_c (fun _ => br_f i2 (yt_176 (Or.inr i2) hp)) (fun _ => yt_176 (Or.inr i2) hp))⟩⟩
  · -- two ints
    by_cases i2 : s2 = 1
    rotate_left
    · refine ⟨none, fun v hv => (by cases hv), fun post hp => ?_, fun hs hn hs2 hq post hp => ?_⟩
      · unfold wpX_ofTwo
        exact br_f k6 (xv_intF cs2 i2 (br_t rfl hp))
      · exact yt_pre (z := 0) ht hs hn hs2 hq (Or.inr ⟨fun w => i2 w.2, rfl⟩) ⟨he', br_f (by rw [ce]; exact k6) ⟨he', br_f (by rw [ce]; exact k10) (br_t rfl hp)⟩⟩
    by_cases i1 : s = 1
    rotate_left
    · refine ⟨none, fun v hv => (by cases hv), fun post hp => ?_, fun hs hn hs2 hq post hp => ?_⟩
      · unfold wpX_ofTwo
        exact br_f k6 (xv_intT cs2 i2 (br_f (by decide) (xv_num cs (xv_num cs2 (br_f k10 (xv_intF cs i1 (br_t rfl hp)))))))
      · exact yt_pre (z := 0) ht hs hn hs2 hq (Or.inr ⟨fun w => i1 w.1, rfl⟩) ⟨he', br_f (by rw [ce]; exact k6) ⟨he', br_f (by rw [ce]; exact k10) (br_t rfl hp)⟩⟩
    have gX : ∀ {V : Int64}, (∀ post : Int64 → Prop, post V → wpX_ofInts post (kd e) p q) → ∀ {eN sN oL fC oC : Int32} {wt cK cO cR : Nat → Int32} {rg : Nat → Int64} {oP oX oY oZ lS lT lL : Nat → Int32} {va : Nat → Int64} {iu fd : Nat → Int32} {ou : Nat → Int64}, ∀ post : Int64 → Prop, post V → wpX_ofTwo post (eN, sN, oL, fC, oC, wt, cK, cO, cR, rg, oP, oX, oY, oZ, lS, lT, lL, va, iu, sz, ke, cv_f es eu, fd, ou) (kd e) (cv_e s p) (cv_e s2 q) := by
      intro V hV eN sN oL fC oC wt cK cO cR rg oP oX oY oZ lS lT lL va iu fd ou post hp
      unfold wpX_ofTwo
      exact br_f k6 (xv_intT cs2 i2 (br_f (by decide) (xv_num cs (xv_num cs2 (br_f k10 (xv_intT cs i1 (br_f (by decide) (hV _ hp))))))))
    by_cases k5 : kd e = 5
    · by_cases r : q ≤ p
      · refine ⟨some (0, 0), fun v hv => ?_, gX (fun post hp => ?_), fun hs hn hs2 hq post hp => ?_⟩
        · cases hv; exact Or.inl ⟨rfl, rfl⟩
        · unfold wpX_ofInts
          rw [k5]
          refine br_f (by decide) (br_t (by decide) (br_t r ?_))
          rw [← cv_00]; exact hp
        · exact yt_pre (z := 1) ht hs hn hs2 hq (Or.inl ⟨i1, i2, rfl⟩) ⟨he', br_f (by rw [ce]; exact k6) ⟨he', br_f (by rw [ce]; exact k10) (br_f (by decide) ⟨he', br_t (by rw [ce]; exact k5) (br_t r (br_t r (ys_give (by omega) hp)))⟩)⟩⟩
      · refine ⟨some (1, 1), fun v hv => ?_, gX (fun post hp => ?_), fun hs hn hs2 hq post hp => ?_⟩
        · cases hv; exact Or.inr (Or.inl rfl)
        · unfold wpX_ofInts
          rw [k5]
          refine br_f (by decide) (br_t (by decide) (br_f r ?_))
          rw [← cv_11]; exact hp
        · exact yt_pre (z := 1) ht hs hn hs2 hq (Or.inl ⟨i1, i2, rfl⟩) ⟨he', br_f (by rw [ce]; exact k6) ⟨he', br_f (by rw [ce]; exact k10) (br_f (by decide) ⟨he', br_t (by rw [ce]; exact k5) (br_f r (br_f r (ys_give (by omega) hp)))⟩)⟩⟩
    by_cases k2 : kd e = 2
    · refine ⟨some (1, p + q), fun v hv => ?_, gX (fun post hp => ?_), fun hs hn hs2 hq post hp => ?_⟩
      · cases hv; exact Or.inr (Or.inl rfl)
      · unfold wpX_ofInts
        rw [k2]
        exact br_f (by decide) (br_f (by decide) (br_t rfl (xv_val hp)))
      · exact yt_pre (z := 1) ht hs hn hs2 hq (Or.inl ⟨i1, i2, rfl⟩) ⟨he', br_f (by rw [ce]; exact k6) ⟨he', br_f (by rw [ce]; exact k10) (br_f (by decide) ⟨he', br_f (by rw [ce]; exact k5) ⟨he', br_t (by rw [ce]; exact k2) (ys_give (by omega) hp)⟩⟩)⟩⟩
    by_cases k3 : kd e = 3
    · refine ⟨some (1, p - q), fun v hv => ?_, gX (fun post hp => ?_), fun hs hn hs2 hq post hp => ?_⟩
      · cases hv; exact Or.inr (Or.inl rfl)
      · unfold wpX_ofInts
        rw [k3]
        exact br_f (by decide) (br_f (by decide) (br_f (by decide) (br_t rfl (xv_val hp))))
      · exact yt_pre (z := 1) ht hs hn hs2 hq (Or.inl ⟨i1, i2, rfl⟩) ⟨he', br_f (by rw [ce]; exact k6) ⟨he', br_f (by rw [ce]; exact k10) (br_f (by decide) ⟨he', br_f (by rw [ce]; exact k5) ⟨he', br_f (by rw [ce]; exact k2) ⟨he', br_t (by rw [ce]; exact k3) (ys_give (by omega) hp)⟩⟩⟩)⟩⟩
    have k4 : kd e = 4 := by
      rcases hk with h | h | h | h | h | h
      · exact absurd h k2
      · exact absurd h k3
      · exact h
      · exact absurd h k5
      · exact absurd h k6
      · exact absurd h k10
    refine ⟨some (1, p * q), fun v hv => ?_, gX (fun post hp => ?_), fun hs hn hs2 hq post hp => ?_⟩
    · cases hv; exact Or.inr (Or.inl rfl)
    · unfold wpX_ofInts
      rw [k4]
      exact br_f (by decide) (br_f (by decide) (br_f (by decide) (br_f (by decide) (br_t rfl (xv_val hp)))))
    · exact yt_pre (z := 1) ht hs hn hs2 hq (Or.inl ⟨i1, i2, rfl⟩) ⟨he', br_f (by rw [ce]; exact k6) ⟨he', br_f (by rw [ce]; exact k10) (br_f (by decide) ⟨he', br_f (by rw [ce]; exact k5) ⟨he', br_f (by rw [ce]; exact k2) ⟨he', br_f (by rw [ce]; exact k3) (ys_give (by omega) hp)⟩⟩⟩)⟩⟩
end
