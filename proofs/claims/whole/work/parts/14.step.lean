/-! one statement on both sides: it fails, it goes on, or it opens a LOOP -/
section
variable {eN sN oL fC oC : Int32} {wt cK cO cR : Nat → Int32} {rg : Nat → Int64} {oP oX oY oZ lS lT lL : Nat → Int32} {va : Nat → Int64} {iu sz ke : Nat → Int32} {en : Nat → Int64} {fd : Nat → Int32} {ou : Nat → Int64} {yE yN yC dp tp fl lo : Int32} {kd ex ey yW yP yX yY yZ vs vn zy yK es eu tk sn : Nat → Int32} {yO : Nat → Int64} {wk sg so nu la tu lz : Nat → Int32}
theorem sl_all {E N l q s : Nat} {U : Nat → Int32} (hE : E ≤ 30) (hN : N ≤ 14) (hVE : tm_VE E kd ex ey wt cK cO cR) (hVS : tm_VS E N oP oX oY oZ) (hiu : ∀ t, 20 ≤ t → iu t = 0) (htk : ∀ t, 24 ≤ t → tk t = 0) (H : tm_HO U sz zy vs vn es eu) (hs : s < N) (hl : oP s = 3 → l < 2) (hq : q < 2000) :
    ∃ (fC' : Int32) (rg' : Nat → Int64) (iu' sz' ke' fd' : Nat → Int32) (q' : Nat) (ou' : Nat → Int64) (dp' tp' fl' : Int32) (vs' vn' zy' es' eu' tk' sn' wk' sg' so' nu' : Nat → Int32),
      (∃ U', tm_HO U' sz' zy' vs' vn' es' eu') ∧ (∀ t, 20 ≤ t → iu' t = 0) ∧ (∀ t, 24 ≤ t → tk' t = 0) ∧ q' ≤ q + 1 ∧
      (((∀ post : Int32 → SX → Prop, post (-1) (nI E, nI N, nI l, fC', nI q', wt, cK, cO, cR, rg', oP, oX, oY, oZ, lS, lT, lL, cv_f vs' vn', iu', sz', ke', cv_f es' eu', fd', ou') → wpX_execute post (nI E, nI N, nI l, fC, nI q, wt, cK, cO, cR, rg, oP, oX, oY, oZ, lS, lT, lL, cv_f vs vn, iu, sz, ke, cv_f es eu, fd, ou) (nI s)) ∧
        (∀ (post : Int32 → SY → Prop) (J : Int32 → Int32 → Int32 → Int32 → Int32 → Int32 → Int32 → Int32 → Int32 → (Nat → Int32) → (Nat → Int32) → (Nat → Int32) → (Nat → Int32) → (Nat → Int32) → (Nat → Int32) → (Nat → Int32) → (Nat → Int32) → (Nat → Int32) → (Nat → Int32) → (Nat → Int32) → (Nat → Int32) → (Nat → Int32) → (Nat → Int32) → (Nat → Int32) → (Nat → Int32) → (Nat → Int64) → (Nat → Int32) → (Nat → Int32) → (Nat → Int32) → (Nat → Int32) → (Nat → Int32) → (Nat → Int32) → (Nat → Int32) → Prop) (k : Nat), post (nI s) (nI E, nI N, nI q', dp', tp', fl', nI l, kd, ex, ey, wt, oP, oX, oY, oZ, vs', vn', zy', ke', es', eu', tk', sn', ou', wk', sg', so', nu', la, tu, lz) → wY_run_94 post J (nI s) (nI k) (nI E) (nI N) (nI q) dp tp 0 (nI l) kd ex ey wt oP oX oY oZ vs vn zy ke es eu tk sn ou wk sg so nu la tu lz)) ∨
       (∃ nx : Nat, (nx = s + 1 ∨ nx = tm_nm oP oY oZ s + 1) ∧ fl' = 0 ∧ (∀ post : Int32 → SX → Prop, post (nI nx) (nI E, nI N, nI l, fC', nI q', wt, cK, cO, cR, rg', oP, oX, oY, oZ, lS, lT, lL, cv_f vs' vn', iu', sz', ke', cv_f es' eu', fd', ou') → wpX_execute post (nI E, nI N, nI l, fC, nI q, wt, cK, cO, cR, rg, oP, oX, oY, oZ, lS, lT, lL, cv_f vs vn, iu, sz, ke, cv_f es eu, fd, ou) (nI s)) ∧
        (∀ (post : Int32 → SY → Prop) (J : Int32 → Int32 → Int32 → Int32 → Int32 → Int32 → Int32 → Int32 → Int32 → (Nat → Int32) → (Nat → Int32) → (Nat → Int32) → (Nat → Int32) → (Nat → Int32) → (Nat → Int32) → (Nat → Int32) → (Nat → Int32) → (Nat → Int32) → (Nat → Int32) → (Nat → Int32) → (Nat → Int32) → (Nat → Int32) → (Nat → Int32) → (Nat → Int32) → (Nat → Int32) → (Nat → Int64) → (Nat → Int32) → (Nat → Int32) → (Nat → Int32) → (Nat → Int32) → (Nat → Int32) → (Nat → Int32) → (Nat → Int32) → Prop) (k : Nat), J (nI nx) (nI (k + 1)) (nI E) (nI N) (nI q') dp' tp' fl' (nI l) kd ex ey wt oP oX oY oZ vs' vn' zy' ke' es' eu' tk' sn' ou' wk' sg' so' nu' la tu lz → wY_run_94 post J (nI s) (nI k) (nI E) (nI N) (nI q) dp tp 0 (nI l) kd ex ey wt oP oX oY oZ vs vn zy ke es eu tk sn ou wk sg so nu la tu lz)) ∨
       (oP s = 3 ∧ fl' = 0 ∧ ∃ (n lim : Int32) (v : Nat), v < 6 ∧ oX s = nI v ∧ ((n ≤ 5 ∧ lim = n) ∨ (¬ n ≤ 5 ∧ lim = 5)) ∧
        (∀ post : Int32 → SX → Prop, post (nI (tm_nm oP oY oZ s + 1)) (nI E, nI N, nI (l + 1), fC', nI q', wt, cK, cO, cR, rg', oP, oX, oY, oZ, upd lS l (nI s), upd lT l 0, upd lL l lim, cv_f vs' vn', iu', sz', ke', cv_f es' eu', fd', ou') → wpX_execute post (nI E, nI N, nI l, fC, nI q, wt, cK, cO, cR, rg, oP, oX, oY, oZ, lS, lT, lL, cv_f vs vn, iu, sz, ke, cv_f es eu, fd, ou) (nI s)) ∧
        ((¬ 1 ≤ n ∧ ∀ (post : Int32 → SY → Prop) (J : Int32 → Int32 → Int32 → Int32 → Int32 → Int32 → Int32 → Int32 → Int32 → (Nat → Int32) → (Nat → Int32) → (Nat → Int32) → (Nat → Int32) → (Nat → Int32) → (Nat → Int32) → (Nat → Int32) → (Nat → Int32) → (Nat → Int32) → (Nat → Int32) → (Nat → Int32) → (Nat → Int32) → (Nat → Int32) → (Nat → Int32) → (Nat → Int32) → (Nat → Int32) → (Nat → Int64) → (Nat → Int32) → (Nat → Int32) → (Nat → Int32) → (Nat → Int32) → (Nat → Int32) → (Nat → Int32) → (Nat → Int32) → Prop) (k : Nat), J (nI (tm_nm oP oY oZ s + 1)) (nI (k + 1)) (nI E) (nI N) (nI q') dp' tp' fl' (nI l) kd ex ey wt oP oX oY oZ vs' vn' zy' ke' es' eu' tk' sn' ou' wk' sg' so' nu' la tu lz → wY_run_94 post J (nI s) (nI k) (nI E) (nI N) (nI q) dp tp 0 (nI l) kd ex ey wt oP oX oY oZ vs vn zy ke es eu tk sn ou wk sg so nu la tu lz) ∨
         (1 ≤ n ∧ ∀ (post : Int32 → SY → Prop) (J : Int32 → Int32 → Int32 → Int32 → Int32 → Int32 → Int32 → Int32 → Int32 → (Nat → Int32) → (Nat → Int32) → (Nat → Int32) → (Nat → Int32) → (Nat → Int32) → (Nat → Int32) → (Nat → Int32) → (Nat → Int32) → (Nat → Int32) → (Nat → Int32) → (Nat → Int32) → (Nat → Int32) → (Nat → Int32) → (Nat → Int32) → (Nat → Int32) → (Nat → Int32) → (Nat → Int64) → (Nat → Int32) → (Nat → Int32) → (Nat → Int32) → (Nat → Int32) → (Nat → Int32) → (Nat → Int32) → (Nat → Int32) → Prop) (k : Nat), J (nI (s + 1)) (nI (k + 1)) (nI E) (nI N) (nI q') dp' tp' fl' (nI (l + 1)) kd ex ey wt oP oX oY oZ (upd vs' v 1) (upd vn' v 1) zy' ke' es' eu' tk' sn' ou' wk' sg' so' nu' (upd la l (nI s)) (upd tu l 1) (upd lz l lim) → wY_run_94 post J (nI s) (nI k) (nI E) (nI N) (nI q) dp tp 0 (nI l) kd ex ey wt oP oX oY oZ vs vn zy ke es eu tk sn ou wk sg so nu la tu lz)))) := by
  obtain ⟨g, c, fd', K, kR, kC, hcol⟩ := xk_collect (eN := nI E) (sN := nI N) (oL := nI l) (fC := fC) (oC := nI q) (wt := wt) (cK := cK) (cO := cO) (cR := cR) (rg := rg) (oP := oP) (oX := oX) (oY := oY) (oZ := oZ) (lS := lS) (lT := lT) (lL := lL) (ke := ke) (fd := fd) (ou := ou) H hiu
  obtain ⟨sn', Y, yR, yC, hre⟩ := yk_reach (yE := nI E) (yN := nI N) (yC := nI q) (dp := dp) (tp := tp) (fl := 0) (lo := nI l) (kd := kd) (ex := ex) (ey := ey) (yW := wt) (yP := oP) (yX := oX) (yY := oY) (yZ := oZ) (yK := ke) (tk := tk) (sn := sn) (yO := ou) (wk := wk) (sg := sg) (so := so) (nu := nu) (la := la) (tu := tu) (lz := lz) H
  obtain ⟨e1, e2, Hg⟩ := kk_same H K kR kC Y yR yC
  rw [e2] at hre
  have c20 : c ≤ 20 := by have := cn_le g 20; have := K.1; omega
  have g24 : ∀ t, 24 ≤ t → g t = 0 := fun t ht => K.2.1 t (by omega)
  have s14 : s < 14 := by omega
  by_cases c8 : c ≤ 8
  rotate_left
  · exact ⟨nI c, rg, g, sz, ke, fd', q, ou, dp, tp, 0, vs, vn, zy, es, eu, tk, sn', wk, sg, so, nu, ⟨g, Hg⟩, K.2.1, htk, by omega, Or.inl ⟨fun post hp => x_full hcol (by omega) c20 hp, fun post J k hp => y_full hs hN hre (by omega) (by omega) hp⟩⟩
  have hcn : 2 * cn_c g 20 ≤ 16 := by have := K.1; omega
  have hst := hVS s hs
  by_cases p1 : oP s = 1
  · -- PUT
    have hst1 := hst
    rw [p1] at hst1
    obtain ⟨⟨a1, ha1, hx⟩, ⟨a2, ha2, hy⟩, a3, ha3, hz⟩ := st_1 hst1
    obtain ⟨w1, w17, T1⟩ := hVE a1 ha1
    obtain ⟨w2, w27, T2⟩ := hVE a2 ha2
    obtain ⟨w3, w37, T3⟩ := hVE a3 ha3
    obtain ⟨o1, g1, z11, z21, M1, ok1, X1, Y1⟩ := ev_all (eN := nI E) (sN := nI N) (oL := nI l) (fC := nI c) (oC := nI q) (wt := wt) (cK := cK) (cO := cO) (cR := cR) (oP := oP) (oX := oX) (oY := oY) (oZ := oZ) (lS := lS) (lT := lT) (lL := lL) (ke := ke) (fd := fd') (ou := ou) (yE := nI E) (yN := nI N) (yC := nI q) (lo := nI l) (kd := kd) (ex := ex) (ey := ey) (yW := wt) (yP := oP) (yX := oX) (yY := oY) (yZ := oZ) (vs := vs) (vn := vn) (es := es) (eu := eu) (sn := sn') (yO := ou) (la := la) (tu := tu) (lz := lz) hE w1 w1 a1 (7 * a1) 0 T1 g sz zy Hg K.2.1 (by omega) (by omega) 0 0 (by omega) (by omega)
    have hM1 := M1.2.2.2
    obtain ⟨o2, g2, z12, z22, M2, ok2, X2, Y2⟩ := ev_all (eN := nI E) (sN := nI N) (oL := nI l) (fC := nI c) (oC := nI q) (wt := wt) (cK := cK) (cO := cO) (cR := cR) (oP := oP) (oX := oX) (oY := oY) (oZ := oZ) (lS := lS) (lT := lT) (lL := lL) (ke := ke) (fd := fd') (ou := ou) (yE := nI E) (yN := nI N) (yC := nI q) (lo := nI l) (kd := kd) (ex := ex) (ey := ey) (yW := wt) (yP := oP) (yX := oX) (yY := oY) (yZ := oZ) (vs := vs) (vn := vn) (es := es) (eu := eu) (sn := sn') (yO := ou) (la := la) (tu := tu) (lz := lz) hE w2 w2 a2 (7 * a2) 0 T2 g1 z11 z21 M1.1 M1.2.1 (by omega) (by omega) 0 1 (by omega) (by omega)
    have hM2 := M2.2.2.2
    obtain ⟨o3, g3, z13, z23, M3, ok3, X3, Y3⟩ := ev_all (eN := nI E) (sN := nI N) (oL := nI l) (fC := nI c) (oC := nI q) (wt := wt) (cK := cK) (cO := cO) (cR := cR) (oP := oP) (oX := oX) (oY := oY) (oZ := oZ) (lS := lS) (lT := lT) (lL := lL) (ke := ke) (fd := fd') (ou := ou) (yE := nI E) (yN := nI N) (yC := nI q) (lo := nI l) (kd := kd) (ex := ex) (ey := ey) (yW := wt) (yP := oP) (yX := oX) (yY := oY) (yZ := oZ) (vs := vs) (vn := vn) (es := es) (eu := eu) (sn := sn') (yO := ou) (la := la) (tu := tu) (lz := lz) hE w3 w3 a3 (7 * a3) 0 T3 g2 z12 z22 M2.1 M2.2.1 (by omega) (by omega) 0 2 (by omega) (by omega)
    obtain ⟨r1, hX1⟩ := xw_work (rg := rg) (by omega) (tm_pos T1).2.1 w17 X1
    obtain ⟨r2, hX2⟩ := xw_work (rg := r1) (by omega) (tm_pos T2).2.1 w27 X2
    obtain ⟨r3, hX3⟩ := xw_work (rg := r2) (by omega) (tm_pos T3).2.1 w37 X3
    have mm1 : ∀ t, ¬ g t = 0 → z11 t = sz t ∧ z21 t = zy t := fun t h => (M1.2.2.1 t h).2
    have mm2 : ∀ t, ¬ g t = 0 → z12 t = sz t ∧ z22 t = zy t := fun t h => by
      have a := M1.2.2.1 t h
      have b := M2.2.2.1 t a.1
      exact ⟨b.2.1.trans a.2.1, b.2.2.trans a.2.2⟩
    have mm3 : ∀ t, ¬ g t = 0 → z13 t = sz t ∧ z23 t = zy t := fun t h => by
      have a := M1.2.2.1 t h
      have b := M2.2.2.1 t a.1
      have c := M3.2.2.1 t b.1
      exact ⟨c.2.1.trans (mm2 t h).1, c.2.2.trans (mm2 t h).2⟩
    have g3z : ∀ t, 20 ≤ t → g3 t = 0 := M3.2.1
    cases o1 with
    | none =>
      obtain ⟨dp1, tp1, wk1, sg1, so1, nu1, hY1⟩ := yw_none (dp := dp) (wk := wk) (sg := sg) (so := so) (nu := nu) w17 Y1
      refine ⟨nI c, r3, g3, z13, ke, fd', q, ou, dp1, tp1, 1, vs, vn, z21, es, eu, g1, sn', wk1, sg1, so1, nu1, ⟨g, tm_back Hg (fun t h => ⟨(mm3 t h).1, (mm1 t h).2⟩)⟩, g3z, fun t ht => M1.2.1 t (by omega), by omega, Or.inl ⟨fun post hp => ?_, fun post J k hp => ?_⟩⟩
      · exact x_put hcol c8 s14 p1 hx hy hz hX1 hX2 hX3 (fun P hP => xp_fail (Or.inl rfl) hP) (fun _ => hp) (fun z => absurd rfl z)
      · exact y_go hs hN hre c8 K.2.2.1 e1 g24 htk (fun P hP => y_put s14 p1 hx hY1 (fun _ => hP) (fun z => absurd z (by decide))) (fun z => absurd z (by decide)) (fun _ => hp)
    | some v1 =>
      obtain ⟨wk1, sg1, so1, nu1, lo1, hs1, hn1, hY1⟩ := yw_some (dp := dp) (wk := wk) (sg := sg) (so := so) (nu := nu) w17 Y1
      cases o2 with
      | none =>
        obtain ⟨dp2, tp2, wk2, sg2, so2, nu2, hY2⟩ := yw_none (dp := nI 0) (wk := wk1) (sg := sg1) (so := so1) (nu := nu1) w27 Y2
        refine ⟨nI c, r3, g3, z13, ke, fd', q, ou, dp2, tp2, 1, vs, vn, z22, es, eu, g2, sn', wk2, sg2, so2, nu2, ⟨g, tm_back Hg (fun t h => ⟨(mm3 t h).1, (mm2 t h).2⟩)⟩, g3z, fun t ht => M2.2.1 t (by omega), by omega, Or.inl ⟨fun post hp => ?_, fun post J k hp => ?_⟩⟩
        · exact x_put hcol c8 s14 p1 hx hy hz hX1 hX2 hX3 (fun P hP => xp_fail (Or.inr (Or.inl rfl)) hP) (fun _ => hp) (fun z => absurd rfl z)
        · exact y_go hs hN hre c8 K.2.2.1 e1 g24 htk (fun P hP => y_put s14 p1 hx hY1 (fun z => absurd rfl z) (fun _ => y_put2 s14 p1 hy hY2 (fun _ => hP) (fun z => absurd z (by decide)))) (fun z => absurd z (by decide)) (fun _ => hp)
      | some v2 =>
        obtain ⟨wk2, sg2, so2, nu2, lo2, hs2, hn2, hY2⟩ := yw_some (dp := nI 0) (wk := wk1) (sg := sg1) (so := so1) (nu := nu1) w27 Y2
        cases o3 with
        | none =>
          obtain ⟨dp3, tp3, wk3, sg3, so3, nu3, hY3⟩ := yw_none (dp := nI 0) (wk := wk2) (sg := sg2) (so := so2) (nu := nu2) w37 Y3
          refine ⟨nI c, r3, g3, z13, ke, fd', q, ou, dp3, tp3, 1, vs, vn, z23, es, eu, g3, sn', wk3, sg3, so3, nu3, ⟨g, tm_back Hg (fun t h => mm3 t h)⟩, g3z, fun t ht => M3.2.1 t (by omega), by omega, Or.inl ⟨fun post hp => ?_, fun post J k hp => ?_⟩⟩
          · exact x_put hcol c8 s14 p1 hx hy hz hX1 hX2 hX3 (fun P hP => xp_fail (Or.inr (Or.inr rfl)) hP) (fun _ => hp) (fun z => absurd rfl z)
          · exact y_go hs hN hre c8 K.2.2.1 e1 g24 htk (fun P hP => y_put s14 p1 hx hY1 (fun z => absurd rfl z) (fun _ => y_put2 s14 p1 hy hY2 (fun z => absurd rfl z) (fun _ => y_put3 (fl2 := 1) (zy2 := zy) (yK2 := ke) (es2 := es) (eu2 := eu) s14 p1 hz hY3 (fun _ => hP) (fun z => absurd z (by decide)) (fun z => absurd z (by decide))))) (fun z => absurd z (by decide)) (fun _ => hp)
        | some v3 =>
          obtain ⟨wk3, sg3, so3, nu3, lo3, hs3, hn3, hY3⟩ := yw_some (dp := nI 0) (wk := wk2) (sg := sg2) (so := so2) (nu := nu2) w37 Y3
          have okv2 := cv_okm (ok2 v2 rfl) (fun t h => (M3.2.2.1 t h).1)
          have okv1 := cv_okm (cv_okm (ok1 v1 rfl) (fun t h => (M2.2.2.1 t h).1)) (fun t h => (M3.2.2.1 t h).1)
          obtain ⟨b, fl', sz', zy', ke', es', eu', H', hb, fX, fY⟩ := lk_put (eN := nI E) (sN := nI N) (oL := nI l) (fC := nI c) (oC := nI q) (wt := wt) (cK := cK) (cO := cO) (cR := cR) (rg := r3) (oP := oP) (oX := oX) (oY := oY) (oZ := oZ) (lS := lS) (lT := lT) (lL := lL) (va := cv_f vs vn) (iu := g3) (sz := z13) (ke := ke) (fd := fd') (ou := ou) (yE := nI E) (yN := nI N) (yC := nI q) (dp := nI 0) (tp := nI 3) (lo := nI l) (kd := kd) (ex := ex) (ey := ey) (yW := wt) (yP := oP) (yX := oX) (yY := oY) (yZ := oZ) (vs := vs) (vn := vn) (zy := z23) (es := es) (eu := eu) (tk := g3) (sn := sn') (yO := ou) (wk := wk3) (sg := sg3) (so := so3) (nu := nu3) (la := la) (tu := tu) (lz := lz) M3.1 okv1 okv2 (ok3 v3 rfl)
            (by rw [(lo3 0 (by omega)).1, (lo2 0 (by omega)).1]; exact hs1) (by rw [(lo3 0 (by omega)).2, (lo2 0 (by omega)).2]; exact hn1) (by rw [(lo3 1 (by omega)).1]; exact hs2) (by rw [(lo3 1 (by omega)).2]; exact hn2) hs3 hn3
          rcases hb with ⟨rfl, rfl⟩ | ⟨rfl, rfl⟩
          · refine ⟨nI c, r3, g3, sz', ke', fd', q, ou, nI 0, nI 3, 1, vs, vn, zy', es', eu', g3, sn', wk3, sg3, so3, nu3, ⟨g3, H'⟩, g3z, fun t ht => M3.2.1 t (by omega), by omega, Or.inl ⟨fun post hp => ?_, fun post J k hp => ?_⟩⟩
            · exact x_put hcol c8 s14 p1 hx hy hz hX1 hX2 hX3 fX (fun _ => hp) (fun z => absurd rfl z)
            · exact y_go hs hN hre c8 K.2.2.1 e1 g24 htk (fun P hP => y_put s14 p1 hx hY1 (fun z => absurd rfl z) (fun _ => y_put2 s14 p1 hy hY2 (fun z => absurd rfl z) (fun _ => y_put3 s14 p1 hz hY3 (fun z => absurd rfl z) (fun _ => fY) (fun _ => hP)))) (fun z => absurd z (by decide)) (fun _ => hp)
          · refine ⟨nI c, r3, g3, sz', ke', fd', q, ou, nI 0, nI 3, 0, vs, vn, zy', es', eu', g3, sn', wk3, sg3, so3, nu3, ⟨g3, H'⟩, g3z, fun t ht => M3.2.1 t (by omega), by omega, Or.inr (Or.inl ⟨s + 1, Or.inl rfl, rfl, fun post hp => ?_, fun post J k hp => ?_⟩)⟩
            · exact x_put hcol c8 s14 p1 hx hy hz hX1 hX2 hX3 fX (fun z => absurd z (by decide)) (fun _ => hp)
            · exact y_go hs hN hre c8 K.2.2.1 e1 g24 htk (fun P hP => y_put s14 p1 hx hY1 (fun z => absurd rfl z) (fun _ => y_put2 s14 p1 hy hY2 (fun z => absurd rfl z) (fun _ => y_put3 s14 p1 hz hY3 (fun z => absurd rfl z) (fun _ => fY) (fun _ => hP)))) (fun _ => hp) (fun z => absurd rfl z)
  · -- one expression
    have he : ∃ e, e < E ∧ (((oP s = 0 ∨ oP s = 3) ∧ oY s = nI e) ∨ ((oP s = 2 ∨ oP s = 4) ∧ oX s = nI e)) := by
      rcases hst with ⟨h, _, b, hb, h2⟩ | ⟨h, _⟩ | ⟨h, ⟨a, ha, h2⟩, _⟩ | ⟨h, _, ⟨b, hb, h2⟩, _⟩ | ⟨h, a, ha, h2⟩
      · exact ⟨b, hb, Or.inl ⟨Or.inl h, h2⟩⟩
      · exact absurd h p1
      · exact ⟨a, ha, Or.inr ⟨Or.inl h, h2⟩⟩
      · exact ⟨b, hb, Or.inl ⟨Or.inr h, h2⟩⟩
      · exact ⟨a, ha, Or.inr ⟨Or.inr h, h2⟩⟩
    obtain ⟨e, he, hz⟩ := he
    obtain ⟨w, w7, T⟩ := hVE e he
    obtain ⟨o, g', z1, z2, M, ok, X1, Y1⟩ := ev_all (eN := nI E) (sN := nI N) (oL := nI l) (fC := nI c) (oC := nI q) (wt := wt) (cK := cK) (cO := cO) (cR := cR) (oP := oP) (oX := oX) (oY := oY) (oZ := oZ) (lS := lS) (lT := lT) (lL := lL) (ke := ke) (fd := fd') (ou := ou) (yE := nI E) (yN := nI N) (yC := nI q) (lo := nI l) (kd := kd) (ex := ex) (ey := ey) (yW := wt) (yP := oP) (yX := oX) (yY := oY) (yZ := oZ) (vs := vs) (vn := vn) (es := es) (eu := eu) (sn := sn') (yO := ou) (la := la) (tu := tu) (lz := lz) hE w w e (7 * e) 0 T g sz zy Hg K.2.1 (by omega) (by omega) 0 0 (by omega) (by omega)
    obtain ⟨r1, hX1⟩ := xw_work (rg := rg) (by omega) (tm_pos T).2.1 w7 X1
    have gz : ∀ t, 24 ≤ t → g' t = 0 := fun t ht => M.2.1 t (by omega)
    cases o with
    | none =>
      obtain ⟨dp1, tp1, wk1, sg1, so1, nu1, hY1⟩ := yw_none (dp := dp) (wk := wk) (sg := sg) (so := so) (nu := nu) w7 Y1
      refine ⟨nI c, r1, g', z1, ke, fd', q, ou, dp1, tp1, 1, vs, vn, z2, es, eu, g', sn', wk1, sg1, so1, nu1, ⟨g', M.1⟩, M.2.1, gz, by omega, Or.inl ⟨fun post hp => ?_, fun post J k hp => ?_⟩⟩
      · exact x_one hcol c8 s14 rfl hz (x_none hX1 hp)
      · exact y_go hs hN hre c8 K.2.2.1 e1 g24 htk (fun P hP => y_one s14 rfl hz hY1 (y_fail hP)) (fun z => absurd z (by decide)) (fun _ => hp)
    | some v =>
      obtain ⟨wk1, sg1, so1, nu1, _, hs1, hn1, hY1⟩ := yw_some (dp := dp) (wk := wk) (sg := sg) (so := so) (nu := nu) w7 Y1
      have okv := ok v rfl
      have cs := cv_ok_s okv
      have n3 := cv_ne3 cs
      rcases st_n hst with p0 | p0 | p0 | p0 | p0
      · -- LET
        have hst0 := hst
        rw [p0] at hst0 hz
        obtain ⟨⟨x, hx6, hx⟩, _⟩ := st_0 hst0
        refine ⟨nI c, r1, g', z1, ke, fd', q, ou, nI 0, nI 1, 0, upd vs x v.1, upd vn x v.2, z2, es, eu, g', sn', wk1, sg1, so1, nu1, ⟨g', tm_let M.1 x okv⟩, M.2.1, gz, by omega, Or.inr (Or.inl ⟨s + 1, Or.inl rfl, rfl, fun post hp => ?_, fun post J k hp => ?_⟩)⟩
        · exact x_one hcol c8 s14 p0 hz (x_let hX1 n3 s14 hx6 hx (by rw [show ev_o (some v) = cv_e v.1 v.2 from rfl, cv_fu]; exact hp))
        · exact y_go hs hN hre c8 K.2.2.1 e1 g24 htk (fun P hP => y_one s14 p0 hz hY1 (y_let s14 p0 hx6 hx (by rw [hs1, hn1]; exact hP))) (fun _ => hp) (fun z => absurd rfl z)
      · exact absurd p0 p1
      · -- IF
        have hz2 := hz
        rw [p0] at hz2
        have hn : ∃ nx, (nx = s + 1 ∨ nx = tm_nm oP oY oZ s + 1) ∧ ((v.1 = 0 ∧ nx = tm_nm oP oY oZ s + 1) ∨ (¬ v.1 = 0 ∧ nx = s + 1)) := by
          by_cases z : v.1 = 0
          · exact ⟨_, Or.inr rfl, Or.inl ⟨z, rfl⟩⟩
          · exact ⟨_, Or.inl rfl, Or.inr ⟨z, rfl⟩⟩
        obtain ⟨nx, hn1', hn2⟩ := hn
        refine ⟨nI c, r1, g', z1, ke, fd', q, ou, nI 0, nI 1, 0, vs, vn, z2, es, eu, g', sn', wk1, sg1, so1, nu1, ⟨g', M.1⟩, M.2.1, gz, by omega, Or.inr (Or.inl ⟨nx, hn1', rfl, fun post hp => ?_, fun post J k hp => ?_⟩)⟩
        · exact x_one hcol c8 s14 p0 hz2 (x_if hX1 n3 s14 hst (by rw [show ev_o (some v) = cv_e v.1 v.2 from rfl, cv_0 cs]; exact hn2) hp)
        · exact y_go hs hN hre c8 K.2.2.1 e1 g24 htk (fun P hP => y_one s14 p0 hz2 hY1 (y_if s14 p0 hst (by rw [hs1]; exact hn2) hP)) (fun _ => hp) (fun z => absurd rfl z)
      · -- LOOP
        have hst0 := hst
        have hz2 := hz
        rw [p0] at hst0 hz2
        obtain ⟨⟨x, hx6, hx⟩, _⟩ := st_3 hst0
        by_cases i1 : v.1 = 1
        · obtain ⟨a, b⟩ := v
          have i1' : a = 1 := i1
          subst i1'
          have hlim : ∃ lim : Int32, (b ≤ 5 ∧ lim = b) ∨ (¬ b ≤ 5 ∧ lim = 5) := by
            by_cases z : b ≤ 5
            · exact ⟨b, Or.inl ⟨z, rfl⟩⟩
            · exact ⟨5, Or.inr ⟨z, rfl⟩⟩
          obtain ⟨lim, hlim⟩ := hlim
          refine ⟨nI c, r1, g', z1, ke, fd', q, ou, nI 0, nI 1, 0, vs, vn, z2, es, eu, g', sn', wk1, sg1, so1, nu1, ⟨g', M.1⟩, M.2.1, gz, by omega, Or.inr (Or.inr ⟨p0, rfl, b, lim, x, hx6, hx, hlim, fun post hp => ?_, ?_⟩)⟩
          · exact x_one hcol c8 s14 p0 hz2 (x_loop hX1 s14 hst (hl p0) hlim hp)
          · by_cases z : 1 ≤ b
            · refine Or.inr ⟨z, fun post J k hp => ?_⟩
              exact y_go hs hN hre c8 K.2.2.1 e1 g24 htk (fun P hP => y_one s14 p0 hz2 hY1 (y_loop1 s14 p0 hs1 (by rw [hn1]; exact z) (hl p0) hx6 hx (by rw [hn1]; exact hlim) hP)) (fun _ => hp) (fun z => absurd rfl z)
            · refine Or.inl ⟨z, fun post J k hp => ?_⟩
              exact y_go hs hN hre c8 K.2.2.1 e1 g24 htk (fun P hP => y_one s14 p0 hz2 hY1 (y_loop0 s14 p0 hst hs1 (by rw [hn1]; exact z) hP)) (fun _ => hp) (fun z => absurd rfl z)
        · refine ⟨nI c, r1, g', z1, ke, fd', q, ou, nI 0, nI 1, 1, vs, vn, z2, es, eu, g', sn', wk1, sg1, so1, nu1, ⟨g', M.1⟩, M.2.1, gz, by omega, Or.inl ⟨fun post hp => ?_, fun post J k hp => ?_⟩⟩
          · exact x_one hcol c8 s14 p0 hz2 (x_loopF hX1 cs i1 hp)
          · exact y_go hs hN hre c8 K.2.2.1 e1 g24 htk (fun P hP => y_one s14 p0 hz2 hY1 (y_loopF s14 p0 (by rw [hs1]; exact i1) hP)) (fun z => absurd z (by decide)) (fun _ => hp)
      · -- SHOW
        have hz2 := hz
        rw [p0] at hz2
        obtain ⟨ou', fX, fY⟩ := lk_show (eN := nI E) (sN := nI N) (oL := nI l) (fC := nI c) (wt := wt) (cK := cK) (cO := cO) (cR := cR) (rg := r1) (oP := oP) (oX := oX) (oY := oY) (oZ := oZ) (lS := lS) (lT := lT) (lL := lL) (va := cv_f vs vn) (iu := g') (ke := ke) (en := cv_f es eu) (fd := fd') (ou := ou) (yE := nI E) (yN := nI N) (dp := nI 0) (tp := nI 1) (fl := 0) (lo := nI l) (kd := kd) (ex := ex) (ey := ey) (yW := wt) (yP := oP) (yX := oX) (yY := oY) (yZ := oZ) (yK := ke) (tk := g') (sn := sn') (wk := wk1) (sg := sg1) (so := so1) (nu := nu1) (la := la) (tu := tu) (lz := lz) M.1 okv hq hs1 hn1
        refine ⟨nI c, r1, g', z1, ke, fd', q + 1, ou', nI 0, nI 1, 0, vs, vn, z2, es, eu, g', sn', wk1, sg1, so1, nu1, ⟨g', M.1⟩, M.2.1, gz, by omega, Or.inr (Or.inl ⟨s + 1, Or.inl rfl, rfl, fun post hp => ?_, fun post J k hp => ?_⟩)⟩
        · exact x_one hcol c8 s14 p0 hz2 (x_show hX1 n3 fX hp)
        · exact y_go hs hN hre c8 K.2.2.1 e1 g24 htk (fun P hP => y_one s14 p0 hz2 hY1 (y_show s14 p0 fY hP)) (fun _ => hp) (fun z => absurd rfl z)
end
