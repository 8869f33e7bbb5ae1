set_option maxHeartbeats 4000000 in
theorem op_cast : OP_cast zRR := by
  intro k x m a1 a2 a3 hk h
  have hm := zRR_mono h
  obtain ⟨P, I, R, W, ⟨⟨⟨⟨j, c, q⟩, t, fi⟩, o, ei⟩, w, pw, rs⟩, K, sv⟩ := x
  have hrf := fun v => zRR_refuse (W' := W) (m1 := m) v h rfl (fun _ _ _ => rfl)
  obtain ⟨⟨F, hI, hE, hw, ⟨hpw, bb, hb38, hpp⟩, hrs⟩, -⟩ := id h
  dsimp only at hI hE hw hpw hb38 hpp hrs
  have hr := hI.2.2.1
  have hR := hI.2.2.2.1
  have hF := hr.1
  unfold k_EL_cast k_Mo_cast
  dsimp only
  rcases pw_holds (pw := pw) a1 hpw with ⟨p, hp, rfl, c3, c4⟩ | ⟨c3, c4⟩
  rotate_left
  · rw [c3, c4, Option.bind_some, Option.bind_some, if_pos rfl, if_pos rfl]
    exact ⟨_, _, _, rfl, rfl, hm⟩
  rw [c3, c4, Option.bind_some, Option.bind_some, if_neg (show ¬ (1 : Int32) = 0 by decide), if_neg (show ¬ (1 : Int32) = 0 by decide)]
  rcases z_cellc a2 with ⟨cl, hcl, rfl, c5, c6⟩ | ⟨c5, c6⟩
  rotate_left
  · rw [c5, c6, Option.bind_some, Option.bind_some, if_pos rfl, if_pos rfl]
    exact ⟨_, _, _, rfl, rfl, hm⟩
  rw [c5, c6, Option.bind_some, Option.bind_some, if_neg (show ¬ (1 : Int32) = 0 by decide), if_neg (show ¬ (1 : Int32) = 0 by decide)]
  rcases z_dirc a3 with ⟨dd, hdd, rfl, c7, c8⟩ | ⟨c7, c8⟩
  rotate_left
  · rw [c7, c8, Option.bind_some, Option.bind_some, if_pos rfl, if_pos rfl]
    exact ⟨_, _, _, rfl, rfl, hm⟩
  rw [c7, c8, Option.bind_some, Option.bind_some, if_neg (show ¬ (1 : Int32) = 0 by decide), if_neg (show ¬ (1 : Int32) = 0 by decide)]
  unfold k_EL_whyNoCast
  dsimp only
  rcases r_why (P := P) (I := I) (R := R) (W := W) (p := q) (w := w) (pw := pw) (rs := rs) (K := K) (sv := sv) hI hE (by omega) with ⟨o2, -, -, o4⟩ | ⟨o2, o1, M, n, rd, cu, hMF, ho, hn, hq0, hqk, y4, y22, y5, y20, y6, y7, hcuM, hof, d1, d2, hcase⟩
  · rw [o4, o2, Option.bind_some, if_neg (show ¬ (1 : Int32) = 0 by decide), Option.bind_some, if_neg (show ¬ (1 : Int32) = 0 by decide), if_pos rfl]
    exact ⟨_, _, _, rfl, rfl, hrf 1⟩
  rw [o2, if_neg (show ¬ (1 : Int32) = 0 by decide), d2, Option.bind_some]
  rcases hcase with ⟨b1, -, b3⟩ | ⟨b1, -, ⟨b2, b3⟩ | ⟨b2, b3⟩⟩
  · rw [b1, b3, Option.bind_some, Option.bind_some, if_neg (show ¬ (3 : Int32) = 0 by decide), Option.bind_some, if_neg (show ¬ (3 : Int32) = 0 by decide), if_pos rfl]
    exact ⟨_, _, _, rfl, rfl, hrf 3⟩
  · rw [b1, b3, Option.bind_some, Option.bind_some, if_neg (show ¬ (4 : Int32) = 0 by decide), Option.bind_some, if_neg (show ¬ (4 : Int32) = 0 by decide), if_neg (show ¬ (1 : Int32) = 0 by decide), b2, if_pos rfl]
    exact ⟨_, _, _, rfl, rfl, hrf 4⟩
  rw [b1, b3, Option.bind_some, Option.bind_some, if_pos rfl, if_neg (show ¬ (1 : Int32) = 0 by decide), b2, if_neg (show ¬ (0 : Int32) = 1 by decide), hb38, zst_get bb p hp]
  have G : ∀ c, c < 25 → k_Ta_get 25 100 pw (nI p) (nI c) = some (pw.1 (p * 25 + c)) := fun c hc => pw_get hpw hp hc
  cases hbp : bb p with
  | false =>
    rw [show k_Ta_get 25 100 pw (nI p) 2 = some (nI 0) from (G 2 (by omega)).trans (congrArg some ((hpp p hp).1 hbp)), Option.bind_some, if_pos nI_0, Option.bind_some, if_neg (show ¬ (8 : Int32) = 0 by decide), if_pos (show (if false = true then (1 : Int32) else 0) = 0 from rfl)]
    exact ⟨_, _, _, rfl, rfl, hrf 8⟩
  | true =>
    obtain ⟨⟨sh, s, r, co, E, x1, x2, x3, x4, x5, x6, x7, x8, x9, x10, x11, x12⟩, h33⟩ := (hpp p hp).2 hbp
    dsimp only at x7 x8 x9 x10 x11
    have G0 : k_Ta_get 25 100 pw (nI p) 0 = some (nI sh) := (G 0 (by omega)).trans (congrArg some x7)
    have G2 : k_Ta_get 25 100 pw (nI p) 2 = some (nI E) := (G 2 (by omega)).trans (congrArg some x9)
    have G3 : k_Ta_get 25 100 pw (nI p) 3 = some (nI r) := (G 3 (by omega)).trans (congrArg some x10)
    have G4 : k_Ta_get 25 100 pw (nI p) 4 = some (nI co) := (G 4 (by omega)).trans (congrArg some x11)
    have P0 : m.2 33 (25 * p) = nI sh := (h33 0 (by omega)).symm.trans x7
    have P1 : m.2 33 (25 * p + 1) = nI s := (h33 1 (by omega)).symm.trans x8
    have P23 : m.2 33 (25 * p + 23) = nI r := (h33 3 (by omega)).symm.trans x10
    have P24 : m.2 33 (25 * p + 24) = nI co := (h33 4 (by omega)).symm.trans x11
    have hcuF : cu < F := by omega
    obtain ⟨-, -, -, -, -, -, hAm⟩ := hR.1 cu hcuF
    obtain ⟨am, mx, q1, q2, q3, q4⟩ := hAm r x3
    obtain ⟨-, -, -, -, -, -, -, hM8⟩ := hr.2.2.2 cu hcuF
    have q5 : m.2 8 (3 * cu + r) = nI am := (hM8 r x3).1.trans q3
    have hat7 : k_Fi_at ((j, c, q), t, fi) (nI cu) ((7 : Int32) + nI r) = some (nI am) := by
      unfold k_Fi_at
      dsimp only
      rw [show (7 : Int32) + nI r = nI (7 + r) from nI_add 7 r, fi_get hr.2.1 hF hcuF (by omega), q3]
      rfl
    have e23 : (25 : Int32) * nI p + 23 = nI (25 * p + 23) := by
      rw [show (25 : Int32) * nI p = nI (25 * p) from pk_mul 25 p]
      exact nI_add _ 23
    have e24 : (25 : Int32) * nI p + 24 = nI (25 * p + 24) := by
      rw [show (25 : Int32) * nI p = nI (25 * p) from pk_mul 25 p]
      exact nI_add _ 24
    have e25 : (25 : Int32) * nI p = nI (25 * p) := pk_mul 25 p
    have hz23 : ¬ zOut (nI (25 * p + 23)) 100 := zo_in (by omega) (by omega)
    have hz24 : ¬ zOut (nI (25 * p + 24)) 100 := zo_in (by omega) (by omega)
    have hk23 : (nI (25 * p + 23)).toNatClampNeg = 25 * p + 23 := nI_clamp (by omega)
    have hk24 : (nI (25 * p + 24)).toNatClampNeg = 25 * p + 24 := nI_clamp (by omega)
    have e3 : (3 : Int32) * nI cu + nI r = nI (3 * cu + r) := by
      rw [show (3 : Int32) * nI cu = nI (3 * cu) from pk_mul 3 cu, nI_add]
    have hz3 : ¬ zOut (nI (3 * cu + r)) 24 := zo_in (by omega) (by omega)
    have hk3 : (nI (3 * cu + r)).toNatClampNeg = 3 * cu + r := nI_clamp (by omega)
    rw [if_neg (show ¬ (if true = true then (1 : Int32) else 0) = 0 by decide), G2, Option.bind_some, if_neg (nI_ne0 x5 (show E < 2 ^ 31 by omega)), G3, Option.bind_some, d1, Option.bind_some, hat7, Option.bind_some, G4, Option.bind_some]
    simp only [e23, e24, if_neg hz23, if_neg hz24, hk23, hk24, P23, P24, e3, if_neg hz3, hk3, q5]
    by_cases hlt : nI am < nI co
    · simp only [if_pos hlt]
      rw [Option.bind_some, if_neg (show ¬ (9 : Int32) = 0 by decide)]
      exact ⟨_, _, _, rfl, rfl, hrf 9⟩
    simp only [if_neg hlt]
    rw [Option.bind_some, if_pos rfl]
    have hco : co ≤ am := by
      by_cases g : co ≤ am
      · exact g
      · exact absurd (nI_lt (by omega) (by omega)) hlt
    obtain ⟨K', m1, e1, e2, e3', e4, e5, e6⟩ := r_keepX (by omega) h.1 h.2
    dsimp only at e1 e3' e4
    obtain ⟨h1, h2, h3, h4, h5⟩ := zSS_F e3' hr
    have ho1 : zRO M o m1 := zRO_cg ho (e5 21 (by decide) (by decide) (by decide)) (fun k _ => by rw [e6 10 (by decide)])
    obtain ⟨j2, ei2, m2, f1, f2, f3, f4, f5, f6, f7, f8⟩ := r_act (p := q) h1 h2 ho1 hMF hn hq0 hqk y4 ((e5 22 (by decide) (by decide) (by decide)).trans y22) ((e5 19 (by decide) (by decide) (by decide)).trans o2) y5 ((e5 20 (by decide) (by decide) (by decide)).trans y20) (y6.trans (e5 23 (by decide) (by decide) (by decide)).symm) hcuM hof (by omega) (show 10 + p < 1000 by omega)
    have ho2 : zRO M o m2 := zRO_cg ho1 (f7 21 (by decide) (by decide) (by decide)) (fun k _ => by rw [f8 10 (by decide)])
    have hcur : ∀ f3, k_En_current (f3, o, ei2) = some (nI cu) := fun f3 => by
      obtain ⟨f', hf', hof', z1, z2⟩ := r_cur (f3 := f3) (ei := ei2) ho2 hn f5 f6
      rw [hof] at hof'
      rw [z1, hof']
    obtain ⟨j3, t3, m3, s1, s2, s3, s4⟩ := r_spend (p := q) f3 (by omega) hcuF x3 q3 (by omega) hco
    have A3 : ∀ a, a ≠ 13 → a ≠ 15 → a ≠ 4 → a ≠ 8 → a ≠ 40 → m3.2 a = m.2 a := fun a a1 a2 a3 a4 a5 => (s4.2 a a1 a2 a3 a4).trans ((f8 a a1).trans (e6 a a5))
    have A33 : m3.2 33 = m.2 33 := A3 33 (by decide) (by decide) (by decide) (by decide) (by decide)
    have A2 : m3.2 2 = m.2 2 := A3 2 (by decide) (by decide) (by decide) (by decide) (by decide)
    obtain ⟨cf, hcfd⟩ : ∃ cf : Nat → Nat, cf = fun f => (m.2 2 f).toNatClampNeg := ⟨_, rfl⟩
    have hcf : ∀ f, f < F → cf f < 100 ∧ m.2 2 f = nI (cf f) := fun f hf => by
      obtain ⟨-, ⟨v, v1, v2, v3⟩, -⟩ := hR.1 f hf
      have hce : m.2 2 f = nI v := ((hr.2.2.2 f hf).2.1).trans v2
      have hcv : cf f = v := by
        rw [hcfd]
        dsimp only
        rw [hce, nI_clamp (by omega)]
      rw [hcv]
      exact ⟨v1, hce⟩
    obtain ⟨u1, u2⟩ := hcf cu hcuF
    obtain ⟨og, hog⟩ : ∃ og, og = if sh < 2 then cl else cf cu := ⟨_, rfl⟩
    have hog1 : og < 100 := by
      rw [hog]
      split
      · exact hcl
      · exact u1
    obtain ⟨a, w1, w2, w3⟩ := r_find_area (m := m3) x1 hog1 hdd x2
    have hI0 : zRI (13000 * k + 1 + 1) F j3 c t3 fi (m3.1, a) := zRI_cg s3 (fun _ _ => rfl) (fun i hi => w2 i (by omega))
    have ho3 : zRO M o (m3.1, a) := zRO_cg ho2 (s4.1 21 (by decide) (by decide) (by decide) (by decide)) (fun k _ => by
      dsimp only
      rw [w2 10 (by decide), s4.2 10 (by decide) (by decide) (by decide) (by decide)])
    have hcf0 : ∀ f, f < F → cf f < 100 ∧ a 2 f = nI (cf f) := fun f hf => by
      rw [w2 2 (by decide), A2]
      exact hcf f hf
    obtain ⟨cnt, hcnt⟩ : ∃ cnt, cnt = zct (fun f => a 39 (cf f)) F := ⟨_, rfl⟩
    obtain ⟨j4, c4, t4, fi4, m4, k1, k2, k3, k4⟩ := r_effs_lp (P := P) (I := I) (R := R) (l2 := nI cl) (l3 := nI dd) (met := nI cnt) (W := W) (w := w) (q := q) (ei := ei2) (rs := rs) (K := K') (sv := sv) (m0 := (m3.1, a)) (cf := cf) (nI p) hMF ho3 hpw hp x6 hcuF hF hcur x7 x8 x9 w3 hcf0 x12 (fun c hc => by
      dsimp only
      rw [w2 33 (by decide), A33]
      exact h33 c hc) E 0 (13000 * k + 1 + 1) zFu zFu j3 c t3 fi (m3.1, a) (by omega) (z_fu (by omega)) (z_fu (by omega)) hI0 (zFrF_rfl _) (by omega)
    have hA4 : m4.2 39 = a 39 := k4.2 39 (by decide) (by decide) (by decide) (by decide)
    have hfin := r_cnt_m (nI p) (nI cl) (nI dd) (cf := cf) k3.2.2.1 (fun f hf => by
      rw [k4.2 2 (by decide) (by decide) (by decide) (by decide)]
      exact hcf0 f hf) F 0 zFu (by omega) (z_fu (by omega))
    rw [hA4, ← hcnt] at hfin
    have hcm := r_cnt_c (P := P) (I := I) (R := R) (W := W) (j := j) (c := c) (o := o) (w := w) (q := q) (fi := fi) (ei := ei) (rs := rs) (K := K') (sv := sv) hr hpw hp x7 x8 w3 hcf F 0 zFu (by omega) (z_fu (by omega))
    rw [← hcnt] at hcm
    have hmod : (if 0 < nI co then (k_Mo_notes (m2.1, va_up m2.2 8 (upd (m2.2 8) (3 * cu + r) (m2.2 8 (3 * cu + r) - nI co))) 5 (nI cu) (nI (10 * r + co))).bind fun o27 => k_Mo_cast_218 (nI p) (nI cl) (nI dd) (nI cu) (nI (25 * p)) o27 else k_Mo_cast_218 (nI p) (nI cl) (nI dd) (nI cu) (nI (25 * p)) (m2.1, va_up m2.2 8 (upd (m2.2 8) (3 * cu + r) (m2.2 8 (3 * cu + r) - nI co)))) = k_Mo_cast_218 (nI p) (nI cl) (nI dd) (nI cu) (nI (25 * p)) m3 := by
      by_cases g : 0 < nI co
      · rw [if_pos g] at s2 ⊢
        rw [s2, Option.bind_some]
      · rw [if_neg g] at s2 ⊢
        rw [Option.some.inj s2]
    have h218 : k_Mo_cast_218 (nI p) (nI cl) (nI dd) (nI cu) (nI (25 * p)) m3 = some (nI cnt, m4) := by
      have hz25 : ¬ zOut (nI (25 * p)) 100 := zo_in (by omega) (by omega)
      have hk25 : (nI (25 * p)).toNatClampNeg = 25 * p := nI_clamp (by omega)
      have h247 : k_Mo_cast_247 (nI p) (nI cl) (nI dd) (nI cu) (nI (25 * p)) (nI og) (nI sh) m3 = some (nI cnt, m4) := by
        unfold k_Mo_cast_247
        rw [nI_1, if_neg (zo_in (by omega) (by omega)), nI_clamp (by omega), A33, P1, w1, Option.bind_some]
        exact k2.trans hfin
      simp only [k_Mo_cast_218, if_neg hz25, hk25, A33, P0, if_neg (zo_in (show cu < 8 by omega) (show 8 < 2 ^ 31 by omega)), nI_clamp (show cu < 2 ^ 31 by omega), A2, u2]
      by_cases g : sh < 2
      · rw [if_pos g] at hog
        rw [if_pos (show nI sh < 2 from nI_lt (b := 2) g (by omega))]
        rw [hog] at h247
        exact h247
      · rw [if_neg g] at hog
        rw [if_neg (show ¬ nI sh < 2 from nI_nlt (b := 2) (by omega) (by omega)), ← hog]
        exact h247
    have h117 : k_EL_cast_117 (nI p) (nI cl) (nI dd) (nI cu) (nI og) (zpX P I R W j c q t fi o ei w pw rs K' sv) = some (nI cnt, zpX P I R W j4 c4 q t4 fi4 o ei2 w pw rs K' sv) := by
      unfold k_EL_cast_117 k_EL_countMet
      rw [show k_EL_countMet_6 (zpX P I R W j c q t fi o ei w pw rs K' sv) (nI p) (nI og) (nI dd) zFu 0 0 = _ from hcm, Option.bind_some]
      simp only [zpX]
      rw [show (10 : Int32) + nI p = nI (10 + p) from nI_add 10 p, f1, Option.bind_some, G3, Option.bind_some, G4, Option.bind_some]
      dsimp only
      rw [s1, Option.bind_some, G2, Option.bind_some]
      exact k1
    have h93 : (if nI sh < 2 then k_EL_cast_93 (nI p) (nI cl) (nI dd) (nI cu) 1 (zpX P I R W j c q t fi o ei w pw rs K' sv) else k_EL_cast_93 (nI p) (nI cl) (nI dd) (nI cu) 0 (zpX P I R W j c q t fi o ei w pw rs K' sv)) = some (nI cnt, zpX P I R W j4 c4 q t4 fi4 o ei2 w pw rs K' sv) := by
      unfold k_EL_cast_93
      by_cases g : sh < 2
      · rw [if_pos g] at hog
        rw [if_pos (show nI sh < 2 from nI_lt (b := 2) g (by omega)), if_neg (show ¬ (1 : Int32) = 0 by decide)]
        rw [hog] at h117
        exact h117
      · rw [if_neg g] at hog
        have hat1 : k_Fi_at (zpX P I R W j c q t fi o ei w pw rs K' sv).2.2.2.2.1.1.1 (nI cu) 1 = some (nI og) := by
          simp only [zpX, k_Fi_at]
          rw [show k_Ta_get 13 104 t (nI cu) 1 = some (t.1 (cu * 13 + 1)) from fi_get (q := 1) hr.2.1 hF hcuF (by omega), Option.bind_some, hog, ← u2]
          exact congrArg some ((hr.2.2.2 cu hcuF).2.1).symm
        rw [if_neg (show ¬ nI sh < 2 from nI_nlt (b := 2) (by omega) (by omega)), if_pos rfl, hat1, Option.bind_some]
        exact h117
    have I4 : ∀ i, i ≠ 14 → i ≠ 16 → i ≠ 17 → i ≠ 18 → m4.1 i = m2.1 i := fun i a1 a2 a3 a4 => (k4.1 i a1 a2 a3 a4).trans (s4.1 i a1 a2 a3 a4)
    have B4 : ∀ i, i ≠ 13 → i ≠ 15 → i ≠ 4 → i ≠ 8 → i ≠ 39 → m4.2 i = m2.2 i := fun i a1 a2 a3 a4 a5 => (k4.2 i a1 a2 a3 a4).trans ((w2 i a5).trans (s4.2 i a1 a2 a3 a4))
    refine ⟨nI cnt, zpX P I R W j4 c4 q t4 fi4 o ei2 w pw rs K' sv, m4, ?_, ?_, ⟨F, zRI_mono k3 (by omega), zRE_cg f4 (Nat.le_refl _) (by omega) (fun i q1 q2 => I4 i (by omega) (by omega) (by omega) (by omega)) (B4 10 (by decide) (by decide) (by decide) (by decide) (by decide)), ?_, ?_, ?_⟩, zRX_cg (zRX_mono e4 (by omega) (by omega)) ?_ ?_ ?_ ?_ ?_ ?_ ?_⟩
    · rw [e1, Option.bind_some, Option.bind_some, G0, Option.bind_some]
      exact h93
    · rw [e2, Option.bind_some, show (10 : Int32) + nI p = nI (10 + p) from nI_add 10 p, f2, Option.bind_some]
      have a33 : m2.2 33 = m.2 33 := (f8 33 (by decide)).trans (e6 33 (by decide))
      rw [a33, P23, show (10 : Int32) * nI r + nI co = nI (10 * r + co) from by rw [show (10 : Int32) * nI r = nI (10 * r) from pk_mul 10 r, nI_add], e25]
      exact hmod.trans h218
    · show zRW w (m4.2 0)
      rw [B4 0 (by decide) (by decide) (by decide) (by decide) (by decide), f8 0 (by decide)]
      exact h3
    · show zRP pw (m4.1 38) (m4.2 33)
      rw [I4 38 (by decide) (by decide) (by decide) (by decide), f7 38 (by decide) (by decide) (by decide), B4 33 (by decide) (by decide) (by decide) (by decide) (by decide), f8 33 (by decide)]
      exact h4
    · show rs = m4.1 29
      rw [I4 29 (by decide) (by decide) (by decide) (by decide), f7 29 (by decide) (by decide) (by decide)]
      exact h5
    · rw [I4 36 (by decide) (by decide) (by decide) (by decide), f7 36 (by decide) (by decide) (by decide)]
    · rw [I4 12 (by decide) (by decide) (by decide) (by decide), f7 12 (by decide) (by decide) (by decide)]
    · rw [I4 44 (by decide) (by decide) (by decide) (by decide), f7 44 (by decide) (by decide) (by decide)]
    · rw [I4 42 (by decide) (by decide) (by decide) (by decide), f7 42 (by decide) (by decide) (by decide)]
    · rw [B4 34 (by decide) (by decide) (by decide) (by decide) (by decide), f8 34 (by decide)]
    · rw [B4 41 (by decide) (by decide) (by decide) (by decide) (by decide), f8 41 (by decide)]
    · rw [B4 40 (by decide) (by decide) (by decide) (by decide) (by decide), f8 40 (by decide)]
