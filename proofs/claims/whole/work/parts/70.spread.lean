def zpX (P : zsP) (I R : Int32) (W : zsW) (j c : zsT) (p : Nat → Int32) (t : zsT) (fi : Nat → Int32) (o : zsT) (ei : Nat → Int32) (w pw : zsT) (rs : Int32) (K : zsK) (sv : zsS) : zsX := (P, I, R, W, ((((j, c, p), t, fi), o, ei), w, pw, rs), K, sv)
def zfl (L N : Int32) : Int32 := if L = 109 then 1 else if L = 107 then (if N = 2 then 1 else if N = 3 then 1 else 0) else 0
theorem pw_get {p c : Nat} {pw : zsT} (h : pw.2 = nI 4) (hp : p < 4) (hc : c < 25) : k_Ta_get 25 100 pw (nI p) (nI c) = some (pw.1 (p * 25 + c)) := ta_get (w := 25) (n := 100) h hp hc (by omega) (by omega)
theorem r_met {F f v p og dd sh s : Nat} {P : zsP} {I R : Int32} {W : zsW} {j c t o w pw : zsT} {q fi ei : Nat → Int32} {rs : Int32} {K : zsK} {sv : zsS} {m : zsM} {A : Nat → Int32} (hr : zRF F t m) (hf : f < F) (hpw : pw.2 = nI 4) (hp : p < 4) (h0 : pw.1 (p * 25 + 0) = nI sh) (h1 : pw.1 (p * 25 + 1) = nI s) (hA : ∀ c, c < 100 → k_EL_isInArea (nI sh) (nI og) (nI dd) (nI s) (nI c) = some (A c) ∧ (A c = 0 ∨ A c = 1)) (hv : v < 100) (hc : m.2 2 f = nI v) : k_EL_isMet (zpX P I R W j c q t fi o ei w pw rs K sv) (nI f) (nI p) (nI og) (nI dd) = some (A v) := by
  have hce : t.1 (f * 13 + 1) = nI v := ((hr.2.2.2 f hf).2.1).symm.trans hc
  have e0 : k_Ta_get 25 100 pw (nI p) 0 = some (nI sh) := by
    rw [← h0]
    exact pw_get hpw hp (c := 0) (by omega)
  have e1 : k_Ta_get 25 100 pw (nI p) 1 = some (nI s) := by
    rw [← h1]
    exact pw_get hpw hp (c := 1) (by omega)
  have e2 : k_Ta_get 13 104 t (nI f) 1 = some (nI v) := by
    rw [← hce]
    exact fi_get (q := 1) hr.2.1 hr.1 hf (by omega)
  unfold k_EL_isMet zpX k_Fi_at
  dsimp only
  rw [e0, Option.bind_some, e1, Option.bind_some, e2, Option.bind_some, Option.bind_some, (hA v hv).1, Option.bind_some, if_pos (hA v hv).2]
theorem mo_aff {p e f cu : Nat} {m : zsM} (hp : p < 4) (he : e < 4) (hf : f < 8) (hcu : cu < 8) : k_Mo_affects m (nI (25 * p + 3 + 5 * e)) (nI f) (nI cu) = if m.2 1 f = m.2 1 cu then k_Mo_affects_28 (nI (25 * p + 3 + 5 * e)) (nI f) (nI cu) (m.2 33 (25 * p + 3 + 5 * e)) 1 m else k_Mo_affects_28 (nI (25 * p + 3 + 5 * e)) (nI f) (nI cu) (m.2 33 (25 * p + 3 + 5 * e)) 0 m := by
  simp only [k_Mo_affects, if_neg (zo_in (show 25 * p + 3 + 5 * e < 100 by omega) (show 100 < 2 ^ 31 by omega)), if_neg (zo_in hf (show 8 < 2 ^ 31 by omega)), if_neg (zo_in hcu (show 8 < 2 ^ 31 by omega)), nI_clamp (show 25 * p + 3 + 5 * e < 2 ^ 31 by omega), nI_clamp (show f < 2 ^ 31 by omega), nI_clamp (show cu < 2 ^ 31 by omega)]
theorem r_spread_lp {F M p e og dd sh s cu : Nat} {P : zsP} {I R l2 l3 : Int32} {W : zsW} {o w pw : zsT} {q ei : Nat → Int32} {rs : Int32} {K : zsK} {sv : zsS} {m0 : zsM} {cf : Nat → Nat} (l1 : Int32) (kf : Int32 → Int32 → Int32 → zsM → Option (Int32 × zsM)) (hM : M ≤ F) (ho : zRO M o m0) (hpw : pw.2 = nI 4) (hp : p < 4) (he : e < 4) (hcu : cu < F) (h0 : pw.1 (p * 25 + 0) = nI sh) (h1 : pw.1 (p * 25 + 1) = nI s) (hA : ∀ c, c < 100 → k_EL_isInArea (nI sh) (nI og) (nI dd) (nI s) (nI c) = some (m0.2 39 c) ∧ (m0.2 39 c = 0 ∨ m0.2 39 c = 1)) (hcf : ∀ f, f < F → cf f < 100 ∧ m0.2 2 f = nI (cf f)) (hE : zEf (fun c => pw.1 (p * 25 + c)) e) (h33 : ∀ c, c < 25 → pw.1 (p * 25 + c) = m0.2 33 (25 * p + zmu c)) : ∀ (d i b fu fu' : Nat) (j c t : zsT) (fi : Nat → Int32) (m : zsM), i + d = F → d < fu → d < fu' → zRI b F j c t fi m → zFrF m0 m → b + 1000 + 385 * d < 2 ^ 27 → ∃ j' c' t' fi' m', k_EL_spread_87 (nI p) (nI e) (nI og) (nI dd) fu (nI cu) (nI (5 + 5 * e)) (pw.1 (p * 25 + (5 + 5 * e + 0))) (pw.1 (p * 25 + (5 + 5 * e + 1))) (zfl (pw.1 (p * 25 + (5 + 5 * e + 0))) (pw.1 (p * 25 + (5 + 5 * e + 1)))) (nI i) (zpX P I R W j c q t fi o ei w pw rs K sv) = some (zpX P I R W j' c' q t' fi' o ei w pw rs K sv) ∧ k_Mo_cast_281 l1 l2 l3 kf fu' (nI cu) (nI (25 * p)) (nI e) (nI i) m = kf (nI cu) (nI (25 * p)) (nI (e + 1)) m' ∧ zRI (b + 385 * d) F j' c' t' fi' m' ∧ zFrF m0 m' := by
  intro d
  induction d with
  | zero =>
    intro i b fu fu' j c t fi m hi hf1 hf2 hI hfr hb
    obtain ⟨fu, rfl, -⟩ := z_fuS hf1
    obtain ⟨fu', rfl, -⟩ := z_fuS hf2
    have hr := hI.2.2.1
    have hF := hr.1
    refine ⟨j, c, t, fi, m, ?_, ?_, hI, hfr⟩
    · simp only [k_EL_spread_87, zpX, k_Fi_size, k_Ta_used, Option.bind_some, hr.2.1]
      rw [if_neg (nI_nlt (by omega) (by omega))]
    · simp only [k_Mo_cast_281, hr.2.2.1]
      rw [if_neg (nI_nlt (by omega) (by omega)), nI_1]
  | succ d ih =>
    intro i b fu fu' j c t fi m hi hf1 hf2 hI hfr hb
    obtain ⟨fu, rfl, hf1'⟩ := z_fuS hf1
    obtain ⟨fu', rfl, hf2'⟩ := z_fuS hf2
    have hr := hI.2.2.1
    have hF := hr.1
    have hb1 : b + 1000 < 2 ^ 27 := Nat.lt_of_le_of_lt (Nat.le_add_right _ _) hb
    have hbd : b + 385 + 1000 + 385 * d < 2 ^ 27 := by
      rw [show b + 385 + 1000 + 385 * d = b + 1000 + 385 * (d + 1) by omega]
      exact hb
    have hi' : i < F := by omega
    have a39 : m.2 39 = m0.2 39 := hfr.2 39 (by decide) (by decide) (by decide) (by decide)
    have a33 : m.2 33 = m0.2 33 := hfr.2 33 (by decide) (by decide) (by decide) (by decide)
    have a2 : m.2 2 = m0.2 2 := hfr.2 2 (by decide) (by decide) (by decide) (by decide)
    have hoM : zRO M o m := zRO_cg ho (hfr.1 21 (by decide) (by decide) (by decide) (by decide)) (fun k _ => by rw [hfr.2 10 (by decide) (by decide) (by decide) (by decide)])
    obtain ⟨f, hf, t1, t2⟩ := r_inTurn (f3 := ((j, c, q), t, fi)) (ei := ei) hoM hF hM hr.2.2.1 hi'
    obtain ⟨v1, v2⟩ := hcf f hf
    obtain ⟨v, hv⟩ : ∃ v, v = cf f := ⟨_, rfl⟩
    rw [← hv] at v1 v2
    obtain ⟨L, hL⟩ : ∃ L, L = pw.1 (p * 25 + (5 + 5 * e + 0)) := ⟨_, rfl⟩
    obtain ⟨N, hN⟩ : ∃ N, N = pw.1 (p * 25 + (5 + 5 * e + 1)) := ⟨_, rfl⟩
    rw [← hL, ← hN]
    have hsame : ∀ b', b ≤ b' → zRI b' F j c t fi m := fun b' hb' => zRI_mono hI hb'
    have hmet := r_met (P := P) (I := I) (R := R) (W := W) (j := j) (c := c) (o := o) (w := w) (q := q) (fi := fi) (ei := ei) (rs := rs) (K := K) (sv := sv) hr hf hpw hp h0 h1 hA v1 (show m.2 2 f = nI v by rw [a2]; exact v2)
    have hfo : k_Fi_areFoes ((j, c, q), t, fi) (nI cu) (nI f) = some (if m.2 1 cu = m.2 1 f then 0 else 1) := fi_foes hr hcu hf
    have hnext : ∃ j' c' t' fi' m', k_EL_spread_87 (nI p) (nI e) (nI og) (nI dd) fu (nI cu) (nI (5 + 5 * e)) L N (zfl L N) (nI (i + 1)) (zpX P I R W j c q t fi o ei w pw rs K sv) = some (zpX P I R W j' c' q t' fi' o ei w pw rs K sv) ∧ k_Mo_cast_281 l1 l2 l3 kf fu' (nI cu) (nI (25 * p)) (nI e) (nI (i + 1)) m = kf (nI cu) (nI (25 * p)) (nI (e + 1)) m' ∧ zRI (b + 385 * (d + 1)) F j' c' t' fi' m' ∧ zFrF m0 m' := by
      obtain ⟨j', c', t', fi', m', g1, g2, g3, g4⟩ := ih (i + 1) (b + 385) fu fu' j c t fi m (by omega) (by omega) (by omega) (hsame _ (by omega)) hfr hbd
      rw [← hL, ← hN] at g1
      exact ⟨j', c', t', fi', m', g1, g2, zRI_mono g3 (by omega), g4⟩
    have hgo : ∀ (j2 c2 t2 : zsT) (fi2 : Nat → Int32) (m2 : zsM), zRI (b + 385) F j2 c2 t2 fi2 m2 → zFrF m m2 → ∃ j' c' t' fi' m', k_EL_spread_87 (nI p) (nI e) (nI og) (nI dd) fu (nI cu) (nI (5 + 5 * e)) L N (zfl L N) (nI (i + 1)) (zpX P I R W j2 c2 q t2 fi2 o ei w pw rs K sv) = some (zpX P I R W j' c' q t' fi' o ei w pw rs K sv) ∧ k_Mo_cast_281 l1 l2 l3 kf fu' (nI cu) (nI (25 * p)) (nI e) (nI (i + 1)) m2 = kf (nI cu) (nI (25 * p)) (nI (e + 1)) m' ∧ zRI (b + 385 * (d + 1)) F j' c' t' fi' m' ∧ zFrF m0 m' := fun j2 c2 t2 fi2 m2 w1 w2 => by
      obtain ⟨j', c', t', fi', m', g1, g2, g3, g4⟩ := ih (i + 1) (b + 385) fu fu' j2 c2 t2 fi2 m2 (by omega) (by omega) (by omega) w1 (zFrF_tr hfr w2) hbd
      rw [← hL, ← hN] at g1
      exact ⟨j', c', t', fi', m', g1, g2, zRI_mono g3 (by omega), g4⟩
    have hcls : k_EL_spread_87 (nI p) (nI e) (nI og) (nI dd) (fu + 1) (nI cu) (nI (5 + 5 * e)) L N (zfl L N) (nI i) (zpX P I R W j c q t fi o ei w pw rs K sv) = if (if m.2 1 cu = m.2 1 f then (0 : Int32) else 1) = zfl L N then k_EL_spread_87 (nI p) (nI e) (nI og) (nI dd) fu (nI cu) (nI (5 + 5 * e)) L N (zfl L N) (nI (i + 1)) (zpX P I R W j c q t fi o ei w pw rs K sv) else if m0.2 39 v = 0 then k_EL_spread_87 (nI p) (nI e) (nI og) (nI dd) fu (nI cu) (nI (5 + 5 * e)) L N (zfl L N) (nI (i + 1)) (zpX P I R W j c q t fi o ei w pw rs K sv) else if L = 104 then (k_Fi_hurt ((j, c, q), t, fi) (nI f) N).bind fun o21 => k_EL_spread_87 (nI p) (nI e) (nI og) (nI dd) fu (nI cu) (nI (5 + 5 * e)) L N (zfl L N) (nI (i + 1)) (P, I, R, W, ((o21.2, o, ei), w, pw, rs), K, sv) else if L = 109 then (k_Fi_mend ((j, c, q), t, fi) (nI f) N).bind fun o20 => k_EL_spread_87 (nI p) (nI e) (nI og) (nI dd) fu (nI cu) (nI (5 + 5 * e)) L N (zfl L N) (nI (i + 1)) (P, I, R, W, ((o20.2, o, ei), w, pw, rs), K, sv) else if m.2 4 f = 0 then k_EL_spread_87 (nI p) (nI e) (nI og) (nI dd) fu (nI cu) (nI (5 + 5 * e)) L N (zfl L N) (nI (i + 1)) (zpX P I R W j c q t fi o ei w pw rs K sv) else (k_Co_make (j, c, q) N (nI f) (nI cu) (pw.1 (p * 25 + (5 + 5 * e + 2))) (pw.1 (p * 25 + (5 + 5 * e + 3))) (pw.1 (p * 25 + (5 + 5 * e + 4)))).bind fun o19 => k_EL_spread_87 (nI p) (nI e) (nI og) (nI dd) fu (nI cu) (nI (5 + 5 * e)) L N (zfl L N) (nI (i + 1)) (P, I, R, W, (((o19, t, fi), o, ei), w, pw, rs), K, sv) := by
      have z2 : k_Ta_get 25 100 pw (nI p) (nI (5 + 5 * e) + 2) = some (pw.1 (p * 25 + (5 + 5 * e + 2))) := by
        rw [show nI (5 + 5 * e) + (2 : Int32) = nI (5 + 5 * e + 2) from nI_add _ 2]
        exact pw_get hpw hp (by omega)
      have z3 : k_Ta_get 25 100 pw (nI p) (nI (5 + 5 * e) + 3) = some (pw.1 (p * 25 + (5 + 5 * e + 3))) := by
        rw [show nI (5 + 5 * e) + (3 : Int32) = nI (5 + 5 * e + 3) from nI_add _ 3]
        exact pw_get hpw hp (by omega)
      have z4 : k_Ta_get 25 100 pw (nI p) (nI (5 + 5 * e) + 4) = some (pw.1 (p * 25 + (5 + 5 * e + 4))) := by
        rw [show nI (5 + 5 * e) + (4 : Int32) = nI (5 + 5 * e + 4) from nI_add _ 4]
        exact pw_get hpw hp (by omega)
      have hd : k_Fi_isDown ((j, c, q), t, fi) (nI f) = some (if m.2 4 f = 0 then 1 else 0) := fi_isDown hr hf
      have hlt : nI i < nI F := nI_lt hi' (by omega)
      have hmet' := hmet
      simp only [zpX] at hmet'
      simp only [k_EL_spread_87, zpX, k_Fi_size, k_Ta_used, Option.bind_some, hr.2.1, if_pos hlt, t1, hfo, hd, z2, z3, z4, nI_1, hmet']
      by_cases hdn : m.2 4 f = 0
      · simp only [if_pos hdn, if_neg (show ¬ (1 : Int32) = 0 by decide)]
      · simp only [if_neg hdn, ↓reduceIte]
    have hmo : k_Mo_cast_281 l1 l2 l3 kf (fu' + 1) (nI cu) (nI (25 * p)) (nI e) (nI i) m = if m0.2 39 v = 0 then k_Mo_cast_281 l1 l2 l3 kf fu' (nI cu) (nI (25 * p)) (nI e) (nI (i + 1)) m else (k_Mo_affects m (nI (25 * p + 3 + 5 * e)) (nI f) (nI cu)).bind fun o26 => k_Mo_cast_281 l1 l2 l3 kf fu' (nI cu) (nI (25 * p)) (nI e) (nI (i + 1)) o26 := by
      have hlt : nI i < nI F := nI_lt hi' (by omega)
      simp only [k_Mo_cast_281, hr.2.2.1, if_pos hlt, t2, Option.bind_some, if_neg (zo_in (show f < 8 by omega) (show 8 < 2 ^ 31 by omega)), nI_clamp (show f < 2 ^ 31 by omega), a2, v2, if_neg (zo_in v1 (show 100 < 2 ^ 31 by omega)), nI_clamp (show v < 2 ^ 31 by omega), a39, nI_1]
      rw [show nI (25 * p) + (3 : Int32) + (5 : Int32) * nI e = nI (25 * p + 3 + 5 * e) from by rw [show nI (25 * p) + (3 : Int32) = nI (25 * p + 3) from nI_add _ 3, show (5 : Int32) * nI e = nI (5 * e) from pk_mul 5 e, nI_add]]
    rw [hcls, hmo]
    by_cases hv0 : m0.2 39 v = 0
    · rw [if_pos hv0, if_pos hv0, ite_self]
      exact hnext
    rw [if_neg hv0, if_neg hv0, mo_aff hp he (by omega) (by omega), a33]
    have b0 : m0.2 33 (25 * p + 3 + 5 * e) = L := by
      rw [hL, h33 _ (by omega), zmu_e, show 25 * p + (3 + 5 * e + 0) = 25 * p + 3 + 5 * e by omega]
    have b1 : m.2 33 (25 * p + 3 + 5 * e + 1) = N := by
      rw [hN, a33, h33 _ (by omega), zmu_e, show 25 * p + (3 + 5 * e + 1) = 25 * p + 3 + 5 * e + 1 by omega]
    have y1 : nI (25 * p + 3 + 5 * e) + (1 : Int32) = nI (25 * p + 3 + 5 * e + 1) := nI_1 _
    have yz1 : ¬ zOut (nI (25 * p + 3 + 5 * e + 1)) 100 := zo_in (by omega) (by omega)
    have yc1 : (nI (25 * p + 3 + 5 * e + 1)).toNatClampNeg = 25 * p + 3 + 5 * e + 1 := nI_clamp (by omega)
    rw [b0]
    rcases hE with ⟨hl, n, n1, n2⟩ | ⟨hl, kd, vl, en, ct, k1, k2, k3, k4, k5, k6, k7, k8, k9⟩
    · dsimp only at hl n2
      rw [← hL] at hl
      rw [← hN] at n2
      rcases hl with hl | hl
      · have hz : zfl L N = 0 := by
          unfold zfl
          rw [hl]
          rfl
        rw [hz, if_pos hl]
        by_cases hs : m.2 1 cu = m.2 1 f
        · rw [if_pos hs, if_pos rfl, if_pos hs.symm]
          unfold k_Mo_affects_28
          rw [if_pos hl, if_neg (show ¬ (1 : Int32) = 0 by decide), Option.bind_some, ← hz]
          exact hnext
        · rw [if_neg hs, if_neg (show ¬ (1 : Int32) = 0 by decide), if_neg (show ¬ m.2 1 f = m.2 1 cu from fun e => hs e.symm)]
          unfold k_Mo_affects_28
          rw [if_pos hl, if_pos rfl, y1, if_neg yz1, yc1, b1]
          obtain ⟨u, j2, c2, t2', fi2, m2, g1, g2, g3, g4⟩ := r_hurt (p := q) N hI hb1 hf
          rw [g1, g2, Option.bind_some, Option.bind_some, Option.bind_some, ← hz]
          exact hgo j2 c2 t2' fi2 m2 g3 g4
      · have hz : zfl L N = 1 := by
          unfold zfl
          rw [hl]
          rfl
        have hl4 : ¬ L = 104 := by rw [hl]; decide
        rw [hz, if_neg hl4, if_pos hl]
        by_cases hs : m.2 1 cu = m.2 1 f
        · rw [if_pos hs, if_neg (show ¬ (0 : Int32) = 1 by decide), if_pos hs.symm]
          unfold k_Mo_affects_28
          rw [if_neg hl4, if_pos hl, if_neg (show ¬ (1 : Int32) = 0 by decide), y1, if_neg yz1, yc1, b1, n2]
          obtain ⟨u, j2, t2', fi2, m2, g1, g2, g3, g4⟩ := r_heal (p := q) (n := n) hI hb1 hf (by omega)
          rw [g1, g2, Option.bind_some, Option.bind_some, Option.bind_some, ← n2, ← hz]
          exact hgo j2 c t2' fi2 m2 (zRI_mono g3 (by omega)) g4
        · rw [if_neg hs, if_pos rfl, if_neg (show ¬ m.2 1 f = m.2 1 cu from fun e => hs e.symm)]
          unfold k_Mo_affects_28
          rw [if_neg hl4, if_pos hl, if_pos rfl, Option.bind_some, ← hz]
          exact hnext
    · dsimp only at hl k6 k7 k8 k9
      rw [← hL] at hl
      rw [← hN] at k6
      have hl4 : ¬ L = 104 := by rw [hl]; decide
      have hl9 : ¬ L = 109 := by rw [hl]; decide
      have b2 : m.2 33 (25 * p + 3 + 5 * e + 2) = nI vl := by
        rw [← k7, a33, h33 _ (by omega), zmu_e, show 25 * p + (3 + 5 * e + 2) = 25 * p + 3 + 5 * e + 2 by omega]
      have b3 : m.2 33 (25 * p + 3 + 5 * e + 3) = nI en := by
        rw [← k8, a33, h33 _ (by omega), zmu_e, show 25 * p + (3 + 5 * e + 3) = 25 * p + 3 + 5 * e + 3 by omega]
      have b4 : m.2 33 (25 * p + 3 + 5 * e + 4) = nI ct := by
        rw [← k9, a33, h33 _ (by omega), zmu_e, show 25 * p + (3 + 5 * e + 4) = 25 * p + 3 + 5 * e + 4 by omega]
      have hz : zfl L N = if N = 2 then 1 else if N = 3 then 1 else 0 := by
        unfold zfl
        rw [if_neg hl9, if_pos hl]
      have hz01 : zfl L N = 0 ∨ zfl L N = 1 := by
        rw [hz]
        split
        · exact Or.inr rfl
        · split
          · exact Or.inr rfl
          · exact Or.inl rfl
      have haf : ∀ so : Int32, k_Mo_affects_28 (nI (25 * p + 3 + 5 * e)) (nI f) (nI cu) L so m = if m.2 4 f = 0 then some m else if so = zfl L N then (k_Mo_makes m N (nI f) (nI cu) (nI vl) (nI en) (nI ct)).bind (fun o8 => some o8) else some m := fun so => by
        have x128 : ∀ fl : Int32, k_Mo_affects_128 (nI (25 * p + 3 + 5 * e)) (nI f) (nI cu) fl so m = if so = fl then (k_Mo_makes m N (nI f) (nI cu) (nI vl) (nI en) (nI ct)).bind (fun o8 => some o8) else some m := fun fl => by
          have w2 : nI (25 * p + 3 + 5 * e) + (2 : Int32) = nI (25 * p + 3 + 5 * e + 2) := nI_add _ 2
          have w3 : nI (25 * p + 3 + 5 * e) + (3 : Int32) = nI (25 * p + 3 + 5 * e + 3) := nI_add _ 3
          have w4 : nI (25 * p + 3 + 5 * e) + (4 : Int32) = nI (25 * p + 3 + 5 * e + 4) := nI_add _ 4
          simp only [k_Mo_affects_128, y1, w2, w3, w4, if_neg yz1, yc1, if_neg (zo_in (show 25 * p + 3 + 5 * e + 2 < 100 by omega) (show 100 < 2 ^ 31 by omega)), if_neg (zo_in (show 25 * p + 3 + 5 * e + 3 < 100 by omega) (show 100 < 2 ^ 31 by omega)), if_neg (zo_in (show 25 * p + 3 + 5 * e + 4 < 100 by omega) (show 100 < 2 ^ 31 by omega)), nI_clamp (show 25 * p + 3 + 5 * e + 2 < 2 ^ 31 by omega), nI_clamp (show 25 * p + 3 + 5 * e + 3 < 2 ^ 31 by omega), nI_clamp (show 25 * p + 3 + 5 * e + 4 < 2 ^ 31 by omega), b1, b2, b3, b4]
        unfold k_Mo_affects_28
        rw [if_neg hl4, if_neg hl9, mo_isDown (by omega), Option.bind_some, x128, x128, y1, if_neg yz1, if_neg yz1, yc1, b1, hz]
        by_cases hd : m.2 4 f = 0
        · rw [if_pos hd, if_pos hd, if_neg (show ¬ (1 : Int32) = 0 by decide)]
        · rw [if_neg hd, if_neg hd, if_pos rfl]
          by_cases c2 : N = 2
          · rw [if_pos c2, if_pos c2]
          · rw [if_neg c2, if_neg c2]
            by_cases c3 : N = 3
            · rw [if_pos c3, if_pos c3]
            · rw [if_neg c3, if_neg c3]
      have hafi : (if m.2 1 f = m.2 1 cu then k_Mo_affects_28 (nI (25 * p + 3 + 5 * e)) (nI f) (nI cu) L 1 m else k_Mo_affects_28 (nI (25 * p + 3 + 5 * e)) (nI f) (nI cu) L 0 m) = k_Mo_affects_28 (nI (25 * p + 3 + 5 * e)) (nI f) (nI cu) L (if m.2 1 cu = m.2 1 f then 1 else 0) m := by
        by_cases hs : m.2 1 cu = m.2 1 f
        · rw [if_pos hs.symm, if_pos hs]
        · rw [if_neg (show ¬ m.2 1 f = m.2 1 cu from fun e => hs e.symm), if_neg hs]
      rw [hafi, haf, if_neg hl4, if_neg hl9]
      by_cases hd : m.2 4 f = 0
      · rw [if_pos hd, if_pos hd, ite_self, Option.bind_some]
        exact hnext
      rw [if_neg hd, if_neg hd]
      have hfl : ((if m.2 1 cu = m.2 1 f then (0 : Int32) else 1) = zfl L N) ↔ ¬ ((if m.2 1 cu = m.2 1 f then (1 : Int32) else 0) = zfl L N) := by
        by_cases hs : m.2 1 cu = m.2 1 f
        · rw [if_pos hs, if_pos hs]
          rcases hz01 with z | z <;> rw [z] <;> decide
        · rw [if_neg hs, if_neg hs]
          rcases hz01 with z | z <;> rw [z] <;> decide
      by_cases hgo1 : (if m.2 1 cu = m.2 1 f then (1 : Int32) else 0) = zfl L N
      · rw [if_pos hgo1, if_neg (fun e => hfl.1 e hgo1)]
        obtain ⟨j2, c2, m2, g1, g2, g3, g4, g5⟩ := r_make (p := q) hI.1 (by omega) hI.2.1 k1 hf hcu k2 k3 k5 k4
        rw [k6, k7, k8, k9, g1, g2, Option.bind_some, Option.bind_some, Option.bind_some, ← k6]
        exact hgo j2 c2 t fi m2 (zRI_mono (zRI_c hI g4 g5 g3) (by omega)) (zFrF_c g3)
      · rw [if_neg hgo1, if_pos (hfl.2 hgo1), Option.bind_some]
        exact hnext
