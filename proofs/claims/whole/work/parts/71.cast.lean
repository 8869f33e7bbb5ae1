theorem r_spread1 {p e og dd cu : Nat} {P : zsP} {I R : Int32} {W : zsW} {j c t o w pw : zsT} {q fi ei : Nat → Int32} {rs : Int32} {K : zsK} {sv : zsS} (hpw : pw.2 = nI 4) (hp : p < 4) (he : e < 4) (hcur : ∀ f3, k_En_current (f3, o, ei) = some (nI cu)) : k_EL_spread (zpX P I R W j c q t fi o ei w pw rs K sv) (nI p) (nI e) (nI og) (nI dd) = k_EL_spread_87 (nI p) (nI e) (nI og) (nI dd) zFu (nI cu) (nI (5 + 5 * e)) (pw.1 (p * 25 + (5 + 5 * e + 0))) (pw.1 (p * 25 + (5 + 5 * e + 1))) (zfl (pw.1 (p * 25 + (5 + 5 * e + 0))) (pw.1 (p * 25 + (5 + 5 * e + 1)))) 0 (zpX P I R W j c q t fi o ei w pw rs K sv) := by
  have z0 : (5 : Int32) + nI e * (5 : Int32) = nI (5 + 5 * e) := by rw [show (5 : Int32) = nI 5 from rfl, pk_mul, nI_add, Nat.mul_comm e 5]
  have g0 : k_Ta_get 25 100 pw (nI p) (nI (5 + 5 * e)) = some (pw.1 (p * 25 + (5 + 5 * e + 0))) := pw_get hpw hp (by omega)
  have g1 : k_Ta_get 25 100 pw (nI p) (nI (5 + 5 * e) + 1) = some (pw.1 (p * 25 + (5 + 5 * e + 1))) := by
    rw [nI_1]
    exact pw_get hpw hp (by omega)
  unfold k_EL_spread
  rw [z0]
  simp only [zpX, hcur, g0, g1, Option.bind_some, zfl]
  by_cases h9 : pw.1 (p * 25 + (5 + 5 * e + 0)) = 109
  · simp only [if_pos h9]
  · simp only [if_neg h9]
    by_cases h7 : pw.1 (p * 25 + (5 + 5 * e + 0)) = 107
    · simp only [if_pos h7]
      by_cases n2 : pw.1 (p * 25 + (5 + 5 * e + 1)) = 2
      · simp only [if_pos n2]
      · simp only [if_neg n2]
        by_cases n3 : pw.1 (p * 25 + (5 + 5 * e + 1)) = 3
        · simp only [if_pos n3]
        · simp only [if_neg n3]
    · simp only [if_neg h7]
theorem r_effs_lp {F M p E og dd sh s cu : Nat} {P : zsP} {I R l2 l3 met : Int32} {W : zsW} {o w pw : zsT} {q ei : Nat → Int32} {rs : Int32} {K : zsK} {sv : zsS} {m0 : zsM} {cf : Nat → Nat} (l1 : Int32) (hM : M ≤ F) (ho : zRO M o m0) (hpw : pw.2 = nI 4) (hp : p < 4) (hE4 : E ≤ 4) (hcu : cu < F) (hF8 : F ≤ 8) (hcur : ∀ f3, k_En_current (f3, o, ei) = some (nI cu)) (h0 : pw.1 (p * 25 + 0) = nI sh) (h1 : pw.1 (p * 25 + 1) = nI s) (h2 : pw.1 (p * 25 + 2) = nI E) (hA : ∀ c, c < 100 → k_EL_isInArea (nI sh) (nI og) (nI dd) (nI s) (nI c) = some (m0.2 39 c) ∧ (m0.2 39 c = 0 ∨ m0.2 39 c = 1)) (hcf : ∀ f, f < F → cf f < 100 ∧ m0.2 2 f = nI (cf f)) (hE : ∀ e, e < E → zEf (fun c => pw.1 (p * 25 + c)) e) (h33 : ∀ c, c < 25 → pw.1 (p * 25 + c) = m0.2 33 (25 * p + zmu c)) : ∀ (d e b fu fu' : Nat) (j c t : zsT) (fi : Nat → Int32) (m : zsM), e + d = E → d < fu → d < fu' → zRI b F j c t fi m → zFrF m0 m → b + 1000 + 3080 * d < 2 ^ 27 → ∃ j' c' t' fi' m', k_EL_cast_196 (nI p) l2 (nI dd) fu (nI og) met (nI E) (nI e) (zpX P I R W j c q t fi o ei w pw rs K sv) = some (met, zpX P I R W j' c' q t' fi' o ei w pw rs K sv) ∧ k_Mo_cast_264 l1 l2 l3 fu' (nI cu) (nI (25 * p)) (nI e) m = k_Mo_cast_348 l1 l2 l3 zFu 0 0 m' ∧ zRI (b + 3080 * d) F j' c' t' fi' m' ∧ zFrF m0 m' := by
  intro d
  induction d with
  | zero =>
    intro e b fu fu' j c t fi m he hf1 hf2 hI hfr hb
    obtain ⟨fu, rfl, -⟩ := z_fuS hf1
    obtain ⟨fu', rfl, -⟩ := z_fuS hf2
    have a33 : m.2 33 (25 * p + 2) = nI E := by
      rw [hfr.2 33 (by decide) (by decide) (by decide) (by decide), ← h2]
      exact (h33 2 (by omega)).symm
    refine ⟨j, c, t, fi, m, ?_, ?_, hI, hfr⟩
    · simp only [k_EL_cast_196]
      rw [if_neg (nI_nlt (by omega) (by omega))]
    · simp only [k_Mo_cast_264, show nI (25 * p) + (2 : Int32) = nI (25 * p + 2) from nI_add _ 2, if_neg (zo_in (show 25 * p + 2 < 100 by omega) (show 100 < 2 ^ 31 by omega)), nI_clamp (show 25 * p + 2 < 2 ^ 31 by omega), a33]
      rw [if_neg (nI_nlt (by omega) (by omega))]
  | succ d ih =>
    intro e b fu fu' j c t fi m he hf1 hf2 hI hfr hb
    obtain ⟨fu, rfl, hf1'⟩ := z_fuS hf1
    obtain ⟨fu', rfl, hf2'⟩ := z_fuS hf2
    have a33 : m.2 33 (25 * p + 2) = nI E := by
      rw [hfr.2 33 (by decide) (by decide) (by decide) (by decide), ← h2]
      exact (h33 2 (by omega)).symm
    have hlt : nI e < nI E := nI_lt (by omega) (by omega)
    obtain ⟨j2, c2, t2, fi2, m2, g1, g2, g3, g4⟩ := r_spread_lp (P := P) (I := I) (R := R) (l2 := l2) (l3 := l3) (W := W) (w := w) (q := q) (ei := ei) (rs := rs) (K := K) (sv := sv) l1 (k_Mo_cast_264 l1 l2 l3 fu') hM ho hpw hp (show e < 4 by omega) hcu h0 h1 hA hcf (hE e (by omega)) h33 F 0 b zFu zFu j c t fi m (by omega) (z_fu (by omega)) (z_fu (by omega)) hI hfr (by omega)
    obtain ⟨j', c', t', fi', m', k1, k2, k3, k4⟩ := ih (e + 1) (b + 3080) fu fu' j2 c2 t2 fi2 m2 (by omega) (by omega) (by omega) (zRI_mono g3 (by omega)) g4 (by omega)
    refine ⟨j', c', t', fi', m', ?_, ?_, zRI_mono k3 (by omega), k4⟩
    · rw [← k1]
      simp only [k_EL_cast_196]
      rw [if_pos hlt, r_spread1 hpw hp (by omega) hcur, show k_EL_spread_87 (nI p) (nI e) (nI og) (nI dd) zFu (nI cu) (nI (5 + 5 * e)) _ _ _ 0 _ = _ from g1, Option.bind_some, nI_1]
    · rw [← k2, ← g2]
      simp only [k_Mo_cast_264, show nI (25 * p) + (2 : Int32) = nI (25 * p + 2) from nI_add _ 2, if_neg (zo_in (show 25 * p + 2 < 100 by omega) (show 100 < 2 ^ 31 by omega)), nI_clamp (show 25 * p + 2 < 2 ^ 31 by omega), a33]
      rw [if_pos hlt]
      rfl
theorem r_cnt_c {F p og dd sh s : Nat} {P : zsP} {I R : Int32} {W : zsW} {j c t o w pw : zsT} {q fi ei : Nat → Int32} {rs : Int32} {K : zsK} {sv : zsS} {m : zsM} {A : Nat → Int32} {cf : Nat → Nat} (hr : zRF F t m) (hpw : pw.2 = nI 4) (hp : p < 4) (h0 : pw.1 (p * 25 + 0) = nI sh) (h1 : pw.1 (p * 25 + 1) = nI s) (hA : ∀ c, c < 100 → k_EL_isInArea (nI sh) (nI og) (nI dd) (nI s) (nI c) = some (A c) ∧ (A c = 0 ∨ A c = 1)) (hcf : ∀ f, f < F → cf f < 100 ∧ m.2 2 f = nI (cf f)) : ∀ (d i fu : Nat), i + d = F → d < fu → k_EL_countMet_6 (zpX P I R W j c q t fi o ei w pw rs K sv) (nI p) (nI og) (nI dd) fu (nI (zct (fun f => A (cf f)) i)) (nI i) = some (nI (zct (fun f => A (cf f)) F)) := by
  have hF := hr.1
  intro d
  induction d with
  | zero =>
    intro i fu hi hf1
    obtain ⟨fu, rfl, -⟩ := z_fuS hf1
    have : i = F := by omega
    subst this
    simp only [k_EL_countMet_6, zpX, k_Fi_size, k_Ta_used, Option.bind_some, hr.2.1]
    rw [if_neg (nI_nlt (by omega) (by omega))]
  | succ d ih =>
    intro i fu hi hf1
    obtain ⟨fu, rfl, hf1'⟩ := z_fuS hf1
    have hlt : nI i < nI F := nI_lt (by omega) (by omega)
    obtain ⟨v1, v2⟩ := hcf i (by omega)
    have hmet := r_met (P := P) (I := I) (R := R) (W := W) (j := j) (c := c) (o := o) (w := w) (q := q) (fi := fi) (ei := ei) (rs := rs) (K := K) (sv := sv) hr (show i < F by omega) hpw hp h0 h1 hA v1 v2
    have hn := ih (i + 1) fu (by omega) (by omega)
    rw [← hn]
    have hz : zct (fun f => A (cf f)) (i + 1) = zct (fun f => A (cf f)) i + (if A (cf i) = 0 then 0 else 1) := rfl
    rw [hz]
    have hsz : k_Fi_size (zpX P I R W j c q t fi o ei w pw rs K sv).2.2.2.2.1.1.1 = some (nI F) := by
      simp only [zpX, k_Fi_size, k_Ta_used, Option.bind_some, hr.2.1]
    simp only [k_EL_countMet_6]
    rw [hsz, Option.bind_some, if_pos hlt, hmet, Option.bind_some, nI_1]
    by_cases ha : A (cf i) = 0
    · rw [if_pos ha, if_pos ha]
      rfl
    · rw [if_neg ha, if_neg ha, nI_1]
theorem r_cnt_m {F : Nat} {t : zsT} {m : zsM} {cf : Nat → Nat} (l1 l2 l3 : Int32) (hr : zRF F t m) (hcf : ∀ f, f < F → cf f < 100 ∧ m.2 2 f = nI (cf f)) : ∀ (d i fu : Nat), i + d = F → d < fu → k_Mo_cast_348 l1 l2 l3 fu (nI (zct (fun f => m.2 39 (cf f)) i)) (nI i) m = some (nI (zct (fun f => m.2 39 (cf f)) F), m) := by
  have hF := hr.1
  intro d
  induction d with
  | zero =>
    intro i fu hi hf1
    obtain ⟨fu, rfl, -⟩ := z_fuS hf1
    have : i = F := by omega
    subst this
    simp only [k_Mo_cast_348, hr.2.2.1]
    rw [if_neg (nI_nlt (by omega) (by omega))]
  | succ d ih =>
    intro i fu hi hf1
    obtain ⟨fu, rfl, hf1'⟩ := z_fuS hf1
    have hlt : nI i < nI F := nI_lt (by omega) (by omega)
    obtain ⟨v1, v2⟩ := hcf i (by omega)
    have hn := ih (i + 1) fu (by omega) (by omega)
    rw [← hn]
    have hz : zct (fun f => m.2 39 (cf f)) (i + 1) = zct (fun f => m.2 39 (cf f)) i + (if m.2 39 (cf i) = 0 then 0 else 1) := rfl
    rw [hz]
    simp only [k_Mo_cast_348, hr.2.2.1, if_pos hlt, if_neg (zo_in (show i < 8 by omega) (show 8 < 2 ^ 31 by omega)), nI_clamp (show i < 2 ^ 31 by omega), v2, if_neg (zo_in v1 (show 100 < 2 ^ 31 by omega)), nI_clamp (show cf i < 2 ^ 31 by omega), nI_1]
    by_cases ha : m.2 39 (cf i) = 0
    · rw [if_pos ha, if_pos ha, show nI (zct (fun f => m.2 39 (cf f)) i) + (0 : Int32) = nI (zct (fun f => m.2 39 (cf f)) i) from Int32.add_zero _]
      rfl
    · rw [if_neg ha, if_neg ha]
theorem zst4_g0 : ∀ b0 b1 b2 b3 : Bool, ((zst4 b0 b1 b2 b3 >>> (nI 0 &&& 31)) &&& 1) = (if b0 then 1 else 0) := by decide
theorem zst4_g1 : ∀ b0 b1 b2 b3 : Bool, ((zst4 b0 b1 b2 b3 >>> (nI 1 &&& 31)) &&& 1) = (if b1 then 1 else 0) := by decide
theorem zst4_g2 : ∀ b0 b1 b2 b3 : Bool, ((zst4 b0 b1 b2 b3 >>> (nI 2 &&& 31)) &&& 1) = (if b2 then 1 else 0) := by decide
theorem zst4_g3 : ∀ b0 b1 b2 b3 : Bool, ((zst4 b0 b1 b2 b3 >>> (nI 3 &&& 31)) &&& 1) = (if b3 then 1 else 0) := by decide
theorem zst_get (b : Nat → Bool) (p : Nat) (hp : p < 4) : ((zst b >>> (nI p &&& 31)) &&& 1) = (if b p then 1 else 0) := by
  have hp4 : p = 0 ∨ p = 1 ∨ p = 2 ∨ p = 3 := by omega
  rcases hp4 with rfl | rfl | rfl | rfl
  · exact zst4_g0 (b 0) (b 1) (b 2) (b 3)
  · exact zst4_g1 (b 0) (b 1) (b 2) (b 3)
  · exact zst4_g2 (b 0) (b 1) (b 2) (b 3)
  · exact zst4_g3 (b 0) (b 1) (b 2) (b 3)
