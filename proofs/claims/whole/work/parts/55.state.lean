def zin (i : Nat) : Prop := i = 11 ∨ i = 16 ∨ i = 14 ∨ i = 19 ∨ i = 20 ∨ i = 21 ∨ i = 22 ∨ i = 23 ∨ i = 24 ∨ i = 25 ∨ i = 17 ∨ i = 18 ∨ i = 26 ∨ i = 27 ∨ i = 28 ∨ i = 29 ∨ i = 38
def zan (a k : Nat) : Prop := a = 0 ∧ k < 100 ∨ a = 1 ∧ k < 8 ∨ a = 2 ∧ k < 8 ∨ a = 3 ∧ k < 8 ∨ a = 4 ∧ k < 8 ∨ a = 5 ∧ k < 8 ∨ a = 6 ∧ k < 8 ∨ a = 7 ∧ k < 8 ∨ a = 8 ∧ k < 24 ∨ a = 9 ∧ k < 24 ∨ a = 10 ∧ k < 8 ∨ a = 15 ∧ k < 384 ∨ a = 13 ∧ k < 300 ∨ a = 33 ∧ k < 100
def zAg (m m' : zsM) : Prop := (∀ i, zin i → m'.1 i = m.1 i) ∧ ∀ a k, zan a k → m'.2 a k = m.2 a k
def zix (i : Nat) : Nat := if i = 11 then 996 else if i = 16 then 997 else if i = 14 then 998 else if i = 19 then 999 else if i = 20 then 1000 else if i = 21 then 1001 else if i = 22 then 1002 else if i = 23 then 1003 else if i = 24 then 1004 else if i = 25 then 1005 else if i = 17 then 1006 else if i = 18 then 1007 else if i = 26 then 1008 else if i = 27 then 1009 else if i = 28 then 1010 else if i = 29 then 1011 else 1012
def zax (a : Nat) : Nat := if a = 0 then 0 else if a = 1 then 100 else if a = 2 then 108 else if a = 3 then 116 else if a = 4 then 124 else if a = 5 then 132 else if a = 6 then 140 else if a = 7 then 148 else if a = 8 then 156 else if a = 9 then 180 else if a = 10 then 204 else if a = 15 then 212 else if a = 13 then 596 else 896
def zUn (row : Nat → Int32) (off : Nat) : zsM := (fun i => row (off + zix i), fun a k => row (off + (zax a + k)))
theorem zix_lt {i : Nat} (h : zin i) : zix i < 1013 := by
  rcases h with rfl | rfl | rfl | rfl | rfl | rfl | rfl | rfl | rfl | rfl | rfl | rfl | rfl | rfl | rfl | rfl | rfl <;> decide
theorem zax_lt {a k : Nat} (h : zan a k) : zax a + k < 1013 := by
  rcases h with ⟨rfl, h⟩ | ⟨rfl, h⟩ | ⟨rfl, h⟩ | ⟨rfl, h⟩ | ⟨rfl, h⟩ | ⟨rfl, h⟩ | ⟨rfl, h⟩ | ⟨rfl, h⟩ | ⟨rfl, h⟩ | ⟨rfl, h⟩ | ⟨rfl, h⟩ | ⟨rfl, h⟩ | ⟨rfl, h⟩ | ⟨rfl, h⟩
  · show 0 + k < 1013
    omega
  · show 100 + k < 1013
    omega
  · show 108 + k < 1013
    omega
  · show 116 + k < 1013
    omega
  · show 124 + k < 1013
    omega
  · show 132 + k < 1013
    omega
  · show 140 + k < 1013
    omega
  · show 148 + k < 1013
    omega
  · show 156 + k < 1013
    omega
  · show 180 + k < 1013
    omega
  · show 204 + k < 1013
    omega
  · show 212 + k < 1013
    omega
  · show 596 + k < 1013
    omega
  · show 896 + k < 1013
    omega
theorem zUn_cg {row row' : Nat → Int32} {off off' : Nat} (h : ∀ p, p < 1013 → row' (off' + p) = row (off + p)) : zAg (zUn row off) (zUn row' off') := ⟨fun i hi => h _ (zix_lt hi), fun a k hk => h _ (zax_lt hk)⟩
theorem zUn_kp (x : zsM) (row : Nat → Int32) (off : Nat) : zAg x (zUn (va_cpy (zWf x) row 0 off 1013) off) := by
  refine ⟨fun i hi => ?_, fun a k hk => ?_⟩
  · have hlt := zix_lt hi
    show va_cpy (zWf x) row 0 off 1013 (off + zix i) = _
    rw [pk_cpy_in (by omega) (by omega), show 0 + (off + zix i - off) = zix i by omega]
    rcases hi with rfl | rfl | rfl | rfl | rfl | rfl | rfl | rfl | rfl | rfl | rfl | rfl | rfl | rfl | rfl | rfl | rfl
    · exact zWf_i11 x
    · exact zWf_i16 x
    · exact zWf_i14 x
    · exact zWf_i19 x
    · exact zWf_i20 x
    · exact zWf_i21 x
    · exact zWf_i22 x
    · exact zWf_i23 x
    · exact zWf_i24 x
    · exact zWf_i25 x
    · exact zWf_i17 x
    · exact zWf_i18 x
    · exact zWf_i26 x
    · exact zWf_i27 x
    · exact zWf_i28 x
    · exact zWf_i29 x
    · exact zWf_i38 x
  · have hlt := zax_lt hk
    show va_cpy (zWf x) row 0 off 1013 (off + (zax a + k)) = _
    rw [pk_cpy_in (by omega) (by omega), show 0 + (off + (zax a + k) - off) = zax a + k by omega]
    rcases hk with ⟨rfl, h⟩ | ⟨rfl, h⟩ | ⟨rfl, h⟩ | ⟨rfl, h⟩ | ⟨rfl, h⟩ | ⟨rfl, h⟩ | ⟨rfl, h⟩ | ⟨rfl, h⟩ | ⟨rfl, h⟩ | ⟨rfl, h⟩ | ⟨rfl, h⟩ | ⟨rfl, h⟩ | ⟨rfl, h⟩ | ⟨rfl, h⟩
    · exact zWf_a0 x k h
    · exact zWf_a1 x k h
    · exact zWf_a2 x k h
    · exact zWf_a3 x k h
    · exact zWf_a4 x k h
    · exact zWf_a5 x k h
    · exact zWf_a6 x k h
    · exact zWf_a7 x k h
    · exact zWf_a8 x k h
    · exact zWf_a9 x k h
    · exact zWf_a10 x k h
    · exact zWf_a15 x k h
    · exact zWf_a13 x k h
    · exact zWf_a33 x k h
theorem zAg_tr {m m' m'' : zsM} (h : zAg m m') (h' : zAg m' m'') : zAg m m'' := ⟨fun i hi => (h'.1 i hi).trans (h.1 i hi), fun a k hk => (h'.2 a k hk).trans (h.2 a k hk)⟩
theorem pa_rs_e (x : zsM) (off : Nat) (ho : off + 1013 ≤ 6078) : ∃ m', k_Mo_passAll_e x (nI off) 0 = some m' ∧ zAg (zUn (x.2 40) off) m' ∧ m'.2 40 = x.2 40 ∧ (∀ i, ¬ zin i → i ≠ 43 → i ≠ 45 → m'.1 i = x.1 i) ∧ ∀ a, ¬ zan a 0 → m'.2 a = x.2 a := by
  obtain ⟨I, A, e, a0, a1, a2, a3, a4, a5, a6, a7, a8, a9, a10, a15, a13, a33, i11, i16, i14, i19, i20, i21, i22, i23, i24, i25, i17, i18, i26, i27, i28, i29, i38, ar, fi, fa⟩ := pa_rest_e x off ho
  refine ⟨(I, A), e, ⟨fun i hi => ?_, fun a k hk => ?_⟩, ar, fun i hi h43 h45 => ?_, fun a ha => ?_⟩
  · rcases hi with rfl | rfl | rfl | rfl | rfl | rfl | rfl | rfl | rfl | rfl | rfl | rfl | rfl | rfl | rfl | rfl | rfl
    · exact i11
    · exact i16
    · exact i14
    · exact i19
    · exact i20
    · exact i21
    · exact i22
    · exact i23
    · exact i24
    · exact i25
    · exact i17
    · exact i18
    · exact i26
    · exact i27
    · exact i28
    · exact i29
    · exact i38
  · rcases hk with ⟨rfl, h⟩ | ⟨rfl, h⟩ | ⟨rfl, h⟩ | ⟨rfl, h⟩ | ⟨rfl, h⟩ | ⟨rfl, h⟩ | ⟨rfl, h⟩ | ⟨rfl, h⟩ | ⟨rfl, h⟩ | ⟨rfl, h⟩ | ⟨rfl, h⟩ | ⟨rfl, h⟩ | ⟨rfl, h⟩ | ⟨rfl, h⟩
    · exact (a0 k h).trans (congrArg (x.2 40) (Nat.add_assoc _ _ _))
    · exact (a1 k h).trans (congrArg (x.2 40) (Nat.add_assoc _ _ _))
    · exact (a2 k h).trans (congrArg (x.2 40) (Nat.add_assoc _ _ _))
    · exact (a3 k h).trans (congrArg (x.2 40) (Nat.add_assoc _ _ _))
    · exact (a4 k h).trans (congrArg (x.2 40) (Nat.add_assoc _ _ _))
    · exact (a5 k h).trans (congrArg (x.2 40) (Nat.add_assoc _ _ _))
    · exact (a6 k h).trans (congrArg (x.2 40) (Nat.add_assoc _ _ _))
    · exact (a7 k h).trans (congrArg (x.2 40) (Nat.add_assoc _ _ _))
    · exact (a8 k h).trans (congrArg (x.2 40) (Nat.add_assoc _ _ _))
    · exact (a9 k h).trans (congrArg (x.2 40) (Nat.add_assoc _ _ _))
    · exact (a10 k h).trans (congrArg (x.2 40) (Nat.add_assoc _ _ _))
    · exact (a15 k h).trans (congrArg (x.2 40) (Nat.add_assoc _ _ _))
    · exact (a13 k h).trans (congrArg (x.2 40) (Nat.add_assoc _ _ _))
    · exact (a33 k h).trans (congrArg (x.2 40) (Nat.add_assoc _ _ _))
  · exact fi i (fun e => hi (by rw [e]; unfold zin; omega)) (fun e => hi (by rw [e]; unfold zin; omega)) (fun e => hi (by rw [e]; unfold zin; omega)) (fun e => hi (by rw [e]; unfold zin; omega)) (fun e => hi (by rw [e]; unfold zin; omega)) (fun e => hi (by rw [e]; unfold zin; omega)) (fun e => hi (by rw [e]; unfold zin; omega)) (fun e => hi (by rw [e]; unfold zin; omega)) (fun e => hi (by rw [e]; unfold zin; omega)) (fun e => hi (by rw [e]; unfold zin; omega)) (fun e => hi (by rw [e]; unfold zin; omega)) (fun e => hi (by rw [e]; unfold zin; omega)) (fun e => hi (by rw [e]; unfold zin; omega)) (fun e => hi (by rw [e]; unfold zin; omega)) (fun e => hi (by rw [e]; unfold zin; omega)) (fun e => hi (by rw [e]; unfold zin; omega)) (fun e => hi (by rw [e]; unfold zin; omega)) h43 h45
  · exact fa a (fun e => ha (by rw [e]; unfold zan; omega)) (fun e => ha (by rw [e]; unfold zan; omega)) (fun e => ha (by rw [e]; unfold zan; omega)) (fun e => ha (by rw [e]; unfold zan; omega)) (fun e => ha (by rw [e]; unfold zan; omega)) (fun e => ha (by rw [e]; unfold zan; omega)) (fun e => ha (by rw [e]; unfold zan; omega)) (fun e => ha (by rw [e]; unfold zan; omega)) (fun e => ha (by rw [e]; unfold zan; omega)) (fun e => ha (by rw [e]; unfold zan; omega)) (fun e => ha (by rw [e]; unfold zan; omega)) (fun e => ha (by rw [e]; unfold zan; omega)) (fun e => ha (by rw [e]; unfold zan; omega)) (fun e => ha (by rw [e]; unfold zan; omega))
theorem pa_rs_s (x : zsM) (off : Nat) (ho : off + 1013 ≤ 1013) : ∃ m', k_Mo_passAll_s x (nI off) 0 = some m' ∧ zAg (zUn (x.2 41) off) m' ∧ m'.2 41 = x.2 41 ∧ (∀ i, ¬ zin i → i ≠ 43 → i ≠ 45 → m'.1 i = x.1 i) ∧ ∀ a, ¬ zan a 0 → m'.2 a = x.2 a := by
  obtain ⟨I, A, e, a0, a1, a2, a3, a4, a5, a6, a7, a8, a9, a10, a15, a13, a33, i11, i16, i14, i19, i20, i21, i22, i23, i24, i25, i17, i18, i26, i27, i28, i29, i38, ar, fi, fa⟩ := pa_rest_s x off ho
  refine ⟨(I, A), e, ⟨fun i hi => ?_, fun a k hk => ?_⟩, ar, fun i hi h43 h45 => ?_, fun a ha => ?_⟩
  · rcases hi with rfl | rfl | rfl | rfl | rfl | rfl | rfl | rfl | rfl | rfl | rfl | rfl | rfl | rfl | rfl | rfl | rfl
    · exact i11
    · exact i16
    · exact i14
    · exact i19
    · exact i20
    · exact i21
    · exact i22
    · exact i23
    · exact i24
    · exact i25
    · exact i17
    · exact i18
    · exact i26
    · exact i27
    · exact i28
    · exact i29
    · exact i38
  · rcases hk with ⟨rfl, h⟩ | ⟨rfl, h⟩ | ⟨rfl, h⟩ | ⟨rfl, h⟩ | ⟨rfl, h⟩ | ⟨rfl, h⟩ | ⟨rfl, h⟩ | ⟨rfl, h⟩ | ⟨rfl, h⟩ | ⟨rfl, h⟩ | ⟨rfl, h⟩ | ⟨rfl, h⟩ | ⟨rfl, h⟩ | ⟨rfl, h⟩
    · exact (a0 k h).trans (congrArg (x.2 41) (Nat.add_assoc _ _ _))
    · exact (a1 k h).trans (congrArg (x.2 41) (Nat.add_assoc _ _ _))
    · exact (a2 k h).trans (congrArg (x.2 41) (Nat.add_assoc _ _ _))
    · exact (a3 k h).trans (congrArg (x.2 41) (Nat.add_assoc _ _ _))
    · exact (a4 k h).trans (congrArg (x.2 41) (Nat.add_assoc _ _ _))
    · exact (a5 k h).trans (congrArg (x.2 41) (Nat.add_assoc _ _ _))
    · exact (a6 k h).trans (congrArg (x.2 41) (Nat.add_assoc _ _ _))
    · exact (a7 k h).trans (congrArg (x.2 41) (Nat.add_assoc _ _ _))
    · exact (a8 k h).trans (congrArg (x.2 41) (Nat.add_assoc _ _ _))
    · exact (a9 k h).trans (congrArg (x.2 41) (Nat.add_assoc _ _ _))
    · exact (a10 k h).trans (congrArg (x.2 41) (Nat.add_assoc _ _ _))
    · exact (a15 k h).trans (congrArg (x.2 41) (Nat.add_assoc _ _ _))
    · exact (a13 k h).trans (congrArg (x.2 41) (Nat.add_assoc _ _ _))
    · exact (a33 k h).trans (congrArg (x.2 41) (Nat.add_assoc _ _ _))
  · exact fi i (fun e => hi (by rw [e]; unfold zin; omega)) (fun e => hi (by rw [e]; unfold zin; omega)) (fun e => hi (by rw [e]; unfold zin; omega)) (fun e => hi (by rw [e]; unfold zin; omega)) (fun e => hi (by rw [e]; unfold zin; omega)) (fun e => hi (by rw [e]; unfold zin; omega)) (fun e => hi (by rw [e]; unfold zin; omega)) (fun e => hi (by rw [e]; unfold zin; omega)) (fun e => hi (by rw [e]; unfold zin; omega)) (fun e => hi (by rw [e]; unfold zin; omega)) (fun e => hi (by rw [e]; unfold zin; omega)) (fun e => hi (by rw [e]; unfold zin; omega)) (fun e => hi (by rw [e]; unfold zin; omega)) (fun e => hi (by rw [e]; unfold zin; omega)) (fun e => hi (by rw [e]; unfold zin; omega)) (fun e => hi (by rw [e]; unfold zin; omega)) (fun e => hi (by rw [e]; unfold zin; omega)) h43 h45
  · exact fa a (fun e => ha (by rw [e]; unfold zan; omega)) (fun e => ha (by rw [e]; unfold zan; omega)) (fun e => ha (by rw [e]; unfold zan; omega)) (fun e => ha (by rw [e]; unfold zan; omega)) (fun e => ha (by rw [e]; unfold zan; omega)) (fun e => ha (by rw [e]; unfold zan; omega)) (fun e => ha (by rw [e]; unfold zan; omega)) (fun e => ha (by rw [e]; unfold zan; omega)) (fun e => ha (by rw [e]; unfold zan; omega)) (fun e => ha (by rw [e]; unfold zan; omega)) (fun e => ha (by rw [e]; unfold zan; omega)) (fun e => ha (by rw [e]; unfold zan; omega)) (fun e => ha (by rw [e]; unfold zan; omega)) (fun e => ha (by rw [e]; unfold zan; omega))
def zst (b : Nat → Bool) : Int32 := nI ((if b 0 then 1 else 0) + (if b 1 then 2 else 0) + (if b 2 then 4 else 0) + (if b 3 then 8 else 0))
def zRP (pw : zsT) (s : Int32) (a : Nat → Int32) : Prop := pw.2 = nI 4 ∧ ∃ b : Nat → Bool, s = zst b ∧ ∀ p, p < 4 → (b p = false → pw.1 (p * 25 + 2) = nI 0) ∧ (b p = true → zPV (fun c => pw.1 (p * 25 + c)) ∧ ∀ c, c < 25 → pw.1 (p * 25 + c) = a (25 * p + zmu c))
def zRE (F r : Nat) (o : zsT) (ei : Nat → Int32) (m : zsM) : Prop := (ei 7 = 0 ∨ ei 7 = 1) ∧ ei 8 = m.1 26 ∧ ei 9 = m.1 27 ∧ ei 10 = m.1 28 ∧ ∃ M, M ≤ F ∧ zRO M o m ∧ ((M = 0 ∧ ei 4 = nI 0 ∧ m.1 19 = 0 ∧ m.1 22 = nI 0) ∨ ∃ n q, n < M ∧ 0 < q ∧ q ≤ r ∧ ei 4 = nI q ∧ m.1 22 = nI q ∧ m.1 19 = 1 ∧ ei 5 = nI n ∧ m.1 20 = nI n ∧ ei 6 = m.1 23 ∧ ei 7 = m.1 24)
def zSS (b r : Nat) (y : zsS) (m : zsM) : Prop := ∃ F, zRI b F y.1.1.1.1 y.1.1.1.2.1 y.1.1.2.1 y.1.1.2.2 m ∧ zRE F r y.1.2.1 y.1.2.2 m ∧ zRW y.2.1 (m.2 0) ∧ zRP y.2.2.1 (m.1 38) (m.2 33) ∧ y.2.2.2 = m.1 29
theorem zRE_mono {F r r' : Nat} {o : zsT} {ei : Nat → Int32} {m : zsM} (h : zRE F r o ei m) (hr : r ≤ r') : zRE F r' o ei m := by
  obtain ⟨h1, h2, h3, h4, M, h5, h6, h7⟩ := h
  refine ⟨h1, h2, h3, h4, M, h5, h6, ?_⟩
  rcases h7 with h7 | ⟨n, q, g1, g2, g3, g4⟩
  · exact Or.inl h7
  · exact Or.inr ⟨n, q, g1, g2, by omega, g4⟩
theorem zSS_mono {b b' r r' : Nat} {y : zsS} {m : zsM} (h : zSS b r y m) (hb : b ≤ b') (hr : r ≤ r') : zSS b' r' y m := by
  obtain ⟨F, h1, h2, h3⟩ := h
  exact ⟨F, zRI_mono h1 hb, zRE_mono h2 hr, h3⟩
theorem zmu_lt {c : Nat} (hc : c < 25) : zmu c < 25 := by
  unfold zmu
  split
  · omega
  · split
    · omega
    · split <;> omega
theorem zRO_cg {M : Nat} {o : zsT} {m m' : zsM} (h : zRO M o m) (h1 : m'.1 21 = m.1 21) (h2 : ∀ k, k < 8 → m'.2 10 k = m.2 10 k) : zRO M o m' := by
  obtain ⟨g1, g2, g3, g4, g5⟩ := h
  refine ⟨g1, g2, h1.trans g3, fun i hi => ?_, g5⟩
  rw [h2 i (by omega)]
  exact g4 i hi
theorem zSS_cg {b r : Nat} {y : zsS} {m m' : zsM} (h : zSS b r y m) (g : zAg m m') : zSS b r y m' := by
  obtain ⟨F, ⟨⟨N, j1, j2, j3, j4⟩, ⟨L, c1, ⟨c2, c3⟩, c4⟩, ⟨f1, f2, f3, f4⟩, ⟨k1, k2⟩, k3, k4⟩, ⟨e1, e2, e3, e4, M, e5, e6, e7⟩, ⟨w1, w2⟩, ⟨p1, bb, p2, p3⟩, s1⟩ := h
  obtain ⟨g1, g2⟩ := g
  have G : ∀ i, zin i → m'.1 i = m.1 i := g1
  have G0 : ∀ k, k < 100 → m'.2 0 k = m.2 0 k := fun k hk => g2 0 k (by unfold zan; omega)
  have G8 : ∀ a k, 1 ≤ a → a ≤ 7 → k < 8 → m'.2 a k = m.2 a k := fun a k h1 h2 hk => g2 a k (by unfold zan; omega)
  refine ⟨F, ⟨⟨N, j1, j2, ?_, fun i hi hi2 => ?_⟩, ⟨L, c1, ⟨?_, fun i hi => ?_⟩, c4⟩, ⟨f1, f2, ?_, fun i hi => ?_⟩, ⟨fun i hi => ?_, k2⟩, ?_, ?_⟩, ⟨e1, ?_, ?_, ?_, M, e5, zRO_cg e6 ?_ ?_, ?_⟩, ⟨w1, fun i hi => ?_⟩, ⟨p1, bb, ?_, fun p hp => ⟨(p3 p hp).1, fun hb => ⟨((p3 p hp).2 hb).1, fun c hc => ?_⟩⟩⟩, ?_⟩
  · rw [G 14 (by unfold zin; omega)]
    exact j3
  · rw [g2 13 i (by unfold zan; omega)]
    exact j4 i hi hi2
  · rw [G 16 (by unfold zin; omega)]
    exact c2
  · rw [g2 15 i (by unfold zan; have := c4.2.1; omega)]
    exact c3 i hi
  · rw [G 11 (by unfold zin; omega)]
    exact f3
  · rw [G8 1 i (by omega) (by omega) (by omega), G8 2 i (by omega) (by omega) (by omega), G8 3 i (by omega) (by omega) (by omega), G8 4 i (by omega) (by omega) (by omega), G8 5 i (by omega) (by omega) (by omega), G8 6 i (by omega) (by omega) (by omega), G8 7 i (by omega) (by omega) (by omega)]
    obtain ⟨q1, q2, q3, q4, q5, q6, q7, q8⟩ := f4 i hi
    refine ⟨q1, q2, q3, q4, q5, q6, q7, fun r hr => ?_⟩
    rw [g2 8 (3 * i + r) (by unfold zan; omega), g2 9 (3 * i + r) (by unfold zan; omega)]
    exact q8 r hr
  · obtain ⟨q1, ⟨v, v1, v2, v3⟩, q3⟩ := k1 i hi
    exact ⟨q1, ⟨v, v1, v2, (G0 v v1).trans v3⟩, q3⟩
  · rw [G 17 (by unfold zin; omega)]
    exact k3
  · rw [G 18 (by unfold zin; omega)]
    exact k4
  · rw [G 26 (by unfold zin; omega)]
    exact e2
  · rw [G 27 (by unfold zin; omega)]
    exact e3
  · rw [G 28 (by unfold zin; omega)]
    exact e4
  · exact G 21 (by unfold zin; omega)
  · exact fun k hk => g2 10 k (by unfold zan; omega)
  · rw [G 19 (by unfold zin; omega), G 20 (by unfold zin; omega), G 22 (by unfold zin; omega), G 23 (by unfold zin; omega), G 24 (by unfold zin; omega)]
    exact e7
  · rw [G0 i hi]
    exact w2 i hi
  · rw [G 38 (by unfold zin; omega)]
    exact p2
  · rw [g2 33 (25 * p + zmu c) (by unfold zan; have := zmu_lt hc; omega)]
    exact ((p3 p hp).2 hb).2 c hc
  · rw [G 29 (by unfold zin; omega)]
    exact s1
theorem ta_copyRows {w n F : Nat} {y : zsT} (x : zsT) (hy : y.2 = nI F) (hw : w < 2 ^ 31) (hF : F * w ≤ n) (hn : n < 2 ^ 31) : ∃ f, k_Ta_copyRows (nI w) n y x = some (f, nI F) ∧ ∀ k, k < F * w → f k = y.1 k := by
  have hm : zmin (y.2 * nI w) (zmin (Int32.ofNat n) (Int32.ofNat n)) = nI (F * w) := by
    rw [hy, pk_mul, show zmin (Int32.ofNat n) (Int32.ofNat n) = nI (min n n) from zmin_nI hn hn, zmin_nI (by omega) (by omega), Nat.min_self, Nat.min_eq_left hF]
  unfold k_Ta_copyRows
  rw [hm, hy]
  by_cases h0 : 0 < F * w
  · refine ⟨va_cpy y.1 x.1 0 0 (F * w), ?_, fun k hk => ?_⟩
    · rw [if_pos (show (0 : Int32) < nI (F * w) from nI_lt (a := 0) h0 (by omega)), if_neg, nI_clamp (by omega)]
      · rfl
      · show ¬ ((0 : Int32) < 0 ∨ (0 : Int32) < 0 ∨ nI (F * w) < 0 ∨ n < (0 : Int32).toNatClampNeg + (nI (F * w)).toNatClampNeg ∨ n < (0 : Int32).toNatClampNeg + (nI (F * w)).toNatClampNeg)
        rw [nI_clamp (by omega), show (0 : Int32).toNatClampNeg = 0 from rfl]
        rintro (h | h | h | h | h)
        · exact absurd h (by decide)
        · exact absurd h (by decide)
        · exact z_ltz (by omega) h
        · omega
        · omega
    · rw [pk_cpy_in (by omega) (by omega), Nat.sub_zero, Nat.zero_add]
  · refine ⟨x.1, ?_, fun k hk => by omega⟩
    rw [if_neg (show ¬ (0 : Int32) < nI (F * w) from nI_nlt (a := 0) (by omega) (by omega))]
theorem jo_copy {N : Nat} {y : zsT} (x : zsT) (hy : y.2 = nI N) (hN : N < 2 ^ 27) : ∃ f, k_Jo_copyFrom y x = some (f, nI N) ∧ ∀ k, k < 3 * N → k < 900 → f k = y.1 k := by
  have hm : zmin (zmin y.2 300 * 3) 900 = nI (min N 300 * 3) := by
    rw [hy, show zmin (nI N) 300 = nI (min N 300) from zmin_nI (b := 300) (by omega) (by omega), z_3, pk_mul, show zmin (nI (min N 300 * 3)) 900 = nI (min (min N 300 * 3) 900) from zmin_nI (b := 900) (by omega) (by omega), Nat.min_eq_left (b := 900) (by omega)]
  unfold k_Jo_copyFrom
  rw [hm, hy]
  by_cases h0 : 0 < min N 300 * 3
  · refine ⟨va_cpy y.1 x.1 0 0 (min N 300 * 3), ?_, fun k hk hk2 => ?_⟩
    · rw [if_pos (show (0 : Int32) < nI (min N 300 * 3) from nI_lt (a := 0) h0 (by omega)), if_neg (show ¬ (900 : Int32) < nI (min N 300 * 3) from nI_nlt (a := 900) (by omega) (by omega)), if_neg, nI_clamp (by omega)]
      · rfl
      · show ¬ ((0 : Int32) < 0 ∨ (0 : Int32) < 0 ∨ nI (min N 300 * 3) < 0 ∨ 900 < (0 : Int32).toNatClampNeg + (nI (min N 300 * 3)).toNatClampNeg ∨ 900 < (0 : Int32).toNatClampNeg + (nI (min N 300 * 3)).toNatClampNeg)
        rw [nI_clamp (by omega), show (0 : Int32).toNatClampNeg = 0 from rfl]
        rintro (h | h | h | h | h)
        · exact absurd h (by decide)
        · exact absurd h (by decide)
        · exact z_ltz (by omega) h
        · omega
        · omega
    · rw [pk_cpy_in (by omega) (by omega), Nat.sub_zero, Nat.zero_add]
  · refine ⟨x.1, ?_, fun k hk hk2 => by omega⟩
    rw [if_neg (show ¬ (0 : Int32) < nI (min N 300 * 3) from nI_nlt (a := 0) (by omega) (by omega))]
theorem r_become {b r : Nat} {y : zsS} {m : zsM} (x : zsS) (h : zSS b r y m) (hb : b < 2 ^ 27) : ∃ z, k_St_become y x = some z ∧ zSS b r z m := by
  obtain ⟨F, ⟨⟨N, j1, j2, j3, j4⟩, ⟨L, ⟨c1, c1'⟩, c2, c4⟩, ⟨f1, f2, f3, f4⟩, ⟨k1, k2⟩, k3, k4⟩, ⟨e1, e2, e3, e4, M, e5, ⟨o1, o2, o3, o4, o5⟩, e7⟩, ⟨w1, w2⟩, ⟨p1, bb, p2, p3⟩, s1⟩ := h
  have hL := c4.2.1
  obtain ⟨jf, a1, a2⟩ := jo_copy x.1.1.1.1 j2 (by omega)
  obtain ⟨cf, a3, a4⟩ := ta_copyRows (w := 6) (n := 2304) x.1.1.1.2.1 c1 (by omega) (by omega) (by omega)
  obtain ⟨ff, a5, a6⟩ := ta_copyRows (w := 13) (n := 104) x.1.1.2.1 f2 (by omega) (by omega) (by omega)
  obtain ⟨of, a7, a8⟩ := ta_copyRows (w := 1) (n := 8) x.1.2.1 o2 (by omega) (by omega) (by omega)
  obtain ⟨wf, a9, a10⟩ := ta_copyRows (w := 1) (n := 100) x.2.1 w1 (by omega) (by omega) (by omega)
  obtain ⟨pf, a11, a12⟩ := ta_copyRows (w := 25) (n := 100) x.2.2.1 p1 (by omega) (by omega) (by omega)
  have A6 : ∀ i q, i < F → q < 13 → ff (i * 13 + q) = y.1.1.2.1.1 (i * 13 + q) := fun i q hi hq => a6 _ (by omega)
  have A8 : ∀ i, i < M → of i = y.1.2.1.1 i := fun i hi => a8 i (by omega)
  obtain ⟨fi', hfi⟩ : ∃ q, q = upd (upd x.1.1.2.2 3 (y.1.1.2.2 3)) 4 (y.1.1.2.2 4) := ⟨_, rfl⟩
  obtain ⟨ei', hei⟩ : ∃ q, q = upd (upd (upd (upd (upd (upd (upd x.1.2.2 4 (y.1.2.2 4)) 5 (y.1.2.2 5)) 6 (y.1.2.2 6)) 7 (y.1.2.2 7)) 8 (y.1.2.2 8)) 9 (y.1.2.2 9)) 10 (y.1.2.2 10) := ⟨_, rfl⟩
  refine ⟨(((((jf, nI N), (cf, nI L.length), x.1.1.1.2.2), (ff, nI F), fi'), (of, nI M), ei'), (wf, nI 100), (pf, nI 4), y.2.2.2), ?_, ?_⟩
  · unfold k_St_become
    rw [a1, Option.bind_some]
    unfold k_Co_copyFrom k_Fi_copyFrom k_En_copyFrom
    dsimp only
    rw [show k_Ta_copyRows 6 2304 y.1.1.1.2.1 x.1.1.1.2.1 = _ from a3, Option.bind_some, Option.bind_some, show k_Ta_copyRows 13 104 y.1.1.2.1 x.1.1.2.1 = _ from a5, Option.bind_some, Option.bind_some, show k_Ta_copyRows 1 8 y.1.2.1 x.1.2.1 = _ from a7, Option.bind_some, if_pos e1, Option.bind_some, show k_Ta_copyRows 1 100 y.2.1 x.2.1 = _ from a9, Option.bind_some, show k_Ta_copyRows 25 100 y.2.2.1 x.2.2.1 = _ from a11, Option.bind_some, hfi, hei]
  · have q3 : fi' 3 = y.1.1.2.2 3 := by
      rw [hfi, zu_n (by decide), zu_s]
    have q4 : fi' 4 = y.1.1.2.2 4 := by
      rw [hfi, zu_s]
    have r4 : ei' 4 = y.1.2.2 4 := by
      rw [hei]
      rfl
    have r5 : ei' 5 = y.1.2.2 5 := by
      rw [hei]
      rfl
    have r6 : ei' 6 = y.1.2.2 6 := by
      rw [hei]
      rfl
    have r7 : ei' 7 = y.1.2.2 7 := by
      rw [hei]
      rfl
    have r8 : ei' 8 = y.1.2.2 8 := by
      rw [hei]
      rfl
    have r9 : ei' 9 = y.1.2.2 9 := by
      rw [hei]
      rfl
    have r10 : ei' 10 = y.1.2.2 10 := by
      rw [hei]
      rfl
    refine ⟨F, ⟨⟨N, j1, rfl, j3, fun i hi hi2 => ?_⟩, ⟨L, ⟨rfl, fun i hi q hq => ?_⟩, c2, c4⟩, ⟨f1, rfl, f3, fun i hi => ?_⟩, ⟨fun i hi => ?_, fun i k hi hk he => ?_⟩, q3.trans k3, q4.trans k4⟩, ⟨?_, r8.trans e2, r9.trans e3, r10.trans e4, M, e5, ⟨o1, rfl, o3, fun i hi => ?_, fun f hf => ?_⟩, ?_⟩, ⟨rfl, fun i hi => ?_⟩, ⟨rfl, bb, p2, fun p hp => ⟨fun hb => ?_, fun hb => ?_⟩⟩, s1⟩
    · obtain ⟨k, f, v, h1, h2, h3, h4, h5, h6, h7⟩ := j4 i hi hi2
      exact ⟨k, f, v, h1, h2, h3, (a2 _ (by omega) (by omega)).trans h4, (a2 _ (by omega) (by omega)).trans h5, (a2 _ (by omega) (by omega)).trans h6, h7⟩
    · exact (a4 _ (by omega)).trans (c1' i hi q hq)
    · dsimp only
      rw [A6 i 0 hi (by omega), A6 i 1 hi (by omega), A6 i 2 hi (by omega), A6 i 3 hi (by omega), A6 i 4 hi (by omega), A6 i 5 hi (by omega), A6 i 6 hi (by omega)]
      obtain ⟨g1, g2, g3, g4, g5, g6, g7, g8⟩ := f4 i hi
      refine ⟨g1, g2, g3, g4, g5, g6, g7, fun r hr => ?_⟩
      rw [A6 i (7 + r) hi (by omega), A6 i (10 + r) hi (by omega)]
      exact g8 r hr
    · dsimp only
      rw [A6 i 0 hi (by omega), A6 i 1 hi (by omega), A6 i 2 hi (by omega), A6 i 3 hi (by omega), A6 i 4 hi (by omega), A6 i 5 hi (by omega), A6 i 6 hi (by omega)]
      obtain ⟨g1, g2, g3, g4, g5, g6, g7⟩ := k1 i hi
      refine ⟨g1, g2, g3, g4, g5, g6, fun r hr => ?_⟩
      rw [A6 i (7 + r) hi (by omega), A6 i (10 + r) hi (by omega)]
      exact g7 r hr
    · dsimp only at he
      rw [A6 i 1 hi (by omega), A6 k 1 hk (by omega)] at he
      exact k2 i k hi hk he
    · dsimp only
      rw [r7]
      exact e1
    · dsimp only
      rw [A8 i hi]
      exact o4 i hi
    · obtain ⟨i, h1, h2⟩ := o5 f hf
      exact ⟨i, h1, (A8 i h1).trans h2⟩
    · dsimp only
      rw [r4, r5, r6, r7]
      exact e7
    · dsimp only
      rw [a10 i (by omega)]
      exact w2 i hi
    · exact (a12 _ (by omega)).trans ((p3 p hp).1 hb)
    · obtain ⟨h1, h2⟩ := (p3 p hp).2 hb
      have E : ∀ c, c < 25 → pf (p * 25 + c) = y.2.2.1.1 (p * 25 + c) := fun c hc => a12 _ (by omega)
      refine ⟨?_, fun c hc => (E c hc).trans (h2 c hc)⟩
      obtain ⟨sh, s, r, co, E', t1, t2, t3, t4, t5, t6, t7, t8, t9, t10, t11, t12⟩ := h1
      refine ⟨sh, s, r, co, E', t1, t2, t3, t4, t5, t6, (E 0 (by omega)).trans t7, (E 1 (by omega)).trans t8, (E 2 (by omega)).trans t9, (E 3 (by omega)).trans t10, (E 4 (by omega)).trans t11, fun e he => zEf_cg (t12 e he) fun c h1 h2 => E c (by omega)⟩

