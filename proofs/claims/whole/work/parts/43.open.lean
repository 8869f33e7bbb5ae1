theorem z_m1 (n : Nat) : nI (n + 1) + (-1 : Int32) = nI n := by
  rw [← nI_pred n, Int32.sub_eq_add_neg]
theorem zush16 (x : Int32) : ∃ n, n < 65536 ∧ zush x 16 = nI n := by
  refine ⟨(x.toUInt32 >>> (16 : UInt32)).toNat, ?_, ?_⟩
  · rw [UInt32.toNat_shiftRight, Nat.shiftRight_eq_div_pow]
    have := x.toUInt32.toNat_lt
    have e : (16 : UInt32).toNat % 32 = 16 := rfl
    rw [e]
    omega
  · unfold zush
    rw [show (16 : Int32).toUInt32 &&& Int32.toUInt32 31 = (16 : UInt32) from by decide]
    generalize x.toUInt32 >>> (16 : UInt32) = u
    show u.toInt32 = Int32.ofNat u.toNat
    rw [← UInt32.toInt32_ofNat', UInt32.ofNat_toNat]
theorem zdraw (x : Int32) : ∃ d, d < 20 ∧ (1 : Int32) + zrem (zush x 16) 20 = nI (1 + d) := by
  obtain ⟨n, hn, e⟩ := zush16 x
  refine ⟨n % 20, Nat.mod_lt _ (by omega), ?_⟩
  rw [e]
  unfold zrem
  rw [show (20 : Int32) = nI 20 from rfl, pk_rem (by omega) (by omega) (by omega), z_1, nI_add]
theorem zRF_score {F f : Nat} {t : zsT} {m : zsM} {x : Int32} (hr : zRF F t m) (hf : f < F) (n : Nat → Int32) (hn : n 11 = m.1 11) : zRF F (upd t.1 (f * 13 + 6) x, t.2) (n, va_up m.2 7 (upd (m.2 7) f x)) := by
  obtain ⟨h1, h2, h3, h4⟩ := hr
  refine ⟨h1, h2, hn.trans h3, fun i hi => ?_⟩
  obtain ⟨g1, g2, g3, g4, g5, g6, g7, g8⟩ := h4 i hi
  dsimp only
  rw [zup_n (show 1 ≠ 7 by decide), zup_n (show 2 ≠ 7 by decide), zup_n (show 4 ≠ 7 by decide), zup_n (show 3 ≠ 7 by decide), zup_n (show 5 ≠ 7 by decide), zup_n (show 6 ≠ 7 by decide), zup_s, zup_n (show 8 ≠ 7 by decide), zup_n (show 9 ≠ 7 by decide)]
  refine ⟨?_, ?_, ?_, ?_, ?_, ?_, ?_, fun r hr => ⟨?_, ?_⟩⟩
  · rw [zu_n (by omega), g1]
  · rw [zu_n (by omega), g2]
  · rw [zu_n (by omega), g3]
  · rw [zu_n (by omega), g4]
  · rw [zu_n (by omega), g5]
  · rw [zu_n (by omega), g6]
  · by_cases hif : i = f
    · subst hif
      rw [zu_s, zu_s]
    · rw [zu_n hif, zu_n (by omega), g7]
  · rw [zu_n (by omega), (g8 r hr).1]
  · rw [zu_n (by omega), (g8 r hr).2]
theorem zFR_score {F f : Nat} {t : zsT} {wall : Nat → Int32} {x : Int32} (hr : zFR F t wall) (hx : -5 ≤ x.toInt) (hx2 : x.toInt ≤ 29) : zFR F (upd t.1 (f * 13 + 6) x, t.2) wall := by
  obtain ⟨h1, h2⟩ := hr
  refine ⟨fun i hi => ?_, fun i k hi hk he => ?_⟩
  · obtain ⟨g1, g2, g3, g4, g5, g6, g7⟩ := h1 i hi
    dsimp only
    rw [zu_n (show i * 13 + 0 ≠ f * 13 + 6 by omega), zu_n (show i * 13 + 1 ≠ f * 13 + 6 by omega), zu_n (show i * 13 + 2 ≠ f * 13 + 6 by omega), zu_n (show i * 13 + 3 ≠ f * 13 + 6 by omega), zu_n (show i * 13 + 4 ≠ f * 13 + 6 by omega), zu_n (show i * 13 + 5 ≠ f * 13 + 6 by omega)]
    refine ⟨g1, g2, g3, g4, g5, ?_, fun r hr => ?_⟩
    · by_cases hif : i = f
      · subst hif
        rw [zu_s]
        exact ⟨hx, hx2⟩
      · rw [zu_n (by omega)]
        exact g6
    · rw [zu_n (by omega), zu_n (by omega)]
      exact g7 r hr
  · dsimp only at he
    rw [zu_n (by omega), zu_n (by omega)] at he
    exact h2 i k hi hk he
theorem or_set {M q : Nat} {A : Nat → Int32} {x : Int32} (hM : M ≤ 8) (hq : q < M) : k_Ta_set 1 8 (A, nI M) (nI q) 0 x = some (upd A q x, nI M) := by
  have g := ta_set (w := 1) (n := 8) (c := 0) (x := (A, nI M)) (v := x) rfl hq (by omega) (by omega) (by omega)
  rw [Nat.mul_one, Nat.add_zero] at g
  exact g
theorem r_ins_lp {F i : Nat} {c3 : zsC} {t : zsT} {fi ei wall : Nat → Int32} (l1 : Int32) (kf : Int32 → zsM → Option (Int32 × zsM)) (hR : zFR F t wall) (hi : i < F) : ∀ (q fu fu' : Nat) (A : Nat → Int32) (m : zsM), q ≤ i → q < fu → q < fu' → zRF F t m → (∀ k, k ≤ i → k ≠ q → m.2 10 k = A k ∧ ∃ f, f < i ∧ A k = nI f) → (∀ f, f < i → ∃ k, k ≤ i ∧ k ≠ q ∧ A k = nI f) → ∃ A' m', k_En_insert_8 (nI i) fu (nI q) ((c3, t, fi), (A, nI (i + 1)), ei) = some ((c3, t, fi), (A', nI (i + 1)), ei) ∧ k_Mo_begin_66 l1 kf fu' (nI i) (nI q) m = kf (nI (i + 1)) m' ∧ m'.1 = m.1 ∧ (∀ x, x ≠ 10 → m'.2 x = m.2 x) ∧ (∀ k, k < i + 1 → m'.2 10 k = A' k ∧ ∃ f, f < i + 1 ∧ A' k = nI f) ∧ ∀ f, f < i + 1 → ∃ k, k < i + 1 ∧ A' k = nI f := by
  have hfin : ∀ (q : Nat) (A : Nat → Int32) (m : zsM), q ≤ i → zRF F t m → (∀ k, k ≤ i → k ≠ q → m.2 10 k = A k ∧ ∃ f, f < i ∧ A k = nI f) → (∀ f, f < i → ∃ k, k ≤ i ∧ k ≠ q ∧ A k = nI f) → k_Mo_begin_106 l1 kf (nI i) (nI q) m = kf (nI (i + 1)) (m.1, va_up m.2 10 (upd (m.2 10) q (nI i))) ∧ (∀ x, x ≠ 10 → va_up m.2 10 (upd (m.2 10) q (nI i)) x = m.2 x) ∧ (∀ k, k < i + 1 → va_up m.2 10 (upd (m.2 10) q (nI i)) 10 k = upd A q (nI i) k ∧ ∃ f, f < i + 1 ∧ upd A q (nI i) k = nI f) ∧ ∀ f, f < i + 1 → ∃ k, k < i + 1 ∧ upd A q (nI i) k = nI f := by
    intro q A m hq hr h1 h2
    have hF := hr.1
    refine ⟨?_, fun x hx => zup_n hx, fun k hk => ?_, fun f hf => ?_⟩
    · unfold k_Mo_begin_106
      rw [if_neg (zo_in (by omega) (by omega)), nI_clamp (by omega), nI_1]
    · rw [zup_s]
      by_cases hkq : k = q
      · subst hkq
        rw [zu_s, zu_s]
        exact ⟨rfl, i, by omega, rfl⟩
      · rw [zu_n hkq, zu_n hkq]
        obtain ⟨g1, f, g2, g3⟩ := h1 k (by omega) hkq
        exact ⟨g1, f, by omega, g3⟩
    · by_cases hfi : f = i
      · subst hfi
        exact ⟨q, by omega, zu_s⟩
      · obtain ⟨k, g1, g2, g3⟩ := h2 f (by omega)
        exact ⟨k, by omega, by rw [zu_n g2]; exact g3⟩
  intro q
  induction q with
  | zero =>
    intro fu fu' A m hq hf hf' hr h1 h2
    obtain ⟨fu, rfl, -⟩ := z_fuS hf
    obtain ⟨fu', rfl, -⟩ := z_fuS hf'
    obtain ⟨a1, a2, a3, a4⟩ := hfin 0 A m hq hr h1 h2
    refine ⟨upd A 0 (nI i), (m.1, va_up m.2 10 (upd (m.2 10) 0 (nI i))), ?_, ?_, rfl, a2, a3, a4⟩
    · simp only [k_En_insert_8]
      rw [if_neg (by decide), or_set (by have := hr.1; omega) (by omega), Option.bind_some]
    · simp only [k_Mo_begin_66]
      rw [if_neg (by decide)]
      exact a1
  | succ q ih =>
    intro fu fu' A m hq hf hf' hr h1 h2
    obtain ⟨fu, rfl, hf2⟩ := z_fuS hf
    obtain ⟨fu', rfl, hf2'⟩ := z_fuS hf'
    have hF := hr.1
    have hpos : (0 : Int32) < nI (q + 1) := nI_lt (a := 0) (by omega) (by omega)
    obtain ⟨b1, g, b2, b3⟩ := h1 q (by omega) (by omega)
    obtain ⟨v, e1, e2, e3⟩ := r_ahead (c3 := c3) (o := (A, nI (i + 1))) (fi := fi) (ei := ei) hr hR hi (show g < F by omega)
    have hget : k_Ta_get 1 8 (A, nI (i + 1)) (nI q) 0 = some (A q) := or_get (o := (A, nI (i + 1))) rfl (by omega) (by omega)
    rcases e3 with rfl | rfl
    · obtain ⟨a1, a2, a3, a4⟩ := hfin (q + 1) A m hq hr h1 h2
      refine ⟨upd A (q + 1) (nI i), (m.1, va_up m.2 10 (upd (m.2 10) (q + 1) (nI i))), ?_, ?_, rfl, a2, a3, a4⟩
      · simp only [k_En_insert_8]
        rw [if_pos hpos, nI_pred, hget, Option.bind_some, b3, e1, Option.bind_some, if_pos rfl, or_set (by omega) (by omega), Option.bind_some]
      · simp only [k_Mo_begin_66, if_pos hpos, nI_pred, if_neg (zo_in (show q < 8 by omega) (show 8 < 2 ^ 31 by omega)), nI_clamp (show q < 2 ^ 31 by omega), b1, b3, e2, Option.bind_some, ↓reduceIte]
        exact a1
    · obtain ⟨y, c1, c2, c3'⟩ := ta_copyRow (w := 1) (n := 8) (F := i + 1) (i := q) (j := q + 1) (x := (A, nI (i + 1))) rfl (by omega) (by omega) (by omega) (by omega) (by omega)
      have y1 : y (q + 1) = A q := by
        have := c2 0 (by omega)
        rw [Nat.mul_one, Nat.mul_one, Nat.add_zero, Nat.add_zero] at this
        exact this
      have y2 : ∀ k, k ≠ q + 1 → y k = A k := fun k hk => c3' k (by omega)
      obtain ⟨A', m', d1, d2, d3, d4, d5, d6⟩ := ih fu fu' y (m.1, va_up m.2 10 (upd (m.2 10) (q + 1) (m.2 10 q))) (by omega) (by omega) (by omega) (by
        obtain ⟨r1, r2, r3, r4⟩ := hr
        refine ⟨r1, r2, r3, ?_⟩
        dsimp only
        rw [zup_n (show 1 ≠ 10 by decide), zup_n (show 2 ≠ 10 by decide), zup_n (show 4 ≠ 10 by decide), zup_n (show 3 ≠ 10 by decide), zup_n (show 5 ≠ 10 by decide), zup_n (show 6 ≠ 10 by decide), zup_n (show 7 ≠ 10 by decide), zup_n (show 8 ≠ 10 by decide), zup_n (show 9 ≠ 10 by decide)]
        exact r4) (fun k hk hkq => by
        dsimp only
        rw [zup_s]
        by_cases hk1 : k = q + 1
        · subst hk1
          rw [zu_s, y1]
          exact ⟨b1, g, b2, b3⟩
        · rw [zu_n hk1, y2 k hk1]
          exact h1 k hk hk1) (fun f hf => by
        obtain ⟨k, k1, k2, k3⟩ := h2 f hf
        by_cases hkq : k = q
        · subst hkq
          exact ⟨k + 1, by omega, by omega, by rw [y1]; exact k3⟩
        · exact ⟨k, k1, hkq, by rw [y2 k k2]; exact k3⟩)
      refine ⟨A', m', ?_, ?_, d3, fun x hx => (d4 x hx).trans (zup_n hx), d5, d6⟩
      · simp only [k_En_insert_8]
        rw [if_pos hpos, nI_pred, hget, Option.bind_some, b3, e1, Option.bind_some, if_neg (by decide), show k_Ta_copyRow 1 8 (A, nI (i + 1)) (nI q) (nI (q + 1)) = some (y, nI (i + 1)) from c1, Option.bind_some, z_m1]
        exact d1
      · simp only [k_Mo_begin_66, if_pos hpos, nI_pred, if_neg (zo_in (show q < 8 by omega) (show 8 < 2 ^ 31 by omega)), if_neg (zo_in (show q + 1 < 8 by omega) (show 8 < 2 ^ 31 by omega)), nI_clamp (show q < 2 ^ 31 by omega), nI_clamp (show q + 1 < 2 ^ 31 by omega), b1, b3, e2, Option.bind_some, z_m1]
        rw [if_neg (by decide), ← b3, ← b1]
        exact d2
