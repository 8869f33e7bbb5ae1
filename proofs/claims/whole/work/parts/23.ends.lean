def zFrC (m m' : zsM) : Prop := (∀ i, i ≠ 14 → i ≠ 16 → m'.1 i = m.1 i) ∧ ∀ i, i ≠ 13 → i ≠ 15 → m'.2 i = m.2 i
theorem zFrC_rfl (m : zsM) : zFrC m m := ⟨fun _ _ _ => rfl, fun _ _ _ => rfl⟩
theorem zFrC_tr {m m' m'' : zsM} (h : zFrC m m') (h' : zFrC m' m'') : zFrC m m'' := ⟨fun i a b => (h'.1 i a b).trans (h.1 i a b), fun i a b => (h'.2 i a b).trans (h.2 i a b)⟩
theorem zFrC_j {m m' : zsM} (h : zFrJ m m') : zFrC m m' := ⟨fun i a _ => h.1 i a, fun i a _ => h.2 i a⟩
theorem zli_app : ∀ (A B : List zCd) (i : Nat), zli (A ++ B) i = if i < A.length then zli A i else zli B (i - A.length)
  | [], B, i => by
    rw [if_neg (by simp)]
    rfl
  | a :: A, B, 0 => by
    rw [if_pos (by simp)]
    rfl
  | a :: A, B, i + 1 => by
    have h := zli_app A B i
    show zli (A ++ B) i = _
    rw [h]
    by_cases h : i < A.length
    · rw [if_pos h, if_pos (by simp only [List.length_cons]; omega)]
      rfl
    · rw [if_neg h, if_neg (by simp only [List.length_cons]; omega), List.length_cons, Nat.add_sub_add_right]
theorem zli_c0 (c : zCd) (R : List zCd) : zli (c :: R) 0 = c := rfl
theorem zli_cS (c : zCd) (R : List zCd) (i : Nat) : zli (c :: R) (i + 1) = zli R i := rfl
theorem zli_mid (K R : List zCd) (c : zCd) : zli (K ++ c :: R) K.length = c := by
  rw [zli_app, if_neg (by omega), Nat.sub_self, zli_c0]
theorem mo_endsAt_lp {n : Nat} {l1 : Int32} (hn : n < 384) : ∀ (d i fu : Nat) (m : zsM), i + d = n → d < fu → m.1 16 = nI n → ∃ a, k_Mo_endsAt_29 l1 fu (nI i) m = some (l1 - 1, (m.1, a)) ∧ (∀ q, q ≠ 15 → a q = m.2 q) ∧ ∀ k, a 15 k = if i ≤ k ∧ k < n then m.2 15 (k + 1) else m.2 15 k := by
  intro d
  induction d with
  | zero =>
    intro i fu m hi hf hm
    obtain ⟨fu, rfl, -⟩ := z_fuS hf
    refine ⟨m.2, ?_, fun _ _ => rfl, fun k => ?_⟩
    · simp only [k_Mo_endsAt_29, hm]
      rw [if_neg (nI_nlt (by omega) (by omega))]
    · rw [if_neg (by omega)]
  | succ d ih =>
    intro i fu m hi hf hm
    obtain ⟨fu, rfl, hf'⟩ := z_fuS hf
    obtain ⟨a, e, h1, h2⟩ := ih (i + 1) fu (m.1, va_up m.2 15 (upd (m.2 15) i (m.2 15 (i + 1)))) (by omega) (by omega) hm
    refine ⟨a, ?_, fun q hq => (h1 q hq).trans (zup_n hq), fun k => ?_⟩
    · simp only [k_Mo_endsAt_29, hm, z_1, nI_add]
      rw [if_pos (nI_lt (by omega) (by omega)), if_neg (zo_in (by omega) (by omega)), if_neg (zo_in (by omega) (by omega)), nI_clamp (by omega), nI_clamp (by omega)]
      exact e
    · rw [h2 k]
      dsimp only
      rw [zup_s]
      by_cases hk : k = i
      · subst hk
        rw [if_neg (by omega), if_pos (by omega), zu_s]
      · rw [zu_n hk]
        by_cases hk2 : i + 1 ≤ k ∧ k < n
        · rw [if_pos hk2, if_pos (by omega), zu_n (by omega)]
        · rw [if_neg hk2, if_neg (by omega)]
theorem r_endsAt {b F : Nat} {j : zsT} {m : zsM} {K R : List zCd} {c : zCd} (h : zRJ b j (m.1 14) (m.2 13)) (hb : b < 2 ^ 27) (hm : zMT (m.1 16) (m.2 15) (K ++ c :: R)) (hr : zLR F (K ++ c :: R)) : ∃ j' m', k_Jo_write j 4 (nI (c 1)) (nI (c 0)) = some j' ∧ k_Mo_endsAt m (nI K.length) = some (nI K.length - 1, m') ∧ zRJ (b + 1) j' (m'.1 14) (m'.2 13) ∧ zMT (m'.1 16) (m'.2 15) (K ++ R) ∧ zFrC m m' := by
  have hlen : (K ++ c :: R).length = K.length + R.length + 1 := by simp; omega
  have hlen2 : (K ++ R).length = K.length + R.length := by simp
  have hK : K.length < (K ++ c :: R).length := by omega
  obtain ⟨hF, hL, hc⟩ := hr
  have hcr := hc _ hK
  rw [zli_mid] at hcr
  have P := fun q hq => zmt_part (q := q) hm ⟨hF, hL, hc⟩ hK hq
  rw [zli_mid] at P
  obtain ⟨j', m1, e1, e2, h1, f1⟩ := r_note (k := 4) (f := c 1) (v := c 0) h hb (by omega) (by have := hcr.2.1; omega) (by have := hcr.1; omega)
  have g16 : m1.1 16 = nI (K ++ c :: R).length := (f1.1 16 (by decide)).trans hm.1
  obtain ⟨a, e3, h3, h4⟩ := mo_endsAt_lp (n := K.length + R.length) (l1 := nI K.length) (by omega) R.length K.length zFu (upd m1.1 16 (m1.1 16 - 1), m1.2) rfl (z_fu (by omega)) (by
    show m1.1 16 - 1 = _
    rw [g16, hlen]
    exact nI_pred _)
  refine ⟨j', (upd m1.1 16 (m1.1 16 - 1), a), e1, ?_, ?_, ⟨?_, fun i hi => ?_⟩, fun i a b => ?_, fun i a b => ?_⟩
  · unfold k_Mo_endsAt
    rw [z_1, z_0, P 1 (by omega), Option.bind_some, P 0 (by omega), Option.bind_some, z_4, e2, Option.bind_some]
    exact e3
  · show zRJ (b + 1) j' (m1.1 14) (a 13)
    rw [h3 13 (by decide)]
    exact h1
  · show m1.1 16 - 1 = _
    rw [g16, hlen, hlen2]
    exact nI_pred _
  · show a 15 i = _
    rw [h4 i]
    show (if K.length ≤ i ∧ i < K.length + R.length then m1.2 15 (i + 1) else m1.2 15 i) = _
    rw [f1.2 15 (by decide), zli_app]
    by_cases hiK : i < K.length
    · rw [if_neg (by omega), if_pos hiK, hm.2 i (by omega), zli_app, if_pos hiK]
    · rw [if_pos (by omega), if_neg hiK, hm.2 (i + 1) (by omega), zli_app, if_neg (by omega), show i + 1 - K.length = (i - K.length) + 1 by omega, zli_cS]
  · exact (zu_n b).trans (f1.1 i a)
  · exact (h3 i b).trans (f1.2 i a)
