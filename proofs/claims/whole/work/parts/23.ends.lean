def zFrC (m m' : zsM) : Prop := (∀ i, i ≠ 14 → i ≠ 16 → m'.1 i = m.1 i) ∧ ∀ i, i ≠ 13 → i ≠ 15 → m'.2 i = m.2 i
theorem zFrC_rfl (m : zsM) : zFrC m m := ⟨fun _ _ _ => rfl, fun _ _ _ => rfl⟩
theorem zFrC_tr {m m' m'' : zsM} (h : zFrC m m') (h' : zFrC m' m'') : zFrC m m'' := ⟨fun i a b => (h'.1 i a b).trans (h.1 i a b), fun i a b => (h'.2 i a b).trans (h.2 i a b)⟩
theorem zFrC_j {m m' : zsM} (h : zFrJ m m') : zFrC m m' := ⟨fun i a _ => h.1 i a, fun i a _ => h.2 i a⟩
theorem zli_app : ∀ (A B : List zCd) (i : Nat), zli (A ++ B) i = if i < A.length then zli A i else zli B (i - A.length)
  | [], B, i => by
    rw [if_neg (by simp)]
    rfl
  | a :: A, B, 0 => by
    rw [if_pos (by simp)]
    rfl
  | a :: A, B, i + 1 => by
    have h := zli_app A B i
    show zli (A ++ B) i = _
    rw [h]
    by_cases h : i < A.length
    · rw [if_pos h, if_pos (by simp only [List.length_cons]; omega)]
      rfl
    · rw [if_neg h, if_neg (by simp only [List.length_cons]; omega), List.length_cons, Nat.add_sub_add_right]
theorem zli_c0 (c : zCd) (R : List zCd) : zli (c :: R) 0 = c := rfl
theorem zli_cS (c : zCd) (R : List zCd) (i : Nat) : zli (c :: R) (i + 1) = zli R i := rfl
theorem zli_mid (K R : List zCd) (c : zCd) : zli (K ++ c :: R) K.length = c := by
  rw [zli_app, if_neg (by omega), Nat.sub_self, zli_c0]
theorem mo_endsAt_lp {n : Nat} {l1 : Int32} (hn : n < 384) : ∀ (d i fu : Nat) (m : zsM), i + d = n → d < fu → m.1 16 = nI n → ∃ a, k_Mo_endsAt_29 l1 fu (nI i) m = some (l1 - 1, (m.1, a)) ∧ (∀ q, q ≠ 15 → a q = m.2 q) ∧ ∀ k, a 15 k = if i ≤ k ∧ k < n then m.2 15 (k + 1) else m.2 15 k := by
  intro d
  induction d with
  | zero =>
    intro i fu m hi hf hm
    obtain ⟨fu, rfl, -⟩ := z_fuS hf
    refine ⟨m.2, ?_, fun _ _ => rfl, fun k => ?_⟩
    · simp only [k_Mo_endsAt_29, hm]
      rw [if_neg (nI_nlt (by omega) (by omega))]
    · rw [if_neg (by omega)]
  | succ d ih =>
    intro i fu m hi hf hm
    obtain ⟨fu, rfl, hf'⟩ := z_fuS hf
    obtain ⟨a, e, h1, h2⟩ := ih (i + 1) fu (m.1, va_up m.2 15 (upd (m.2 15) i (m.2 15 (i + 1)))) (by omega) (by omega) hm
    refine ⟨a, ?_, fun q hq => (h1 q hq).trans (zup_n hq), fun k => ?_⟩
    · simp only [k_Mo_endsAt_29, hm, z_1, nI_add]
      rw [if_pos (nI_lt (by omega) (by omega)), if_neg (zo_in (by omega) (by omega)), if_neg (zo_in (by omega) (by omega)), nI_clamp (by omega), nI_clamp (by omega)]
      exact e
    · rw [h2 k]
      dsimp only
      rw [zup_s]
      by_cases hk : k = i
      · subst hk
        rw [if_neg (by omega), if_pos (by omega), zu_s]
      · rw [zu_n hk]
        by_cases hk2 : i + 1 ≤ k ∧ k < n
        · rw [if_pos hk2, if_pos (by omega), zu_n (by omega)]
        · rw [if_neg hk2, if_neg (by omega)]
theorem r_endsAt {b F : Nat} {j : zsT} {m : zsM} {K R : List zCd} {c : zCd} (h : zRJ b j (m.1 14) (m.2 13)) (hb : b < 2 ^ 27) (hm : zMT (m.1 16) (m.2 15) (K ++ c :: R)) (hr : zLR F (K ++ c :: R)) : ∃ j' m', k_Jo_write j 4 (nI (c 1)) (nI (c 0)) = some j' ∧ k_Mo_endsAt m (nI K.length) = some (nI K.length - 1, m') ∧ zRJ (b + 1) j' (m'.1 14) (m'.2 13) ∧ zMT (m'.1 16) (m'.2 15) (K ++ R) ∧ zFrC m m' := by
  have hlen : (K ++ c :: R).length = K.length + R.length + 1 := by simp; omega
  have hlen2 : (K ++ R).length = K.length + R.length := by simp
  have hK : K.length < (K ++ c :: R).length := by omega
  obtain ⟨hF, hL, hc⟩ := hr
  have hcr := hc _ hK
  rw [zli_mid] at hcr
  have P := fun q hq => zmt_part (q := q) hm ⟨hF, hL, hc⟩ hK hq
  rw [zli_mid] at P
  obtain ⟨j', m1, e1, e2, h1, f1⟩ := r_note (k := 4) (f := c 1) (v := c 0) h hb (by omega) (by have := hcr.2.1; omega) (by have := hcr.1; omega)
  have g16 : m1.1 16 = nI (K ++ c :: R).length := (f1.1 16 (by decide)).trans hm.1
  obtain ⟨a, e3, h3, h4⟩ := mo_endsAt_lp (n := K.length + R.length) (l1 := nI K.length) (by omega) R.length K.length zFu (upd m1.1 16 (m1.1 16 - 1), m1.2) rfl (z_fu (by omega)) (by
    show m1.1 16 - 1 = _
    rw [g16, hlen]
    exact nI_pred _)
  refine ⟨j', (upd m1.1 16 (m1.1 16 - 1), a), e1, ?_, ?_, ⟨?_, fun i hi => ?_⟩, fun i a b => ?_, fun i a b => ?_⟩
  · unfold k_Mo_endsAt
    rw [z_1, z_0, P 1 (by omega), Option.bind_some, P 0 (by omega), Option.bind_some, z_4, e2, Option.bind_some]
    exact e3
  · show zRJ (b + 1) j' (m1.1 14) (a 13)
    rw [h3 13 (by decide)]
    exact h1
  · show m1.1 16 - 1 = _
    rw [g16, hlen, hlen2]
    exact nI_pred _
  · show a 15 i = _
    rw [h4 i]
    show (if K.length ≤ i ∧ i < K.length + R.length then m1.2 15 (i + 1) else m1.2 15 i) = _
    rw [f1.2 15 (by decide), zli_app]
    by_cases hiK : i < K.length
    · rw [if_neg (by omega), if_pos hiK, hm.2 i (by omega), zli_app, if_pos hiK]
    · rw [if_pos (by omega), if_neg hiK, hm.2 (i + 1) (by omega), zli_app, if_neg (by omega), show i + 1 - K.length = (i - K.length) + 1 by omega, zli_cS]
  · exact (zu_n b).trans (f1.1 i a)
  · exact (h3 i b).trans (f1.2 i a)
theorem zLR_tail {F : Nat} {K R : List zCd} {c : zCd} (h : zLR F (K ++ c :: R)) : zLR F (K ++ R) := by
  obtain ⟨hF, hL, hc⟩ := h
  have hlen : (K ++ c :: R).length = K.length + R.length + 1 := by simp; omega
  have hlen2 : (K ++ R).length = K.length + R.length := by simp
  refine ⟨hF, by omega, fun i hi => ?_⟩
  rw [zli_app]
  by_cases hk : i < K.length
  · have g := hc i (by omega)
    rw [zli_app, if_pos hk] at g
    rwa [if_pos hk]
  · have g := hc (i + 1) (by omega)
    rw [zli_app, if_neg (by omega), show i + 1 - K.length = (i - K.length) + 1 by omega, zli_cS] at g
    rwa [if_neg hk]
theorem r_ends {α : Type} {F : Nat} {p : Nat → Int32} {m0 : zsM} (lp : Nat → Int32 → zsM → Option α) (G : zsM → Option α) (pr : zCd → Bool) (Q : zCd → Prop) (g : zCd → zCd)
    (H1 : ∀ fu m n, n ≤ 384 → zFrC m0 m → m.1 16 = nI n → lp (fu + 1) (nI n) m = G m)
    (H2 : ∀ fu m K c R, zFrC m0 m → zMT (m.1 16) (m.2 15) (K ++ c :: R) → zLR F (K ++ c :: R) → pr c = true → lp (fu + 1) (nI K.length) m = (k_Mo_endsAt m (nI K.length)).bind fun o => lp fu (o.1 + 1) o.2)
    (H3 : ∀ fu m K c R, zFrC m0 m → zMT (m.1 16) (m.2 15) (K ++ c :: R) → zLR F (K ++ c :: R) → pr c = false → lp (fu + 1) (nI K.length) m = lp fu (nI (K.length + 1)) m)
    (hg1 : ∀ c, Q c → zCR F c → pr c = true → g c 5 = 0 ∧ g c 1 = c 1 ∧ g c 0 = c 0)
    (hg2 : ∀ c, Q c → zCR F c → pr c = false → c 5 ≠ 0 ∧ g c = c) :
    ∀ (R K : List zCd) (r fu fu' b : Nat) (j t : zsT) (m : zsM), zFrC m0 m → zRJ b j (m.1 14) (m.2 13) → b + R.length < 2 ^ 27 → zMT (m.1 16) (m.2 15) (K ++ R) → zLR F (K ++ R) → (∀ i, i < R.length → Q (zli R i)) → K.length ≤ r → r + R.length ≤ 384 → t.2 = nI (r + R.length) → (∀ i, i < K.length → ∀ q, q < 6 → t.1 (i * 6 + q) = nI (zli K i q)) → (∀ i, i < R.length → ∀ q, q < 6 → t.1 ((r + i) * 6 + q) = nI (g (zli R i) q)) → R.length < fu → R.length < fu' →
      ∃ j' t' m', k_Co_endCounted_4 fu (nI K.length) (nI r) (j, t, p) = some (j', t', p) ∧ lp fu' (nI K.length) m = G m' ∧ zFrC m0 m' ∧ zRJ (b + R.length) j' (m'.1 14) (m'.2 13) ∧ zCT t' (K ++ R.filter fun c => !pr c) ∧ zMT (m'.1 16) (m'.2 15) (K ++ R.filter fun c => !pr c) := by
  intro R
  induction R with
  | nil =>
    intro K r fu fu' b j t m hf hj hb hm hr hQ hKr hr2 ht hK hR h1 h2
    obtain ⟨fu, rfl, -⟩ := z_fuS h1
    obtain ⟨fu', rfl, -⟩ := z_fuS h2
    rw [List.length_nil, Nat.add_zero] at ht hr2
    rw [List.append_nil] at hm hr
    refine ⟨j, (t.1, nI K.length), m, ?_, H1 _ _ _ (by omega) hf hm.1, hf, hj, ?_, ?_⟩
    · simp only [k_Co_endCounted_4, k_Ta_used, Option.bind_some, ht]
      rw [if_neg (nI_nlt (by omega) (by omega)), ta_cut ht hKr (by omega)]
      rfl
    · rw [List.filter_nil, List.append_nil]
      exact ⟨rfl, hK⟩
    · rw [List.filter_nil, List.append_nil]
      exact hm
  | cons c R ih =>
    intro K r fu fu' b j t m hf hj hb hm hr hQ hKr hr2 ht hK hR h1 h2
    obtain ⟨fu, rfl, h1'⟩ := z_fuS h1
    obtain ⟨fu', rfl, h2'⟩ := z_fuS h2
    rw [List.length_cons] at ht hr2 hb h1' h2'
    have hlen : (K ++ c :: R).length = K.length + R.length + 1 := by simp; omega
    have hQc : Q c := hQ 0 (by simp)
    have hcr : zCR F c := by
      have g := hr.2.2 K.length (by omega)
      rwa [zli_mid] at g
    have hg : ∀ q, q < 6 → k_Ta_get 6 2304 t (nI r) (nI q) = some (nI (g c q)) := fun q hq => by
      have e := hR 0 (by simp) q hq
      rw [Nat.add_zero, zli_c0] at e
      rw [← e]
      exact ta_get (w := 6) ht (by omega) hq (by omega) (by omega)
    have hrl : nI r < t.2 := by
      rw [ht]
      exact nI_lt (by omega) (by omega)
    cases hp : pr c with
    | true =>
      obtain ⟨a5, a1, a0⟩ := hg1 c hQc hcr hp
      obtain ⟨j', m1, e1, e2, hj', hm', hf'⟩ := r_endsAt hj (by omega) hm hr
      obtain ⟨j2, t2, m2, e3, e4, r1, r2, r3, r4⟩ := ih K (r + 1) fu fu' (b + 1) j' t m1 (zFrC_tr hf hf') hj' (by omega) hm' (zLR_tail hr) (fun i hi => hQ (i + 1) (by simp; omega)) (by omega) (by omega) (by rw [ht]; congr 1; omega) hK (fun i hi q hq => by
        have e := hR (i + 1) (by simp; omega) q hq
        rw [zli_cS] at e
        rw [← e, show (r + 1 + i) * 6 + q = (r + (i + 1)) * 6 + q by omega]) (by omega) (by omega)
      refine ⟨j2, t2, m2, ?_, ?_, r1, ?_, ?_, ?_⟩
      · simp only [k_Co_endCounted_4, k_Ta_used, Option.bind_some]
        rw [if_pos hrl, z_5, hg 5 (by omega), Option.bind_some, a5, if_pos (show nI 0 = 0 from rfl), z_1, hg 1 (by omega), Option.bind_some, z_0, hg 0 (by omega), Option.bind_some, a1, a0, e1, Option.bind_some, nI_add]
        exact e3
      · rw [H2 fu' m K c R hf hm hr hp, e2, Option.bind_some, ← e4]
        show lp fu' (nI K.length - 1 + 1) m1 = _
        rw [Int32.sub_add_cancel]
      · rw [List.length_cons, show b + (R.length + 1) = b + 1 + R.length by omega]
        exact r2
      · rw [List.filter_cons, hp]
        exact r3
      · rw [List.filter_cons, hp]
        exact r4
    | false =>
      obtain ⟨a5, ag⟩ := hg2 c hQc hcr hp
      rw [ag] at hg
      obtain ⟨y, e1, y1, y2⟩ := ta_copyRow (w := 6) (n := 2304) (i := r) (j := K.length) ht (by omega) (by omega) (by omega) (by omega) (by omega)
      have hKc : (K ++ [c]).length = K.length + 1 := by simp
      have hKR : K ++ c :: R = (K ++ [c]) ++ R := by simp
      obtain ⟨j2, t2, m2, e3, e4, r1, r2, r3, r4⟩ := ih (K ++ [c]) (r + 1) fu fu' b j (y, t.2) m hf hj (by omega) (hKR ▸ hm) (hKR ▸ hr) (fun i hi => hQ (i + 1) (by simp; omega)) (by omega) (by omega) (by show t.2 = _; rw [ht]; congr 1; omega) (fun i hi q hq => by
        show y _ = _
        rw [zli_app]
        by_cases hi2 : i < K.length
        · rw [if_pos hi2, y2 _ (by omega), hK i hi2 q hq]
        · have : i = K.length := by omega
          subst this
          have e := hR 0 (by simp) q hq
          rw [Nat.add_zero, zli_c0, ag] at e
          rw [if_neg hi2, Nat.sub_self, zli_c0, y1 q hq, e]) (fun i hi q hq => by
        show y _ = _
        have e := hR (i + 1) (by simp; omega) q hq
        rw [zli_cS] at e
        rw [y2 _ (by omega), ← e, show (r + 1 + i) * 6 + q = (r + (i + 1)) * 6 + q by omega]) (by omega) (by omega)
      rw [hKc] at e3 e4
      refine ⟨j2, t2, m2, ?_, ?_, r1, ?_, ?_, ?_⟩
      · simp only [k_Co_endCounted_4, k_Ta_used, Option.bind_some]
        rw [if_pos hrl, z_5, hg 5 (by omega), Option.bind_some, if_neg (nI_ne0 (by omega) (by have := hcr.2.2.2.2.2; omega)), z_6, e1, Option.bind_some, z_1, nI_add, nI_add]
        exact e3
      · rw [H3 fu' m K c R hf hm hr hp]
        exact e4
      · rw [List.length_cons]
        exact zRJ_mono r2 (by omega)
      · rw [List.filter_cons, hp]
        simpa using r3
      · rw [List.filter_cons, hp]
        simpa using r4
