def zcp (e f : Nat) (c : zCd) : Bool := decide (c 4 = e ∧ c (if e = 0 then 1 else 2) = f)
def zdec (e f : Nat) : zCd → zCd := zgm (zcp e f) fun c => c 5 - 1
theorem zdec_ky (e f : Nat) (c : zCd) : zky (zdec e f c) = zky c := by
  unfold zky zdec
  rw [zgm_n (by decide), zgm_n (by decide), zgm_n (by decide)]
theorem zdec_cr {e f F : Nat} {c : zCd} (h : zCR F c) : zCR F (zdec e f c) := by
  obtain ⟨c0, c1, c2, c3, c4, c5⟩ := h
  unfold zdec
  refine ⟨?_, ?_, ?_, ?_, ?_, ?_⟩
  · rw [zgm_n (by decide)]; exact c0
  · rw [zgm_n (by decide)]; exact c1
  · rw [zgm_n (by decide)]; exact c2
  · rw [zgm_n (by decide)]; exact c3
  · rw [zgm_n (by decide)]; exact c4
  · cases hp : zcp e f c with
    | true => rw [zgm_5 hp]; omega
    | false => rw [zgm_f hp]; exact c5
theorem zdec_pk {e f : Nat} {c : zCd} (h0 : 0 < c 5) : zpk (zdec e f c) = if zcp e f c then zpk c - 1 else zpk c := by
  unfold zdec
  cases hp : zcp e f c with
  | true =>
    unfold zpk
    rw [zgm_n (by decide), zgm_n (by decide), zgm_n (by decide), zgm_n (by decide), zgm_n (by decide), zgm_5 hp, if_pos rfl]
    omega
  | false =>
    rw [zgm_f hp]
    rfl
theorem zdec_gd {e f F : Nat} {L : List zCd} (h : zGd F L) : zGd F ((L.map (zdec e f)).filter fun c => !decide (c 5 = 0)) := by
  obtain ⟨h1, h2, h3, h4⟩ := h
  refine ⟨h1, Nat.le_trans (List.length_filter_le _ _) (by simpa using h2), fun c hc => ?_, ?_⟩
  · obtain ⟨g1, g2⟩ := List.mem_filter.1 hc
    obtain ⟨c', g3, rfl⟩ := List.mem_map.1 g1
    refine ⟨zdec_cr (h3 c' g3).1, ?_⟩
    have : zdec e f c' 5 ≠ 0 := by simpa using g2
    omega
  · refine List.Pairwise.filter _ (List.pairwise_map.2 ?_)
    simpa only [zdec_ky] using h4
theorem r_counts_lp {e f F : Nat} {L : List zCd} (he : e < 2) (hf : f < 8) (hr : zLR F L) (hp : ∀ i, i < L.length → 0 < zli L i 5) : ∀ (d i fu : Nat) (m : zsM), i + d = L.length → d < fu → m.1 16 = nI L.length → (∀ k, k < i → m.2 15 k = nI (zpk (zdec e f (zli L k)))) → (∀ k, i ≤ k → k < L.length → m.2 15 k = nI (zpk (zli L k))) → ∃ a, k_Mo_counts_2 (nI f) (nI e) fu (nI i) m = k_Mo_counts_59 (nI f) (nI e) zFu 0 (m.1, a) ∧ (∀ q, q ≠ 15 → a q = m.2 q) ∧ ∀ k, k < L.length → a 15 k = nI (zpk (zdec e f (zli L k))) := by
  have hL := hr.2.1
  intro d
  induction d with
  | zero =>
    intro i fu m hi hfu hm h1 h2
    obtain ⟨fu, rfl, -⟩ := z_fuS hfu
    refine ⟨m.2, ?_, fun _ _ => rfl, fun k hk => h1 k (by omega)⟩
    simp only [k_Mo_counts_2, hm]
    rw [if_neg (nI_nlt (by omega) (by omega))]
  | succ d ih =>
    intro i fu m hi hfu hm h1 h2
    obtain ⟨fu, rfl, hfu'⟩ := z_fuS hfu
    have hi' : i < L.length := by omega
    obtain ⟨c0, c1, c2, c3, c4, c5⟩ := hr.2.2 i hi'
    have hF := hr.1
    have hcp : zli L i (if e = 0 then 1 else 2) < 8 := by split <;> omega
    have P : ∀ q, q < 6 → k_Mo_partOf m (nI i) (nI q) = some (nI (zli L i q)) := fun q hq => by
      have hx : zMT ((m.1, va_up m.2 15 (fun k => nI (zpk (zli L k)))).1 16) ((m.1, va_up m.2 15 (fun k => nI (zpk (zli L k)))).2 15) L := ⟨hm, fun k _ => rfl⟩
      have g := zmt_part (q := q) hx hr hi' hq
      have hz : ¬ zOut (nI i) 384 := zo_in (by omega) (by omega)
      unfold k_Mo_partOf at g ⊢
      rw [if_neg hz, nI_clamp (by omega)] at g ⊢
      dsimp only at g
      rw [zup_s] at g
      rw [h2 i (Nat.le_refl _) hi']
      exact g
    have e0 : k_Mo_counts_2 (nI f) (nI e) (fu + 1) (nI i) m = k_Mo_counts_2 (nI f) (nI e) fu (nI (i + 1)) (m.1, if zcp e f (zli L i) then va_up m.2 15 (upd (m.2 15) i (nI (zpk (zli L i) - 1))) else m.2) := by
      simp only [k_Mo_counts_2, hm, if_pos (nI_lt hi' (show L.length < 2 ^ 31 by omega)), z_4, z_1, z_2, P 4 (by omega), Option.bind_some, nI_eq (show zli L i 4 < 2 ^ 31 by omega) (show e < 2 ^ 31 by omega), nI_add, k_Mo_counts_31, if_neg (zo_in (show i < 384 by omega) (by omega)), nI_clamp (show i < 2 ^ 31 by omega), h2 i (Nat.le_refl _) hi']
      have hpk : 0 < zpk (zli L i) := by
        have := hp i hi'
        unfold zpk
        omega
      have hsub : nI (zpk (zli L i)) - nI 1 = nI (zpk (zli L i) - 1) := pk_sub (by omega)
      by_cases a4 : zli L i 4 = e
      · rw [if_pos a4]
        by_cases ae : e = 0
        · subst ae
          rw [if_pos (show nI 0 = 0 from rfl), P 1 (by omega), Option.bind_some, hsub]
          by_cases a1 : zli L i 1 = f
          · rw [if_pos (by rw [a1]), if_pos (by simp [zcp, a4, a1])]
          · rw [if_neg (fun h => a1 ((nI_eq (by omega) (by omega)).1 h)), if_neg (by simp [zcp, a1])]
        · rw [if_neg (nI_ne0 (by omega) (by omega)), P 2 (by omega), Option.bind_some, hsub]
          by_cases a1 : zli L i 2 = f
          · rw [if_pos (by rw [a1]), if_pos (by simp [zcp, a4, a1, ae])]
          · rw [if_neg (fun h => a1 ((nI_eq (by omega) (by omega)).1 h)), if_neg (by simp [zcp, a1, ae])]
      · rw [if_neg a4, if_neg (by simp [zcp, a4])]
    obtain ⟨a, e1, h3, h4⟩ := ih (i + 1) fu (m.1, if zcp e f (zli L i) then va_up m.2 15 (upd (m.2 15) i (nI (zpk (zli L i) - 1))) else m.2) (by omega) (by omega) hm (fun k hk => by
      by_cases hki : k = i
      · subst hki
        rw [zdec_pk (hp k hi')]
        dsimp only
        split
        · rw [zup_s, zu_s]
        · exact h2 k (Nat.le_refl _) hi'
      · rw [← h1 k (by omega)]
        dsimp only
        split
        · rw [zup_s, zu_n hki]
        · rfl) (fun k hk hk2 => by
      rw [← h2 k (by omega) hk2]
      dsimp only
      split
      · rw [zup_s, zu_n (by omega)]
      · rfl)
    refine ⟨a, e0.trans e1, fun q hq => ?_, h4⟩
    rw [h3 q hq]
    dsimp only
    split
    · exact zup_n hq
    · rfl
theorem r_counts {e f F b : Nat} {j t : zsT} {p : Nat → Int32} {m : zsM} (he : e < 2) (hf : f < 8) (h : zRJ b j (m.1 14) (m.2 13)) (hb : b + 384 < 2 ^ 27) (hc : zRC F t (m.1 16) (m.2 15)) (lc : Nat → Int32 → zsC → Option zsC)
    (M1 : ∀ fu (j t : zsT) p n, t.2 = nI n → lc (fu + 1) (nI n) (j, t, p) = k_Co_endCounted (j, t, p))
    (M2 : ∀ fu i n (j t : zsT) p c, n ≤ 384 → i < n → t.2 = nI n → (∀ q, q < 6 → c q < 10) → 0 < c 5 → (∀ q, q < 6 → k_Ta_get 6 2304 t (nI i) (nI q) = some (nI (c q))) → (∀ x, k_Ta_set 6 2304 t (nI i) (nI 5) x = some (upd t.1 (i * 6 + 5) x, t.2)) → lc (fu + 1) (nI i) (j, t, p) = lc fu (nI (i + 1)) (j, (if zcp e f c then upd t.1 (i * 6 + 5) (nI (c 5 - 1)) else t.1, t.2), p)) :
    ∃ j' t' m', lc zFu 0 (j, t, p) = some (j', t', p) ∧ k_Mo_counts m (nI f) (nI e) = some m' ∧ zFrC m m' ∧ zRJ (b + 384) j' (m'.1 14) (m'.2 13) ∧ zRC F t' (m'.1 16) (m'.2 15) := by
  obtain ⟨L, ht, hm, hg⟩ := hc
  have hr := zGd_lr hg
  have hL := hr.2.1
  have hF := hr.1
  have hpos : ∀ i, i < L.length → 0 < zli L i 5 := fun i hi => (hg.2.2.1 _ (zli_mem L i hi)).2
  obtain ⟨a, e1, h1⟩ := r_mark (j := j) (p := p) lc (zcp e f) (fun c => c 5 - 1) (fun c => 0 < c 5) rfl hr hpos (fun fu t ht => M1 fu j t p _ ht) (fun fu i t c a1 a2 a3 a6 a4 a5 => M2 fu i _ j t p c hL a1 a2 (fun q hq => by
    obtain ⟨c0, c1, c2, c3, c4, c5⟩ := a3
    have : q = 0 ∨ q = 1 ∨ q = 2 ∨ q = 3 ∨ q = 4 ∨ q = 5 := by omega
    rcases this with rfl | rfl | rfl | rfl | rfl | rfl <;> omega) a6 a4 a5) L.length 0 zFu t (by omega) (z_fu (by omega)) ht.1 (fun k hk => by omega) (fun k _ hk q hq => ht.2 k hk q hq)
  obtain ⟨a2, e2, h2, h3⟩ := r_counts_lp he hf hr hpos L.length 0 zFu m (by omega) (z_fu (by omega)) hm.1 (fun k hk => by omega) (fun k _ hk => hm.2 k hk)
  have hlen : (L.map (zdec e f)).length = L.length := by simp
  have hfr : zFrC m (m.1, a2) := ⟨fun _ _ _ => rfl, fun i _ hi => h2 i hi⟩
  have hm1 : zMT ((m.1, a2).1 16) ((m.1, a2).2 15) ([] ++ L.map (zdec e f)) := ⟨by rw [List.nil_append, hlen]; exact hm.1, fun i hi => by
    rw [List.nil_append] at hi ⊢
    rw [zli_map _ _ _ (by omega)]
    exact h3 i (by omega)⟩
  have hr1 : zLR F ([] ++ L.map (zdec e f)) := ⟨hr.1, by rw [List.nil_append, hlen]; exact hL, fun i hi => by
    rw [List.nil_append] at hi ⊢
    rw [zli_map _ _ _ (by omega)]
    exact zdec_cr (hr.2.2 i (by omega))⟩
  have hj1 : zRJ b j ((m.1, a2).1 14) ((m.1, a2).2 13) := by
    show zRJ b j (m.1 14) (a2 13)
    rw [h2 13 (by decide)]
    exact h
  have hmid : ∀ (m' : zsM) K c R, zMT (m'.1 16) (m'.2 15) (K ++ c :: R) → zLR F (K ++ c :: R) → nI K.length < m'.1 16 ∧ c 5 < 10 ∧ k_Mo_partOf m' (nI K.length) (nI 5) = some (nI (c 5)) := fun m' K c R g1 g2 => by
    have hlen : (K ++ c :: R).length = K.length + R.length + 1 := by simp; omega
    have := g2.2.1
    have g3 := g2.2.2 K.length (by omega)
    rw [zli_mid] at g3
    refine ⟨?_, g3.2.2.2.2.2, ?_⟩
    · rw [g1.1]
      exact nI_lt (by omega) (by omega)
    · have g4 := zmt_part (q := 5) g1 g2 (i := K.length) (by omega) (by omega)
      rwa [zli_mid] at g4
  obtain ⟨j', t', m', e3, e4, r1, r2, r3, r4⟩ := r_ends (F := F) (p := p) (m0 := m) (fun fu x m => k_Mo_counts_59 (nI f) (nI e) fu x m) (fun m => some m) (fun c => decide (c 5 = 0)) (fun _ => True) id (fun fu m' n hn _ hm => by
    simp only [k_Mo_counts_59, hm]
    rw [if_neg (by simp)]) (fun fu m' K c R g1 g2 g3 g4 => by
    obtain ⟨k1, k2, k3⟩ := hmid m' K c R g2 g3
    have g5 : c 5 = 0 := by simpa using g4
    simp only [k_Mo_counts_59, if_pos k1, z_5, k3, Option.bind_some, g5, if_pos (show nI 0 = 0 from rfl)]) (fun fu m' K c R g1 g2 g3 g4 => by
    obtain ⟨k1, k2, k3⟩ := hmid m' K c R g2 g3
    have g5 : c 5 ≠ 0 := by simpa using g4
    simp only [k_Mo_counts_59, if_pos k1, z_5, k3, Option.bind_some, if_neg (nI_ne0 (n := c 5) (by omega) (by omega)), nI_1]) (fun c _ _ g1 => ⟨by simpa using g1, rfl, rfl⟩) (fun c _ _ g2 => ⟨by simpa using g2, rfl⟩) (L.map (zdec e f)) [] 0 zFu zFu b j (a, nI L.length) (m.1, a2) hfr hj1 (by omega) hm1 hr1 (fun _ _ => trivial) (Nat.le_refl _) (by omega) (by show nI _ = nI _; rw [Nat.zero_add, hlen]) (fun i hi => by simp at hi) (fun i hi q hq => by
      rw [Nat.zero_add, zli_map _ _ _ (by omega)]
      exact h1 i (by omega) q hq) (z_fu (by omega)) (z_fu (by omega))
  refine ⟨j', t', m', e1.trans e3, e2.trans e4, r1, zRJ_mono r2 (by omega), _, r3, r4, zdec_gd hg⟩
theorem r_turnEnd {f F b : Nat} {j t : zsT} {p : Nat → Int32} {m : zsM} (hf : f < 8) (h : zRJ b j (m.1 14) (m.2 13)) (hb : b + 384 < 2 ^ 27) (hc : zRC F t (m.1 16) (m.2 15)) : ∃ j' t' m', k_Co_countTurnEnd (j, t, p) (nI f) = some (j', t', p) ∧ k_Mo_counts m (nI f) 0 = some m' ∧ zFrC m m' ∧ zRJ (b + 384) j' (m'.1 14) (m'.2 13) ∧ zRC F t' (m'.1 16) (m'.2 15) := by
  refine r_counts (e := 0) (by omega) hf h hb hc (k_Co_countTurnEnd_2 (nI f)) ?_ ?_
  · intro fu j t p n ht
    simp only [k_Co_countTurnEnd_2, k_Ta_used, Option.bind_some, ht, zbs]
    rw [if_neg (by simp)]
  · intro fu i n j t p c hn hi ht hcr h5 hg hs
    obtain ⟨t, tn⟩ := t
    obtain rfl : tn = nI n := ht
    have q1 := hcr 1 (by omega)
    have q4 := hcr 4 (by omega)
    simp only [k_Co_countTurnEnd_2, k_Ta_used, Option.bind_some, if_pos (nI_lt hi (show n < 2 ^ 31 by omega)), z_1, z_4, z_5, z_0, hg 1 (by omega), hg 4 (by omega), hg 5 (by omega), hs, nI_add, nI_eq (show c 1 < 2 ^ 31 by omega) (show f < 2 ^ 31 by omega), nI_eq (show c 4 < 2 ^ 31 by omega) (show 0 < 2 ^ 31 by omega), pk_sub h5, zcp]
    by_cases a1 : c 1 = f <;> by_cases a4 : c 4 = 0 <;> simp [a1, a4]
theorem r_sourceTurn {f F b : Nat} {j t : zsT} {p : Nat → Int32} {m : zsM} (hf : f < 8) (h : zRJ b j (m.1 14) (m.2 13)) (hb : b + 384 < 2 ^ 27) (hc : zRC F t (m.1 16) (m.2 15)) : ∃ j' t' m', k_Co_countSourceTurn (j, t, p) (nI f) = some (j', t', p) ∧ k_Mo_counts m (nI f) 1 = some m' ∧ zFrC m m' ∧ zRJ (b + 384) j' (m'.1 14) (m'.2 13) ∧ zRC F t' (m'.1 16) (m'.2 15) := by
  refine r_counts (e := 1) (by omega) hf h hb hc (k_Co_countSourceTurn_2 (nI f)) ?_ ?_
  · intro fu j t p n ht
    simp only [k_Co_countSourceTurn_2, k_Ta_used, Option.bind_some, ht, zbs]
    rw [if_neg (by simp)]
  · intro fu i n j t p c hn hi ht hcr h5 hg hs
    obtain ⟨t, tn⟩ := t
    obtain rfl : tn = nI n := ht
    have q1 := hcr 2 (by omega)
    have q4 := hcr 4 (by omega)
    simp only [k_Co_countSourceTurn_2, k_Ta_used, Option.bind_some, if_pos (nI_lt hi (show n < 2 ^ 31 by omega)), z_1, z_2, z_4, z_5, z_0, hg 2 (by omega), hg 4 (by omega), hg 5 (by omega), hs, nI_add, nI_eq (show c 2 < 2 ^ 31 by omega) (show f < 2 ^ 31 by omega), nI_eq (show c 4 < 2 ^ 31 by omega) (show 1 < 2 ^ 31 by omega), pk_sub h5, zcp]
    by_cases a1 : c 2 = f <;> by_cases a4 : c 4 = 1 <;> simp [a1, a4]
