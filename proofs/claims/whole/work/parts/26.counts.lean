def zcp (e f : Nat) (c : zCd) : Bool := decide (c 4 = e ∧ c (if e = 0 then 1 else 2) = f)
def zdec (e f : Nat) : zCd → zCd := zgm (zcp e f) fun c => c 5 - 1
theorem zdec_ky (e f : Nat) (c : zCd) : zky (zdec e f c) = zky c := by
  unfold zky zdec
  rw [zgm_n (by decide), zgm_n (by decide), zgm_n (by decide)]
theorem zdec_cr {e f F : Nat} {c : zCd} (h : zCR F c) : zCR F (zdec e f c) := by
  obtain ⟨c0, c1, c2, c3, c4, c5⟩ := h
  unfold zdec
  refine ⟨?_, ?_, ?_, ?_, ?_, ?_⟩
  · rw [zgm_n (by decide)]; exact c0
  · rw [zgm_n (by decide)]; exact c1
  · rw [zgm_n (by decide)]; exact c2
  · rw [zgm_n (by decide)]; exact c3
  · rw [zgm_n (by decide)]; exact c4
  · cases hp : zcp e f c with
    | true => rw [zgm_5 hp]; omega
    | false => rw [zgm_f hp]; exact c5
theorem zdec_pk {e f : Nat} {c : zCd} (h0 : 0 < c 5) : zpk (zdec e f c) = if zcp e f c then zpk c - 1 else zpk c := by
  unfold zdec
  cases hp : zcp e f c with
  | true =>
    unfold zpk
    rw [zgm_n (by decide), zgm_n (by decide), zgm_n (by decide), zgm_n (by decide), zgm_n (by decide), zgm_5 hp, if_pos rfl]
    omega
  | false =>
    rw [zgm_f hp]
    rfl
theorem zdec_gd {e f F : Nat} {L : List zCd} (h : zGd F L) : zGd F ((L.map (zdec e f)).filter fun c => !decide (c 5 = 0)) := by
  obtain ⟨h1, h2, h3, h4⟩ := h
  refine ⟨h1, Nat.le_trans (List.length_filter_le _ _) (by simpa using h2), fun c hc => ?_, ?_⟩
  · obtain ⟨g1, g2⟩ := List.mem_filter.1 hc
    obtain ⟨c', g3, rfl⟩ := List.mem_map.1 g1
    refine ⟨zdec_cr (h3 c' g3).1, ?_⟩
    have : zdec e f c' 5 ≠ 0 := by simpa using g2
    omega
  · refine List.Pairwise.filter _ (List.pairwise_map.2 ?_)
    simpa only [zdec_ky] using h4
theorem r_counts_lp {e f F : Nat} {L : List zCd} (he : e < 2) (hf : f < 8) (hr : zLR F L) (hp : ∀ i, i < L.length → 0 < zli L i 5) : ∀ (d i fu : Nat) (m : zsM), i + d = L.length → d < fu → m.1 16 = nI L.length → (∀ k, k < i → m.2 15 k = nI (zpk (zdec e f (zli L k)))) → (∀ k, i ≤ k → k < L.length → m.2 15 k = nI (zpk (zli L k))) → ∃ a, k_Mo_counts_2 (nI f) (nI e) fu (nI i) m = k_Mo_counts_59 (nI f) (nI e) zFu 0 (m.1, a) ∧ (∀ q, q ≠ 15 → a q = m.2 q) ∧ ∀ k, k < L.length → a 15 k = nI (zpk (zdec e f (zli L k))) := by
  have hL := hr.2.1
  intro d
  induction d with
  | zero =>
    intro i fu m hi hfu hm h1 h2
    obtain ⟨fu, rfl, -⟩ := z_fuS hfu
    refine ⟨m.2, ?_, fun _ _ => rfl, fun k hk => h1 k (by omega)⟩
    simp only [k_Mo_counts_2, hm]
    rw [if_neg (nI_nlt (by omega) (by omega))]
  | succ d ih =>
    intro i fu m hi hfu hm h1 h2
    obtain ⟨fu, rfl, hfu'⟩ := z_fuS hfu
    have hi' : i < L.length := by omega
    obtain ⟨c0, c1, c2, c3, c4, c5⟩ := hr.2.2 i hi'
    have hF := hr.1
    have hcp : zli L i (if e = 0 then 1 else 2) < 8 := by split <;> omega
    have P : ∀ q, q < 6 → k_Mo_partOf m (nI i) (nI q) = some (nI (zli L i q)) := fun q hq => by
      have hx : zMT ((m.1, va_up m.2 15 (fun k => nI (zpk (zli L k)))).1 16) ((m.1, va_up m.2 15 (fun k => nI (zpk (zli L k)))).2 15) L := ⟨hm, fun k _ => rfl⟩
      have g := zmt_part (q := q) hx hr hi' hq
      have hz : ¬ zOut (nI i) 384 := zo_in (by omega) (by omega)
      unfold k_Mo_partOf at g ⊢
      rw [if_neg hz, nI_clamp (by omega)] at g ⊢
      dsimp only at g
      rw [zup_s] at g
      rw [h2 i (Nat.le_refl _) hi']
      exact g
    have e0 : k_Mo_counts_2 (nI f) (nI e) (fu + 1) (nI i) m = k_Mo_counts_2 (nI f) (nI e) fu (nI (i + 1)) (m.1, if zcp e f (zli L i) then va_up m.2 15 (upd (m.2 15) i (nI (zpk (zli L i) - 1))) else m.2) := by
      simp only [k_Mo_counts_2, hm, if_pos (nI_lt hi' (show L.length < 2 ^ 31 by omega)), z_4, z_1, z_2, P 4 (by omega), Option.bind_some, nI_eq (show zli L i 4 < 2 ^ 31 by omega) (show e < 2 ^ 31 by omega), nI_add, k_Mo_counts_31, if_neg (zo_in (show i < 384 by omega) (by omega)), nI_clamp (show i < 2 ^ 31 by omega), h2 i (Nat.le_refl _) hi']
      have hpk : 0 < zpk (zli L i) := by
        have := hp i hi'
        unfold zpk
        omega
      have hsub : nI (zpk (zli L i)) - nI 1 = nI (zpk (zli L i) - 1) := pk_sub (by omega)
      by_cases a4 : zli L i 4 = e
      · rw [if_pos a4]
        by_cases ae : e = 0
        · subst ae
          rw [if_pos (show nI 0 = 0 from rfl), P 1 (by omega), Option.bind_some, hsub]
          by_cases a1 : zli L i 1 = f
          · rw [if_pos (by rw [a1]), if_pos (by simp [zcp, a4, a1])]
          · rw [if_neg (fun h => a1 ((nI_eq (by omega) (by omega)).1 h)), if_neg (by simp [zcp, a1])]
        · rw [if_neg (nI_ne0 (by omega) (by omega)), P 2 (by omega), Option.bind_some, hsub]
          by_cases a1 : zli L i 2 = f
          · rw [if_pos (by rw [a1]), if_pos (by simp [zcp, a4, a1, ae])]
          · rw [if_neg (fun h => a1 ((nI_eq (by omega) (by omega)).1 h)), if_neg (by simp [zcp, a1, ae])]
      · rw [if_neg a4, if_neg (by simp [zcp, a4])]
    obtain ⟨a, e1, h3, h4⟩ := ih (i + 1) fu (m.1, if zcp e f (zli L i) then va_up m.2 15 (upd (m.2 15) i (nI (zpk (zli L i) - 1))) else m.2) (by omega) (by omega) hm (fun k hk => by
      by_cases hki : k = i
      · subst hki
        rw [zdec_pk (hp k hi')]
        dsimp only
        split
        · rw [zup_s, zu_s]
        · exact h2 k (Nat.le_refl _) hi'
      · rw [← h1 k (by omega)]
        dsimp only
        split
        · rw [zup_s, zu_n hki]
        · rfl) (fun k hk hk2 => by
      rw [← h2 k (by omega) hk2]
      dsimp only
      split
      · rw [zup_s, zu_n (by omega)]
      · rfl)
    refine ⟨a, e0.trans e1, fun q hq => ?_, h4⟩
    rw [h3 q hq]
    dsimp only
    split
    · exact zup_n hq
    · rfl
