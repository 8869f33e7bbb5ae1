theorem zpig1 (n : Nat) : ∀ l : List Nat, l.Pairwise (fun a b => a ≠ b) → l.length ≤ (l.filter (fun x => decide (x ≠ n))).length + 1
  | [], _ => by simp
  | a :: l, h => by
    rw [List.pairwise_cons] at h
    by_cases ha : a = n
    · subst ha
      have e : l.filter (fun x => decide (x ≠ a)) = l := List.filter_eq_self.2 (fun x hx => by
        have := h.1 x hx
        simp only [decide_eq_true_eq]
        exact fun e => this e.symm)
      rw [List.filter_cons, if_neg (by simp), e, List.length_cons]
      omega
    · have g := zpig1 n l h.2
      rw [List.filter_cons, if_pos (by simpa using ha), List.length_cons, List.length_cons]
      omega
theorem zpig : ∀ (n : Nat) (l : List Nat), l.Pairwise (fun a b => a ≠ b) → (∀ x, x ∈ l → x < n) → l.length ≤ n
  | 0, [], _, _ => by simp
  | 0, a :: l, _, h => absurd (h a (by simp)) (by omega)
  | n + 1, l, h, hl => by
    have g := zpig1 n l h
    have g2 := zpig n (l.filter (fun x => decide (x ≠ n))) (h.filter _) (fun x hx => by
      obtain ⟨g3, g4⟩ := List.mem_filter.1 hx
      have := hl x g3
      simp only [decide_eq_true_eq] at g4
      omega)
    omega
theorem zpw : ∀ (L : List zCd), (L.Pairwise fun a b => zky a ≠ zky b) → ∀ i k, i < k → k < L.length → zky (zli L i) ≠ zky (zli L k)
  | [], _, i, k, _, hk => by simp at hk
  | c :: L, h, i, 0, hi, _ => by omega
  | c :: L, h, 0, k + 1, _, hk => (List.pairwise_cons.1 h).1 _ (zli_mem L k (by simpa using hk))
  | c :: L, h, i + 1, k + 1, hi, hk => zpw L (List.pairwise_cons.1 h).2 i k (by omega) (by simpa using hk)
theorem zky_lt {F : Nat} {c : zCd} (hF : F ≤ 8) (h : zCR F c) : zky c < 384 := by
  obtain ⟨c0, c1, c2, -, -, -⟩ := h
  unfold zky
  omega
def zmk (k f y v e n : Nat) (c : zCd) : zCd := fun q => if q = 0 then k else if q = 1 then f else if q = 2 then y else if q = 3 then max v (c 3) else if q = 4 then e else max n (c 5)
def zmg (k f y v e n : Nat) (c : zCd) : zCd := if c 0 = k ∧ c 1 = f ∧ c 2 = y then zmk k f y v e n c else c
theorem zmk_ky (k f y v e n : Nat) (c : zCd) : zky (zmk k f y v e n c) = (k * 8 + f) * 8 + y := rfl
theorem zmg_ky (k f y v e n : Nat) (c : zCd) : zky (zmg k f y v e n c) = zky c := by
  unfold zmg
  split
  · rename_i h
    rw [zmk_ky]
    unfold zky
    rw [h.1, h.2.1, h.2.2]
  · rfl
theorem zmk_cr {F k f y v e n : Nat} {c : zCd} (hk : k < 6) (hf : f < F) (hy : y < F) (hv : v < 10) (he : e < 4) (hn : n < 10) (h3 : c 3 < 10) (h5 : c 5 < 10) : zCR F (zmk k f y v e n c) := ⟨hk, hf, hy, by show max v (c 3) < 10; omega, he, by show max n (c 5) < 10; omega⟩
theorem zmg_gd {F k f y v e n : Nat} {L : List zCd} (h : zGd F L) (hk : k < 6) (hf : f < F) (hy : y < F) (hv : v < 10) (he : e < 4) (hn : n < 10) : zGd F (L.map (zmg k f y v e n)) := by
  obtain ⟨h1, h2, h3, h4⟩ := h
  refine ⟨h1, by simpa using h2, fun c hc => ?_, List.pairwise_map.2 (by simpa only [zmg_ky] using h4)⟩
  obtain ⟨c', g3, rfl⟩ := List.mem_map.1 hc
  obtain ⟨g4, g5⟩ := h3 c' g3
  unfold zmg
  split
  · refine ⟨zmk_cr hk hf hy hv he hn g4.2.2.2.1 g4.2.2.2.2.2, ?_⟩
    show 0 < max n (c' 5)
    omega
  · exact ⟨g4, g5⟩
theorem zap_gd {F k f y v e n : Nat} {L : List zCd} (h : zGd F L) (hk : k < 6) (hf : f < F) (hy : y < F) (hv : v < 10) (he : e < 4) (hn : n < 10) (hn0 : 0 < n) (hne : ∀ i, i < L.length → ¬ (zli L i 0 = k ∧ zli L i 1 = f ∧ zli L i 2 = y)) : L.length < 384 ∧ zGd F (L ++ [zmk k f y v e n fun _ => 0]) := by
  obtain ⟨h1, h2, h3, h4⟩ := h
  have hcr : zCR F (zmk k f y v e n fun _ => 0) := zmk_cr hk hf hy hv he hn (by omega) (by omega)
  have hpw : (L ++ [zmk k f y v e n fun _ => 0]).Pairwise fun a b => zky a ≠ zky b := by
    refine List.pairwise_append.2 ⟨h4, by simp, fun a ha b hb => ?_⟩
    rw [List.mem_singleton] at hb
    subst hb
    obtain ⟨i, hi, rfl⟩ : ∃ i, i < L.length ∧ zli L i = a := by
      clear h2 h3 h4 hne
      induction L with
      | nil => simp at ha
      | cons c L ih =>
        rcases List.mem_cons.1 ha with rfl | ha
        · exact ⟨0, by simp, rfl⟩
        · obtain ⟨i, g1, g2⟩ := ih ha
          exact ⟨i + 1, by simpa using g1, g2⟩
    have g := hne i hi
    have g2 := (h3 _ (zli_mem L i hi)).1
    obtain ⟨c0, c1, c2, -, -, -⟩ := g2
    rw [zmk_ky]
    unfold zky
    intro hh
    exact g ⟨by omega, by omega, by omega⟩
  have hlen : (L ++ [zmk k f y v e n fun _ => 0]).length = L.length + 1 := by simp
  have hall : ∀ c, c ∈ L ++ [zmk k f y v e n fun _ => 0] → zCR F c ∧ 0 < c 5 := fun c hc => by
    rcases List.mem_append.1 hc with hc | hc
    · exact h3 c hc
    · rw [List.mem_singleton] at hc
      subst hc
      exact ⟨hcr, by show 0 < max n 0; omega⟩
  have hl := zpig 384 ((L ++ [zmk k f y v e n fun _ => 0]).map zky) (List.pairwise_map.2 hpw) (fun x hx => by
    obtain ⟨c, g1, rfl⟩ := List.mem_map.1 hx
    exact zky_lt h1 (hall c g1).1)
  rw [List.length_map, hlen] at hl
  exact ⟨by omega, h1, by omega, hall, hpw⟩
