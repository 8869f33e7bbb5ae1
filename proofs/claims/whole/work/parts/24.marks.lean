def zgm (pr : zCd → Bool) (v : zCd → Nat) (c : zCd) : zCd := if pr c then (fun q => if q = 5 then v c else c q) else c
theorem zgm_5 {pr : zCd → Bool} {v : zCd → Nat} {c : zCd} (h : pr c = true) : zgm pr v c 5 = v c := by
  unfold zgm
  rw [if_pos h, if_pos rfl]
theorem zgm_n {pr : zCd → Bool} {v : zCd → Nat} {c : zCd} {q : Nat} (h : q ≠ 5) : zgm pr v c q = c q := by
  unfold zgm
  split
  · exact if_neg h
  · rfl
theorem zgm_f {pr : zCd → Bool} {v : zCd → Nat} {c : zCd} (h : pr c = false) : zgm pr v c = c := by
  unfold zgm
  rw [h]
  rfl
theorem r_mark {n : Nat} {j : zsT} {p : Nat → Int32} {L : List zCd} {F : Nat} (lp : Nat → Int32 → zsC → Option zsC) (pr : zCd → Bool) (v : zCd → Nat) (Q : zCd → Prop) (hn : L.length = n) (hr : zLR F L) (hQ : ∀ i, i < n → Q (zli L i))
    (M1 : ∀ fu (t : zsT), t.2 = nI n → lp (fu + 1) (nI n) (j, t, p) = k_Co_endCounted (j, t, p))
    (M2 : ∀ fu i (t : zsT) c, i < n → t.2 = nI n → zCR F c → Q c → (∀ q, q < 6 → k_Ta_get 6 2304 t (nI i) (nI q) = some (nI (c q))) → (∀ x, k_Ta_set 6 2304 t (nI i) (nI 5) x = some (upd t.1 (i * 6 + 5) x, t.2)) → lp (fu + 1) (nI i) (j, t, p) = lp fu (nI (i + 1)) (j, (if pr c then upd t.1 (i * 6 + 5) (nI (v c)) else t.1, t.2), p)) :
    ∀ (d i fu : Nat) (t : zsT), i + d = n → d < fu → t.2 = nI n → (∀ k, k < i → ∀ q, q < 6 → t.1 (k * 6 + q) = nI (zgm pr v (zli L k) q)) → (∀ k, i ≤ k → k < n → ∀ q, q < 6 → t.1 (k * 6 + q) = nI (zli L k q)) → ∃ a, lp fu (nI i) (j, t, p) = k_Co_endCounted (j, (a, nI n), p) ∧ ∀ k, k < n → ∀ q, q < 6 → a (k * 6 + q) = nI (zgm pr v (zli L k) q) := by
  have hL := hr.2.1
  intro d
  induction d with
  | zero =>
    intro i fu t hi hf ht h1 h2
    obtain ⟨fu, rfl, -⟩ := z_fuS hf
    have : i = n := by omega
    subst this
    refine ⟨t.1, ?_, h1⟩
    rw [M1 fu t ht, ← ht]
  | succ d ih =>
    intro i fu t hi hf ht h1 h2
    obtain ⟨fu, rfl, hf'⟩ := z_fuS hf
    have e := M2 fu i t (zli L i) (by omega) ht (hr.2.2 i (by omega)) (hQ i (by omega)) (fun q hq => by
      rw [← h2 i (Nat.le_refl _) (by omega) q hq]
      exact ta_get (w := 6) ht (by omega) hq (by omega) (by omega)) (fun x => ta_set (w := 6) ht (by omega) (by omega) (by omega) (by omega))
    obtain ⟨a, e2, h3⟩ := ih (i + 1) fu (if pr (zli L i) then upd t.1 (i * 6 + 5) (nI (v (zli L i))) else t.1, t.2) (by omega) (by omega) ht (fun k hk q hq => by
      show (if pr (zli L i) = true then upd t.1 (i * 6 + 5) (nI (v (zli L i))) else t.1) (k * 6 + q) = _
      by_cases hki : k = i
      · subst hki
        cases hp : pr (zli L k) with
        | true =>
          rw [if_pos rfl]
          by_cases hq5 : q = 5
          · subst hq5
            rw [zu_s, zgm_5 hp]
          · rw [zu_n (by omega), zgm_n hq5, h2 k (Nat.le_refl _) (by omega) q hq]
        | false =>
          rw [if_neg (by decide), zgm_f hp, h2 k (Nat.le_refl _) (by omega) q hq]
      · rw [← h1 k (by omega) q hq]
        split
        · rw [zu_n (by omega)]
        · rfl) (fun k hk hk2 q hq => by
      show (if pr (zli L i) = true then upd t.1 (i * 6 + 5) (nI (v (zli L i))) else t.1) (k * 6 + q) = _
      rw [← h2 k (by omega) (by omega) q hq]
      split
      · rw [zu_n (by omega)]
      · rfl)
    exact ⟨a, e.trans e2, h3⟩
theorem zli_mem : ∀ (L : List zCd) (i : Nat), i < L.length → zli L i ∈ L
  | [], i, h => by simp at h
  | c :: L, 0, _ => by
    show c ∈ c :: L
    simp
  | c :: L, i + 1, h => by
    show zli L i ∈ c :: L
    exact List.mem_cons_of_mem _ (zli_mem L i (by simpa using h))
theorem zli_map (g : zCd → zCd) : ∀ (L : List zCd) (i : Nat), i < L.length → zli (L.map g) i = g (zli L i)
  | [], i, h => by simp at h
  | c :: L, 0, _ => rfl
  | c :: L, i + 1, h => zli_map g L i (by simpa using h)
def zGd (F : Nat) (L : List zCd) : Prop := F ≤ 8 ∧ L.length ≤ 384 ∧ (∀ c, c ∈ L → zCR F c ∧ 0 < c 5) ∧ L.Pairwise fun a b => zky a ≠ zky b
theorem zGd_lr {F : Nat} {L : List zCd} (h : zGd F L) : zLR F L := ⟨h.1, h.2.1, fun i hi => (h.2.2.1 _ (zli_mem L i hi)).1⟩
theorem zGd_fl {F : Nat} {L : List zCd} (pr : zCd → Bool) (h : zGd F L) : zGd F (L.filter pr) :=
  ⟨h.1, Nat.le_trans (List.length_filter_le _ _) h.2.1, fun c hc => h.2.2.1 c (List.mem_filter.1 hc).1, h.2.2.2.filter _⟩
def zRC (F : Nat) (t : zsT) (n : Int32) (a : Nat → Int32) : Prop := ∃ L, zCT t L ∧ zMT n a L ∧ zGd F L
theorem r_mend {α : Type} {F b : Nat} {j t : zsT} {p : Nat → Int32} {m : zsM} (h : zRJ b j (m.1 14) (m.2 13)) (hb : b + 384 < 2 ^ 27) (hc : zRC F t (m.1 16) (m.2 15)) (lc : Nat → Int32 → zsC → Option zsC) (lp : Nat → Int32 → zsM → Option α) (G : zsM → Option α) (pr : zCd → Bool)
    (M1 : ∀ fu (j t : zsT) p n, t.2 = nI n → lc (fu + 1) (nI n) (j, t, p) = k_Co_endCounted (j, t, p))
    (M2 : ∀ fu i n (j t : zsT) p c, n ≤ 384 → i < n → t.2 = nI n → zCR F c → (∀ q, q < 6 → k_Ta_get 6 2304 t (nI i) (nI q) = some (nI (c q))) → (∀ x, k_Ta_set 6 2304 t (nI i) (nI 5) x = some (upd t.1 (i * 6 + 5) x, t.2)) → lc (fu + 1) (nI i) (j, t, p) = lc fu (nI (i + 1)) (j, (if pr c then upd t.1 (i * 6 + 5) (nI 0) else t.1, t.2), p))
    (H1 : ∀ fu m' n, n ≤ 384 → zFrC m m' → m'.1 16 = nI n → lp (fu + 1) (nI n) m' = G m')
    (H2 : ∀ fu i (m' : zsM) c, i < 384 → zFrC m m' → nI i < m'.1 16 → zCR F c → (∀ q, q < 6 → k_Mo_partOf m' (nI i) (nI q) = some (nI (c q))) → lp (fu + 1) (nI i) m' = if pr c then (k_Mo_endsAt m' (nI i)).bind fun o => lp fu (o.1 + 1) o.2 else lp fu (nI (i + 1)) m') :
    ∃ j' t' m', lc zFu 0 (j, t, p) = some (j', t', p) ∧ lp zFu 0 m = G m' ∧ zFrC m m' ∧ zRJ (b + 384) j' (m'.1 14) (m'.2 13) ∧ zRC F t' (m'.1 16) (m'.2 15) := by
  obtain ⟨L, ht, hm, hg⟩ := hc
  have hr := zGd_lr hg
  have hL := hr.2.1
  obtain ⟨a, e1, h1⟩ := r_mark (j := j) (p := p) lc pr (fun _ => 0) (fun _ => True) rfl hr (fun _ _ => trivial) (fun fu t ht => M1 fu j t p _ ht) (fun fu i t c a1 a2 a3 _ a4 a5 => M2 fu i _ j t p c hL a1 a2 a3 a4 a5) L.length 0 zFu t (by omega) (z_fu (by omega)) ht.1 (fun k hk => by omega) (fun k _ hk q hq => ht.2 k hk q hq)
  have hmid : ∀ (m' : zsM) K c R, zMT (m'.1 16) (m'.2 15) (K ++ c :: R) → zLR F (K ++ c :: R) → K.length < 384 ∧ nI K.length < m'.1 16 ∧ zCR F c ∧ ∀ q, q < 6 → k_Mo_partOf m' (nI K.length) (nI q) = some (nI (c q)) := fun m' K c R g1 g2 => by
    have hlen : (K ++ c :: R).length = K.length + R.length + 1 := by simp; omega
    have := g2.2.1
    have g3 := g2.2.2 K.length (by omega)
    rw [zli_mid] at g3
    refine ⟨by omega, ?_, g3, fun q hq => ?_⟩
    · rw [g1.1]
      exact nI_lt (by omega) (by omega)
    · have g4 := zmt_part (q := q) g1 g2 (i := K.length) (by omega) hq
      rwa [zli_mid] at g4
  obtain ⟨j', t', m', e3, e4, r1, r2, r3, r4⟩ := r_ends (F := F) (p := p) (m0 := m) lp G pr (fun c => 0 < c 5) (zgm pr fun _ => 0) H1 (fun fu m' K c R g1 g2 g3 g4 => by
    obtain ⟨k1, k2, k3, k4⟩ := hmid m' K c R g2 g3
    rw [H2 fu _ m' c k1 g1 k2 k3 k4, if_pos g4]) (fun fu m' K c R g1 g2 g3 g4 => by
    obtain ⟨k1, k2, k3, k4⟩ := hmid m' K c R g2 g3
    rw [H2 fu _ m' c k1 g1 k2 k3 k4, g4]
    rfl) (fun c _ _ g1 => ⟨zgm_5 g1, zgm_n (by decide), zgm_n (by decide)⟩) (fun c g1 _ g2 => ⟨by omega, zgm_f g2⟩) L [] 0 zFu zFu b j (a, nI L.length) m (zFrC_rfl m) h (by omega) hm hr (fun i hi => (hg.2.2.1 _ (zli_mem L i hi)).2) (Nat.le_refl _) (by omega) (by show nI _ = nI _; rw [Nat.zero_add]) (fun i hi => by simp at hi) (fun i hi q hq => by rw [Nat.zero_add]; exact h1 i hi q hq) (z_fu (by omega)) (z_fu (by omega))
  refine ⟨j', t', m', e1.trans e3, e4, r1, zRJ_mono r2 (by omega), _, r3, r4, zGd_fl _ hg⟩
