theorem zmax_nI {a b : Nat} (ha : a < 2 ^ 31) (hb : b < 2 ^ 31) : zmax (nI a) (nI b) = nI (max a b) := by
  unfold zmax
  by_cases h : a < b
  · rw [if_pos (nI_lt h hb), Nat.max_eq_right (by omega)]
  · rw [if_neg (nI_nlt (by omega) ha), Nat.max_eq_left (by omega)]
theorem zmin_nI {a b : Nat} (ha : a < 2 ^ 31) (hb : b < 2 ^ 31) : zmin (nI a) (nI b) = nI (min a b) := by
  unfold zmin
  by_cases h : b < a
  · rw [if_pos (nI_lt h ha), Nat.min_eq_right (by omega)]
  · rw [if_neg (nI_nlt (by omega) hb), Nat.min_eq_left (by omega)]
theorem co_make56 {N r k f y v e n a3 a5 : Nat} {j j' t : zsT} {p : Nat → Int32} (ht : t.2 = nI N) (hN : N ≤ 384) (hr : r < N) (h3 : t.1 (r * 6 + 3) = nI a3) (h5 : t.1 (r * 6 + 5) = nI a5) (ha3 : a3 < 10) (ha5 : a5 < 10) (hv : v < 10) (hn : n < 10) (hj : k_Jo_write j 3 (nI f) (nI k) = some j') : k_Co_make_56 (nI k) (nI f) (nI y) (nI v) (nI e) (nI n) (nI r) (j, t, p) = some (j', (upd (upd (upd t.1 (r * 6 + 3) (nI (max v a3))) (r * 6 + 4) (nI e)) (r * 6 + 5) (nI (max n a5)), t.2), p) := by
  have s : ∀ (x : zsT) q z, x.2 = nI N → q < 6 → k_Ta_set 6 2304 x (nI r) (nI q) z = some (upd x.1 (r * 6 + q) z, x.2) := fun x q z hx hq => ta_set (w := 6) hx hr hq (by omega) (by omega)
  have g : ∀ (x : zsT) q, x.2 = nI N → q < 6 → k_Ta_get 6 2304 x (nI r) (nI q) = some (x.1 (r * 6 + q)) := fun x q hx hq => ta_get (w := 6) hx hr hq (by omega) (by omega)
  unfold k_Co_make_56
  dsimp only
  rw [z_3, g t 3 ht (by omega), Option.bind_some, h3, zmax_nI (by omega) (by omega), s t 3 _ ht (by omega), Option.bind_some, z_4, s (upd t.1 (r * 6 + 3) (nI (max v a3)), t.2) 4 _ ht (by omega), Option.bind_some, z_5, g (upd (upd t.1 (r * 6 + 3) (nI (max v a3))) (r * 6 + 4) (nI e), t.2) 5 ht (by omega), Option.bind_some]
  dsimp only
  rw [zu_n (by omega), zu_n (by omega), h5, zmax_nI (by omega) (by omega), s (upd (upd t.1 (r * 6 + 3) (nI (max v a3))) (r * 6 + 4) (nI e), t.2) 5 _ ht (by omega), Option.bind_some, ← z_3, hj, Option.bind_some]
theorem mo_packed (k f y v e n : Nat) : k_Mo_packed (nI k) (nI f) (nI y) (nI v) (nI e) (nI n) = some (nI (((((k * 8 + f) * 8 + y) * 10 + v) * 4 + e) * 10 + n)) := by
  unfold k_Mo_packed
  simp only [z_8, z_10, z_4, pk_mul, nI_add]
theorem mo_makes_lp {F k f y v e n : Nat} {L : List zCd} {m : zsM} (hm : zMT (m.1 16) (m.2 15) L) (hr : zLR F L) (hk : k < 6) (hf : f < F) (hy : y < F) (hv : v < 10) (hn : n < 10) : ∀ (d i fu : Nat), i + d = L.length → d < fu → (∀ r, i ≤ r → r < L.length → (zli L r 0 = k ∧ zli L r 1 = f ∧ zli L r 2 = y) → (∀ l, i ≤ l → l < r → ¬ (zli L l 0 = k ∧ zli L l 1 = f ∧ zli L l 2 = y)) → k_Mo_makes_10 (nI k) (nI f) (nI y) (nI v) (nI e) (nI n) fu (nI i) m = some (m.1, va_up m.2 15 (upd (m.2 15) r (nI (zpk (zmk k f y v e n (zli L r))))))) ∧ ((∀ l, i ≤ l → l < L.length → ¬ (zli L l 0 = k ∧ zli L l 1 = f ∧ zli L l 2 = y)) → L.length < 384 → k_Mo_makes_10 (nI k) (nI f) (nI y) (nI v) (nI e) (nI n) fu (nI i) m = some (upd m.1 16 (nI (L.length + 1)), va_up m.2 15 (upd (m.2 15) L.length (nI (zpk (zmk k f y v e n fun _ => 0)))))) := by
  have hL := hr.2.1
  have hF := hr.1
  intro d
  induction d with
  | zero =>
    intro i fu hi hfu
    obtain ⟨fu, rfl, -⟩ := z_fuS hfu
    refine ⟨fun r h1 h2 => by omega, fun _ hlt => ?_⟩
    simp only [k_Mo_makes_10, hm.1, if_neg (nI_nlt (show L.length ≤ i by omega) (show i < 2 ^ 31 by omega)), mo_packed, Option.bind_some, z_1, nI_add, if_neg (zo_in hlt (show 384 < 2 ^ 31 by omega)), nI_clamp (show L.length < 2 ^ 31 by omega)]
    have e1 : zpk (zmk k f y v e n fun _ => 0) = ((((k * 8 + f) * 8 + y) * 10 + max v 0) * 4 + e) * 10 + max n 0 := rfl
    rw [e1, Nat.max_eq_left (by omega), Nat.max_eq_left (by omega)]
  | succ d ih =>
    intro i fu hi hfu
    obtain ⟨fu, rfl, hfu'⟩ := z_fuS hfu
    have hi' : i < L.length := by omega
    obtain ⟨c0, c1, c2, c3, c4, c5⟩ := hr.2.2 i hi'
    have P := fun q hq => zmt_part (q := q) hm hr hi' hq
    obtain ⟨ih1, ih2⟩ := ih (i + 1) fu (by omega) (by omega)
    by_cases a : zli L i 0 = k ∧ zli L i 1 = f ∧ zli L i 2 = y
    · refine ⟨fun r h1 h2 h3 h4 => ?_, fun h => absurd a (h i (Nat.le_refl _) hi')⟩
      have hri : r = i := by
        by_cases hri : r = i
        · exact hri
        · exact absurd a (h4 i (Nat.le_refl _) (by omega))
      subst hri
      obtain ⟨a0, a1, a2⟩ := a
      have e1 : zpk (zmk k f y v e n (zli L r)) = ((((k * 8 + f) * 8 + y) * 10 + max v (zli L r 3)) * 4 + e) * 10 + max n (zli L r 5) := rfl
      have e2 : ∀ V : Nat, V < 10 → k_Mo_makes_79 (nI k) (nI f) (nI y) (nI v) (nI e) (nI n) (nI r) (nI V) m = some (m.1, va_up m.2 15 (upd (m.2 15) r (nI (((((k * 8 + f) * 8 + y) * 10 + V) * 4 + e) * 10 + max n (zli L r 5))))) := fun V hV => by
        simp only [k_Mo_makes_79, z_5, P 5 (by omega), Option.bind_some, k_Mo_makes_105, mo_packed, if_neg (zo_in (show r < 384 by omega) (by omega)), nI_clamp (show r < 2 ^ 31 by omega), nI_ltI (show zli L r 5 < 2 ^ 31 by omega) (show n < 2 ^ 31 by omega)]
        split
        · rw [Nat.max_eq_left (by omega)]
        · rw [Nat.max_eq_right (by omega)]
      simp only [k_Mo_makes_10, hm.1, if_pos (nI_lt hi' (show L.length < 2 ^ 31 by omega)), z_0, z_1, z_2, z_3, P 0 (by omega), P 1 (by omega), P 2 (by omega), P 3 (by omega), Option.bind_some, a0, a1, a2, ↓reduceIte, nI_ltI (show zli L r 3 < 2 ^ 31 by omega) (show v < 2 ^ 31 by omega), e1]
      split
      · rw [e2 v hv, Nat.max_eq_left (a := v) (by omega)]
      · rw [e2 _ c3, Nat.max_eq_right (a := v) (by omega)]
    · have e1 : k_Mo_makes_10 (nI k) (nI f) (nI y) (nI v) (nI e) (nI n) (fu + 1) (nI i) m = k_Mo_makes_10 (nI k) (nI f) (nI y) (nI v) (nI e) (nI n) fu (nI (i + 1)) m := by
        simp only [k_Mo_makes_10, hm.1, if_pos (nI_lt hi' (show L.length < 2 ^ 31 by omega)), z_0, z_1, z_2, z_3, P 0 (by omega), P 1 (by omega), P 2 (by omega), P 3 (by omega), Option.bind_some, nI_eq (show zli L i 0 < 2 ^ 31 by omega) (show k < 2 ^ 31 by omega), nI_eq (show zli L i 1 < 2 ^ 31 by omega) (show f < 2 ^ 31 by omega), nI_eq (show zli L i 2 < 2 ^ 31 by omega) (show y < 2 ^ 31 by omega), nI_add]
        by_cases b0 : zli L i 0 = k
        · by_cases b1 : zli L i 1 = f
          · by_cases b2 : zli L i 2 = y
            · exact absurd ⟨b0, b1, b2⟩ a
            · rw [if_pos b0, if_pos b1, if_neg b2]
          · rw [if_pos b0, if_neg b1]
        · rw [if_neg b0]
      refine ⟨fun r h1 h2 h3 h4 => e1.trans (ih1 r ?_ h2 h3 fun l g1 g2 => h4 l (by omega) g2), fun h hl => e1.trans (ih2 (fun l g1 g2 => h l (by omega) g2) hl)⟩
      by_cases hri : r = i
      · subst hri; exact absurd h3 a
      · omega
theorem r_make {F b k f y v e n : Nat} {j t : zsT} {p : Nat → Int32} {m : zsM} (h : zRJ b j (m.1 14) (m.2 13)) (hb : b < 2 ^ 27) (hc : zRC F t (m.1 16) (m.2 15)) (hk : k < 6) (hf : f < F) (hy : y < F) (hv : v < 10) (he : e < 4) (hn : n < 10) (hn0 : 0 < n) : ∃ j' t' m', k_Co_make (j, t, p) (nI k) (nI f) (nI y) (nI v) (nI e) (nI n) = some (j', t', p) ∧ k_Mo_makes m (nI k) (nI f) (nI y) (nI v) (nI e) (nI n) = some m' ∧ zFrC m m' ∧ zRJ (b + 1) j' (m'.1 14) (m'.2 13) ∧ zRC F t' (m'.1 16) (m'.2 15) := by
  obtain ⟨L, ht, hm, hg⟩ := hc
  have hr := zGd_lr hg
  have hL := hr.2.1
  have hF := hr.1
  obtain ⟨j', m1, e1, e2, hj', hf1⟩ := r_note (k := 3) (f := f) (v := k) h hb (by omega) (by omega) (by omega)
  have hm1 : zMT (m1.1 16) (m1.2 15) L := by
    rw [hf1.1 16 (by decide), hf1.2 15 (by decide)]
    exact hm
  obtain ⟨lp1, lp2⟩ := mo_makes_lp (k := k) (f := f) (y := y) (v := v) (e := e) (n := n) hm1 hr hk hf hy hv hn L.length 0 zFu (by omega) (z_fu (by omega))
  have q6 : ∀ q, q < 6 → q = 0 ∨ q = 1 ∨ q = 2 ∨ q = 3 ∨ q = 4 ∨ q = 5 := fun q hq => by omega
  rcases r_find (j := j) (p := p) (nI k) (nI f) (nI y) ht hr with ⟨r, h4, h5, h6, h7, h8, h9⟩ | ⟨h3, h4⟩
  · obtain ⟨c0, c1, c2, c3, c4, c5⟩ := hr.2.2 r h4
    have a0 : zli L r 0 = k := (nI_eq (by omega) (by omega)).1 h6
    have a1 : zli L r 1 = f := (nI_eq (by omega) (by omega)).1 h7
    have a2 : zli L r 2 = y := (nI_eq (by omega) (by omega)).1 h8
    have hgr : ∀ i, i < L.length → zmg k f y v e n (zli L i) = if i = r then zmk k f y v e n (zli L r) else zli L i := fun i hi => by
      by_cases hir : i = r
      · subst hir
        rw [if_pos rfl]
        exact if_pos ⟨a0, a1, a2⟩
      · rw [if_neg hir]
        refine if_neg fun hh => ?_
        have hky : zky (zli L i) = zky (zli L r) := by
          unfold zky
          rw [hh.1, hh.2.1, hh.2.2, a0, a1, a2]
        by_cases hlt : i < r
        · exact zpw L hg.2.2.2 i r hlt h4 hky
        · exact zpw L hg.2.2.2 r i (by omega) hi hky.symm
    have e3 := lp1 r (by omega) h4 ⟨a0, a1, a2⟩ (fun l _ hl hh => h9 l hl ⟨by rw [hh.1], by rw [hh.2.1], by rw [hh.2.2]⟩)
    have e4 := co_make56 (j := j) (j' := j') (p := p) (y := y) (v := v) (e := e) (n := n) (k := k) (f := f) ht.1 (by omega) h4 (ht.2 r h4 3 (by omega)) (ht.2 r h4 5 (by omega)) c3 c5 hv hn e1
    have E : k_Co_make (j, t, p) (nI k) (nI f) (nI y) (nI v) (nI e) (nI n) = k_Co_make_56 (nI k) (nI f) (nI y) (nI v) (nI e) (nI n) (nI r) (j, t, p) := by
      unfold k_Co_make
      rw [h5, Option.bind_some, if_neg (nI_pos (by omega))]
    have E2 : k_Mo_makes m (nI k) (nI f) (nI y) (nI v) (nI e) (nI n) = k_Mo_makes_10 (nI k) (nI f) (nI y) (nI v) (nI e) (nI n) zFu (nI 0) m1 := by
      unfold k_Mo_makes
      rw [z_3, e2, Option.bind_some]
      rfl
    refine ⟨j', _, _, E.trans e4, E2.trans e3, ?_, ?_, L.map (zmg k f y v e n), ⟨?_, fun i hi q hq => ?_⟩, ⟨?_, fun i hi => ?_⟩, zmg_gd hg hk hf hy hv he hn⟩
    · exact ⟨fun i a b => hf1.1 i a, fun i a b => (zup_n b).trans (hf1.2 i a)⟩
    · dsimp only
      rw [zup_n (by decide)]
      exact hj'
    · rw [List.length_map]
      exact ht.1
    · rw [List.length_map] at hi
      rw [zli_map _ _ _ hi, hgr i hi]
      dsimp only
      by_cases hir : i = r
      · subst hir
        rw [if_pos rfl]
        rcases q6 q hq with rfl | rfl | rfl | rfl | rfl | rfl
        · rw [zu_n (by omega), zu_n (by omega), zu_n (by omega), ht.2 i hi 0 hq, a0]
          rfl
        · rw [zu_n (by omega), zu_n (by omega), zu_n (by omega), ht.2 i hi 1 hq, a1]
          rfl
        · rw [zu_n (by omega), zu_n (by omega), zu_n (by omega), ht.2 i hi 2 hq, a2]
          rfl
        · rw [zu_n (by omega), zu_n (by omega), zu_s]
          rfl
        · rw [zu_n (by omega), zu_s]
          rfl
        · rw [zu_s]
          rfl
      · rw [if_neg hir, zu_n (by omega), zu_n (by omega), zu_n (by omega), ht.2 i hi q hq]
    · rw [List.length_map]
      exact hm1.1
    · rw [List.length_map] at hi
      rw [zli_map _ _ _ hi, hgr i hi]
      dsimp only
      rw [zup_s]
      by_cases hir : i = r
      · subst hir
        rw [if_pos rfl, zu_s]
      · rw [if_neg hir, zu_n hir, hm1.2 i hi]
  · have hne : ∀ l, l < L.length → ¬ (zli L l 0 = k ∧ zli L l 1 = f ∧ zli L l 2 = y) := fun l hl hh => h4 l hl ⟨by rw [hh.1], by rw [hh.2.1], by rw [hh.2.2]⟩
    obtain ⟨hlt, hg'⟩ := zap_gd hg hk hf hy hv he hn hn0 hne
    have e3 := lp2 (fun l _ hl => hne l hl) hlt
    obtain ⟨w, e4, w1, w2⟩ := ta_app (w := 6) (n := 2304) ht.1 (by omega) (by omega) (by omega) (by omega)
    have s : ∀ (x : zsT) q z, x.2 = nI (L.length + 1) → q < 6 → k_Ta_set 6 2304 x (nI L.length) (nI q) z = some (upd x.1 (L.length * 6 + q) z, x.2) := fun x q z hx hq => ta_set (w := 6) hx (by omega) hq (by omega) (by omega)
    have e5 := co_make56 (j := j) (j' := j') (t := (upd (upd (upd w (L.length * 6 + 0) (nI k)) (L.length * 6 + 1) (nI f)) (L.length * 6 + 2) (nI y), nI (L.length + 1))) (r := L.length) (p := p) (y := y) (v := v) (e := e) (n := n) (k := k) (f := f) (a3 := 0) (a5 := 0) rfl (by omega) (by omega) (by
      dsimp only
      rw [zu_n (by omega), zu_n (by omega), zu_n (by omega), w2 _ (by omega) (by omega)]
      rfl) (by
      dsimp only
      rw [zu_n (by omega), zu_n (by omega), zu_n (by omega), w2 _ (by omega) (by omega)]
      rfl) (by omega) (by omega) hv hn e1
    have hlen : (L ++ [zmk k f y v e n fun _ => 0]).length = L.length + 1 := by simp
    have hli : ∀ i, i < L.length + 1 → zli (L ++ [zmk k f y v e n fun _ => 0]) i = if i = L.length then zmk k f y v e n (fun _ => 0) else zli L i := fun i hi => by
      by_cases hir : i = L.length
      · subst hir
        rw [zli_mid, if_pos rfl]
      · rw [if_neg hir, zli_app, if_pos (by omega)]
    have E : k_Co_make (j, t, p) (nI k) (nI f) (nI y) (nI v) (nI e) (nI n) = k_Co_make_56 (nI k) (nI f) (nI y) (nI v) (nI e) (nI n) (nI L.length) (j, (upd (upd (upd w (L.length * 6 + 0) (nI k)) (L.length * 6 + 1) (nI f)) (L.length * 6 + 2) (nI y), nI (L.length + 1)), p) := by
      unfold k_Co_make
      rw [h3, Option.bind_some, if_pos (by decide)]
      show ((k_Ta_append (nI 6) 2304 t).bind _) = _
      rw [e4, Option.bind_some]
      dsimp only
      rw [z_0, s (w, nI (L.length + 1)) 0 _ rfl (by omega), Option.bind_some, z_1, s (upd w (L.length * 6 + 0) (nI k), nI (L.length + 1)) 1 _ rfl (by omega), Option.bind_some, z_2, s (upd (upd w (L.length * 6 + 0) (nI k)) (L.length * 6 + 1) (nI f), nI (L.length + 1)) 2 _ rfl (by omega), Option.bind_some]
    have E2 : k_Mo_makes m (nI k) (nI f) (nI y) (nI v) (nI e) (nI n) = k_Mo_makes_10 (nI k) (nI f) (nI y) (nI v) (nI e) (nI n) zFu (nI 0) m1 := by
      unfold k_Mo_makes
      rw [z_3, e2, Option.bind_some]
      rfl
    refine ⟨j', _, _, E.trans e5, E2.trans e3, ?_, ?_, L ++ [zmk k f y v e n fun _ => 0], ⟨?_, fun i hi q hq => ?_⟩, ⟨?_, fun i hi => ?_⟩, hg'⟩
    · exact ⟨fun i a b => (zu_n b).trans (hf1.1 i a), fun i a b => (zup_n b).trans (hf1.2 i a)⟩
    · dsimp only
      rw [zup_n (by decide), zu_n (by decide)]
      exact hj'
    · rw [hlen]
    · rw [hlen] at hi
      rw [hli i hi]
      dsimp only
      by_cases hir : i = L.length
      · subst hir
        rw [if_pos rfl]
        rcases q6 q hq with rfl | rfl | rfl | rfl | rfl | rfl
        · rw [zu_n (by omega), zu_n (by omega), zu_n (by omega), zu_n (by omega), zu_n (by omega), zu_s]
          rfl
        · rw [zu_n (by omega), zu_n (by omega), zu_n (by omega), zu_n (by omega), zu_s]
          rfl
        · rw [zu_n (by omega), zu_n (by omega), zu_n (by omega), zu_s]
          rfl
        · rw [zu_n (by omega), zu_n (by omega), zu_s]
          rfl
        · rw [zu_n (by omega), zu_s]
          rfl
        · rw [zu_s]
          rfl
      · rw [if_neg hir, zu_n (by omega), zu_n (by omega), zu_n (by omega), zu_n (by omega), zu_n (by omega), zu_n (by omega), w1 _ (by omega), ht.2 i (by omega) q hq]
    · rw [hlen]
      dsimp only
      rw [zu_s]
    · rw [hlen] at hi
      rw [hli i hi]
      dsimp only
      rw [zup_s]
      by_cases hir : i = L.length
      · subst hir
        rw [if_pos rfl, zu_s]
      · rw [if_neg hir, zu_n hir, hm1.2 i (by omega)]
