theorem z_0 : (0 : Int32) = nI 0 := rfl
theorem z_1 : (1 : Int32) = nI 1 := rfl
theorem z_2 : (2 : Int32) = nI 2 := rfl
theorem z_3 : (3 : Int32) = nI 3 := rfl
theorem z_4 : (4 : Int32) = nI 4 := rfl
theorem z_5 : (5 : Int32) = nI 5 := rfl
theorem z_6 : (6 : Int32) = nI 6 := rfl
theorem z_7 : (7 : Int32) = nI 7 := rfl
theorem z_8 : (8 : Int32) = nI 8 := rfl
theorem z_9 : (9 : Int32) = nI 9 := rfl
theorem z_10 : (10 : Int32) = nI 10 := rfl
theorem z_13 : (13 : Int32) = nI 13 := rfl
theorem z_25 : (25 : Int32) = nI 25 := rfl
theorem z_100 : (100 : Int32) = nI 100 := rfl
theorem z_300 : (300 : Int32) = nI 300 := rfl
theorem z_900 : (900 : Int32) = nI 900 := rfl
theorem z_1000 : (1000 : Int32) = nI 1000 := rfl
theorem zo_in {i n : Nat} (h : i < n) (hn : n < 2 ^ 31) : ¬ zOut (nI i) n := nI_in h hn
theorem z_ltz {n : Nat} (h : n < 2 ^ 31) : ¬ nI n < 0 := nI_pos h
theorem zup_s {α : Type} {f : Nat → α} {k : Nat} {v : α} : va_up f k v k = v := if_pos rfl
theorem zup_n {α : Type} {f : Nat → α} {k j : Nat} {v : α} (h : j ≠ k) : va_up f k v j = f j := if_neg h
theorem zu_s {f : Nat → Int32} {k : Nat} {v : Int32} : upd f k v k = v := if_pos rfl
theorem zu_n {f : Nat → Int32} {k j : Nat} {v : Int32} (h : j ≠ k) : upd f k v j = f j := if_neg h
theorem zmul_lt {i F w c n : Nat} (hi : i < F) (hc : c < w) (hF : F * w ≤ n) : i * w + c < n := by
  have h : (i + 1) * w ≤ F * w := Nat.mul_le_mul_right _ hi
  rw [Nat.add_mul] at h
  omega
theorem zF_lt {F w n : Nat} (hw : 0 < w) (hF : F * w ≤ n) : F ≤ n := Nat.le_trans (Nat.le_mul_of_pos_right F hw) hF
theorem ta_get {w n F i c : Nat} {x : zsT} (hx : x.2 = nI F) (hi : i < F) (hc : c < w) (hF : F * w ≤ n) (hn : n < 2 ^ 31) : k_Ta_get (nI w) n x (nI i) (nI c) = some (x.1 (i * w + c)) := by
  have h1 : i * w + c < n := zmul_lt hi hc hF
  have h2 : F ≤ n := zF_lt (by omega) hF
  have h3 : w ≤ n := Nat.le_trans (Nat.le_mul_of_pos_left w (by omega)) hF
  unfold k_Ta_get
  rw [hx, if_neg (nI_pos (by omega)), if_pos (nI_lt hi (by omega)), if_neg (nI_pos (by omega)), if_pos (nI_lt hc (by omega)), pk_mul, nI_add, if_neg (nI_pos (by omega)), if_pos (show nI _ < Int32.ofNat n from nI_lt h1 hn), if_neg (zo_in h1 hn), nI_clamp (by omega)]
theorem ta_getm {w : Int32} {n : Nat} {x : zsT} {c : Int32} : k_Ta_get w n x (-1) c = some 0 := if_pos (by decide)
theorem ta_geto {w : Int32} {n F i : Nat} {x : zsT} {c : Int32} (hx : x.2 = nI F) (hi : F ≤ i) (h : i < 2 ^ 31) : k_Ta_get w n x (nI i) c = some 0 := by
  unfold k_Ta_get
  rw [hx, if_neg (nI_pos h), if_neg (nI_nlt hi h)]
theorem ta_set {w n F i c : Nat} {x : zsT} {v : Int32} (hx : x.2 = nI F) (hi : i < F) (hc : c < w) (hF : F * w ≤ n) (hn : n < 2 ^ 31) : k_Ta_set (nI w) n x (nI i) (nI c) v = some (upd x.1 (i * w + c) v, x.2) := by
  have h1 : i * w + c < n := zmul_lt hi hc hF
  have h2 : F ≤ n := zF_lt (by omega) hF
  have h3 : w ≤ n := Nat.le_trans (Nat.le_mul_of_pos_left w (by omega)) hF
  unfold k_Ta_set
  rw [hx, if_neg (nI_pos (by omega)), if_pos (nI_lt hi (by omega)), if_neg (nI_pos (by omega)), if_pos (nI_lt hc (by omega)), pk_mul, nI_add, if_neg (nI_pos (by omega)), if_pos (show nI _ < Int32.ofNat n from nI_lt h1 hn), if_neg (zo_in h1 hn), nI_clamp (by omega)]
theorem ta_app_lp {w n s : Nat} (hn : n < 2 ^ 31) (hs : s + w ≤ n) : ∀ (d q fu : Nat) (x : zsT), q + d = s + w → s ≤ q → d < fu → ∃ y, k_Ta_append_32 (nI w) n fu (nI s) (nI q) x = some (x.2 + 1 - 1, (y, x.2 + 1)) ∧ (∀ k, k < q ∨ s + w ≤ k → y k = x.1 k) ∧ ∀ k, q ≤ k → k < s + w → y k = 0 := by
  intro d
  induction d with
  | zero =>
    intro q fu x hq hsq hfu
    obtain ⟨fu, rfl⟩ : ∃ g, fu = g + 1 := ⟨fu - 1, by omega⟩
    refine ⟨x.1, ?_, fun _ _ => rfl, fun k h1 h2 => by omega⟩
    unfold k_Ta_append_32
    rw [nI_add, if_neg (nI_nlt (by omega) (by omega))]
    rfl
  | succ d ih =>
    intro q fu x hq hsq hfu
    obtain ⟨fu, rfl⟩ : ∃ g, fu = g + 1 := ⟨fu - 1, by omega⟩
    obtain ⟨y, e, h1, h2⟩ := ih (q + 1) fu (upd x.1 q 0, x.2) (by omega) (by omega) (by omega)
    refine ⟨y, ?_, fun k hk => ?_, fun k hk hk2 => ?_⟩
    · unfold k_Ta_append_32
      rw [nI_add, if_pos (nI_lt (by omega) (by omega)), if_pos (show nI q < Int32.ofNat n from nI_lt (by omega) hn), if_neg (zo_in (by omega) hn), nI_clamp (by omega), nI_1]
      exact e
    · rw [h1 k (by omega)]
      exact zu_n (by omega)
    · by_cases hq' : k = q
      · subst hq'
        rw [h1 k (by omega)]
        exact zu_s
      · exact h2 k (by omega) hk2
theorem ta_app {w n F : Nat} {x : zsT} (hx : x.2 = nI F) (hw : 0 < w) (hw2 : w < 6000) (hF : F * w + w ≤ n) (hn : n < 2 ^ 31) : ∃ y, k_Ta_append (nI w) n x = some (nI F, (y, nI (F + 1))) ∧ (∀ k, k < F * w ∨ F * w + w ≤ k → y k = x.1 k) ∧ ∀ k, F * w ≤ k → k < F * w + w → y k = 0 := by
  have h2 : F ≤ n := zF_lt hw (by omega)
  obtain ⟨y, e, h1, h3⟩ := ta_app_lp (w := w) (n := n) (s := F * w) hn hF w (F * w) zFu x rfl (Nat.le_refl _) (by have := zFu_gt; omega)
  refine ⟨y, ?_, h1, h3⟩
  unfold k_Ta_append
  rw [hx, pk_mul, if_neg (nI_pos (by omega)), nI_add, if_neg (show ¬ Int32.ofNat n < nI _ from nI_nlt hF hn), e, hx, nI_1]
  rw [show nI (F + 1) - 1 = nI F from nI_pred F]
theorem ta_copyRow {w n F i j : Nat} {x : zsT} (hx : x.2 = nI F) (hi : i < F) (hj : j < F) (hw : 0 < w) (hF : F * w ≤ n) (hn : n < 2 ^ 31) : ∃ y, k_Ta_copyRow (nI w) n x (nI i) (nI j) = some (y, x.2) ∧ (∀ k, k < w → y (j * w + k) = x.1 (i * w + k)) ∧ ∀ k, (k < j * w ∨ j * w + w ≤ k) → y k = x.1 k := by
  have h2 : F ≤ n := zF_lt hw hF
  have hi2 : (i + 1) * w ≤ F * w := Nat.mul_le_mul_right _ hi
  have hj2 : (j + 1) * w ≤ F * w := Nat.mul_le_mul_right _ hj
  rw [Nat.add_mul] at hi2 hj2
  unfold k_Ta_copyRow
  rw [hx, if_neg (nI_pos (by omega)), if_pos (nI_lt hi (by omega)), pk_mul, pk_mul, if_neg (nI_pos (by omega)), nI_add, if_neg (show ¬ Int32.ofNat n < nI _ from nI_nlt (by omega) hn), if_neg (nI_pos (by omega)), if_pos (nI_lt hj (by omega)), if_neg (nI_pos (by omega)), nI_add, if_neg (show ¬ Int32.ofNat n < nI _ from nI_nlt (by omega) hn)]
  unfold k_Ta_copyRow_82
  rw [if_neg (by decide)]
  by_cases hij : i = j
  · subst hij
    refine ⟨x.1, ?_, fun _ _ => rfl, fun _ _ => rfl⟩
    rw [if_pos rfl, ← hx]
  · refine ⟨va_cpy x.1 x.1 (i * w) (j * w) w, ?_, fun k hk => ?_, fun k hk => pk_cpy_out hk⟩
    · rw [if_neg (fun h => hij ((nI_eq (by omega) (by omega)).1 h)), if_neg, nI_clamp (by omega), nI_clamp (by omega), nI_clamp (by omega), hx]
      show ¬ (nI (i * w) < 0 ∨ nI (j * w) < 0 ∨ nI w < 0 ∨ n < (nI (i * w)).toNatClampNeg + (nI w).toNatClampNeg ∨ n < (nI (j * w)).toNatClampNeg + (nI w).toNatClampNeg)
      rw [nI_clamp (n := i * w) (by omega), nI_clamp (n := j * w) (by omega), nI_clamp (n := w) (by omega)]
      rintro (h | h | h | h | h)
      · exact nI_pos (by omega) h
      · exact nI_pos (by omega) h
      · exact nI_pos (by omega) h
      · omega
      · omega
    · rw [pk_cpy_in (by omega) (by omega), show i * w + (j * w + k - j * w) = i * w + k from by omega]
theorem ta_cut {w : Int32} {n F c : Nat} {x : zsT} (hx : x.2 = nI F) (hc : c ≤ F) (hF : F < 2 ^ 31) : k_Ta_cut w n x (nI c) = some (x.1, nI c) := by
  unfold k_Ta_cut
  rw [hx, if_neg (nI_pos (by omega))]
  by_cases h : c < F
  · rw [if_pos (nI_lt h hF)]
  · have : c = F := by omega
    subst this
    rw [if_neg (nI_nlt (Nat.le_refl _) hF), ← hx]
theorem ta_holds {w : Int32} {n F i : Nat} {x : zsT} (hx : x.2 = nI F) (hi : i < F) (hF : F < 2 ^ 31) : k_Ta_holds w n x (nI i) = some 1 := by
  unfold k_Ta_holds
  rw [hx, if_neg (nI_pos (by omega)), if_pos (nI_lt hi hF)]
theorem z_fu {d : Nat} (h : d ≤ 6900) : d < zFu := Nat.lt_of_le_of_lt h zFu_gt
theorem z_fuS {fu d : Nat} (h : d < fu) : ∃ g, fu = g + 1 ∧ d ≤ g := ⟨fu - 1, by omega, by omega⟩
