theorem zRC_mono {F : Nat} {t : zsT} {n : Int32} {a : Nat → Int32} (h : zRC F t n a) (hF : F + 1 ≤ 8) : zRC (F + 1) t n a := by
  obtain ⟨L, h1, h2, -, g2, g3, g4⟩ := h
  refine ⟨L, h1, h2, hF, g2, fun c hc => ?_, g4⟩
  obtain ⟨⟨q0, q1, q2, q3⟩, q4⟩ := g3 c hc
  exact ⟨⟨q0, by omega, by omega, q3⟩, q4⟩
def zJm (m : zsM) (F a v w : Nat) (bo : Int32) (sp : Nat) : zsM := ((m.1, (va_up ((va_up ((va_up ((va_up ((va_up ((va_up ((va_up m.2 1 (upd ((m.2 1)) F (nI a)))) 2 (upd ((m.2 2)) F (nI v)))) 3 (upd (((((va_up m.2 1 (upd ((m.2 1)) F (nI a))))) 3)) F (nI w)))) 4 (upd (((((va_up ((va_up m.2 1 (upd ((m.2 1)) F (nI a)))) 2 (upd ((m.2 2)) F (nI v))))) 4)) F (nI w)))) 5 (upd (((((va_up ((va_up ((va_up m.2 1 (upd ((m.2 1)) F (nI a)))) 2 (upd ((m.2 2)) F (nI v)))) 3 (upd (((((va_up m.2 1 (upd ((m.2 1)) F (nI a))))) 3)) F (nI w))))) 5)) F bo))) 6 (upd (((((va_up ((va_up ((va_up ((va_up m.2 1 (upd ((m.2 1)) F (nI a)))) 2 (upd ((m.2 2)) F (nI v)))) 3 (upd (((((va_up m.2 1 (upd ((m.2 1)) F (nI a))))) 3)) F (nI w)))) 4 (upd (((((va_up ((va_up m.2 1 (upd ((m.2 1)) F (nI a)))) 2 (upd ((m.2 2)) F (nI v))))) 4)) F (nI w))))) 6)) F (nI sp)))) 7 (upd (((((va_up ((va_up ((va_up ((va_up ((va_up m.2 1 (upd ((m.2 1)) F (nI a)))) 2 (upd ((m.2 2)) F (nI v)))) 3 (upd (((((va_up m.2 1 (upd ((m.2 1)) F (nI a))))) 3)) F (nI w)))) 4 (upd (((((va_up ((va_up m.2 1 (upd ((m.2 1)) F (nI a)))) 2 (upd ((m.2 2)) F (nI v))))) 4)) F (nI w)))) 5 (upd (((((va_up ((va_up ((va_up m.2 1 (upd ((m.2 1)) F (nI a)))) 2 (upd ((m.2 2)) F (nI v)))) 3 (upd (((((va_up m.2 1 (upd ((m.2 1)) F (nI a))))) 3)) F (nI w))))) 5)) F bo)))) 7)) F ((-5 : Int32))))))
def zJs (A : Nat → Nat → Int32) (q : Nat) (x : Int32) : Nat → Nat → Int32 := va_up (va_up A 9 (upd (A 9) q x)) 8 (upd (A 8) q (upd (A 9) q x q))
theorem zJs_n {A : Nat → Nat → Int32} {q i : Nat} {x : Int32} (h8 : i ≠ 8) (h9 : i ≠ 9) : zJs A q x i = A i := by
  unfold zJs
  rw [zup_n h8, zup_n h9]
theorem zJs_9 {A : Nat → Nat → Int32} {q : Nat} {x : Int32} : zJs A q x 9 = upd (A 9) q x := by
  unfold zJs
  rw [zup_n (by decide), zup_s]
theorem zJs_8 {A : Nat → Nat → Int32} {q : Nat} {x : Int32} : zJs A q x 8 = upd (A 8) q x := by
  unfold zJs
  rw [zup_s, zu_s]
theorem zJs_189 {F q : Nat} {l1 l2 l3 l4 l5 x : Int32} {kf : Int32 → Int32 → zsM → Option (Int32 × zsM)} {m : zsM} (hF : F < 8) (hq : q < 3) : k_Mo_add_189 l1 l2 l3 l4 l5 kf (nI F) (nI q) x (nI 3 * nI F + nI q) m = kf (nI F) (nI (q + 1)) (m.1, zJs m.2 (3 * F + q) x) := by
  unfold k_Mo_add_189
  have hz : ¬ zOut (nI (3 * F + q)) 24 := zo_in (by omega) (by omega)
  have hc : (nI (3 * F + q)).toNatClampNeg = 3 * F + q := nI_clamp (by omega)
  rw [show (3 : Int32) * nI F + nI q = nI (3 * F + q) from by rw [z_3, pk_mul, nI_add], pk_mul, nI_add, if_neg hz, if_neg hz, if_neg hz, hc, nI_1]
  rfl
theorem r_join {b F a v w sp : Nat} {bo : Int32} {j c t : zsT} {p fi : Nat → Int32} {m : zsM} (h : zRI b F j c t fi m) (hb : b < 2 ^ 27) (hF8 : F < 8) (ha : a < 2) (hv : v < 100) (hw0 : 0 < w) (hw9 : w ≤ 99) (hbo : -5 ≤ bo.toInt) (hbo9 : bo.toInt ≤ 9) (hsp : sp < 10) (hw : m.2 0 v = 0) (hd : ∀ k, k < F → t.1 (k * 13 + 1) ≠ nI v) : ∃ j' t' m', k_Fi_join ((j, c, p), t, fi) (nI a) (nI v) (nI w) bo (nI sp) = some (nI F, ((j', c, p), t', fi)) ∧ k_Mo_add_152 (nI a) (nI v) (nI w) bo (nI sp) zFu (nI F) 0 (zJm m F a v w bo sp) = some (nI F, m') ∧ zRI (b + 1) (F + 1) j' c t' fi m' ∧ (∀ i, i ≠ 14 → i ≠ 11 → m'.1 i = m.1 i) ∧ ∀ i, i ≠ 13 → (i = 0 ∨ 10 ≤ i) → m'.2 i = m.2 i := by
  obtain ⟨r1, r2, ⟨r3, r4, r5, r6⟩, ⟨r7, r7'⟩, r8, r9⟩ := h
  obtain ⟨y, e1, y1, y2⟩ := ta_app (w := 13) (n := 104) r4 (by omega) (by omega) (by omega) (by omega)
  obtain ⟨g, hg⟩ : ∃ g, zFu = g + 4 := ⟨zFu - 4, by have := zFu_gt; omega⟩
  have S : ∀ (z : Nat → Int32) (q : Nat) (x : Int32), q < 13 → k_Ta_set 13 104 (z, nI (F + 1)) (nI F) (nI q) x = some (upd z (F * 13 + q) x, nI (F + 1)) := fun z q x hq => fi_set rfl (by omega) (by omega) hq
  have S7 : ∀ (z : Nat → Int32) (q : Nat) (x : Int32), q < 3 → k_Ta_set 13 104 (z, nI (F + 1)) (nI F) ((7 : Int32) + nI q) x = some (upd z (F * 13 + (7 + q)) x, nI (F + 1)) := fun z q x hq => by
    rw [z_7, nI_add]
    exact S z _ x (by omega)
  have S10 : ∀ (z : Nat → Int32) (q : Nat) (x : Int32), q < 3 → k_Ta_set 13 104 (z, nI (F + 1)) (nI F) ((10 : Int32) + nI q) x = some (upd z (F * 13 + (10 + q)) x, nI (F + 1)) := fun z q x hq => by
    rw [z_10, nI_add]
    exact S z _ x (by omega)

  obtain ⟨T, hT⟩ : ∃ T, T = (upd (upd (upd (upd (upd (upd (upd (upd (upd (upd (upd (upd (upd y (F * 13 + 0) (nI a)) (F * 13 + 1) (nI v)) (F * 13 + 2) (nI w)) (F * 13 + 3) (nI w)) (F * 13 + 4) (bo)) (F * 13 + 5) (nI sp)) (F * 13 + 6) (-5)) (F * 13 + 7) (2)) (F * 13 + 10) (2)) (F * 13 + 8) (3)) (F * 13 + 11) (3)) (F * 13 + 9) (1)) (F * 13 + 12) (1)) := ⟨_, rfl⟩
  have hcls : k_Fi_join ((j, c, p), t, fi) (nI a) (nI v) (nI w) bo (nI sp) = (k_Jo_write j 0 (nI F) (nI w)).bind fun o => some (nI F, ((o, c, p), (T, nI (F + 1)), fi)) := by
    unfold k_Fi_join
    dsimp only
    rw [show k_Ta_append 13 104 t = some (nI F, (y, nI (F + 1))) from e1, Option.bind_some]
    dsimp only
    rw [z_0, z_1, z_2, z_3, z_4, z_5, z_6, S _ 0 _ (by omega), Option.bind_some, S _ 1 _ (by omega), Option.bind_some, S _ 2 _ (by omega), Option.bind_some, S _ 3 _ (by omega), Option.bind_some, S _ 4 _ (by omega), Option.bind_some, S _ 5 _ (by omega), Option.bind_some, S _ 6 _ (by omega), Option.bind_some, hg]
    simp only [k_Fi_join_93, k_Fi_join_119]
    rw [if_pos (by decide), if_pos (by decide), S7 _ 0 _ (by omega), Option.bind_some, S10 _ 0 _ (by omega), Option.bind_some]
    rw [show nI 0 + (1 : Int32) = nI 1 from rfl, if_pos (by decide), if_neg (by decide), if_pos (by decide), S7 _ 1 _ (by omega), Option.bind_some, S10 _ 1 _ (by omega), Option.bind_some]
    rw [show nI 1 + (1 : Int32) = nI 2 from rfl, if_pos (by decide), if_neg (by decide), if_neg (by decide), S7 _ 2 _ (by omega), Option.bind_some, S10 _ 2 _ (by omega), Option.bind_some]
    rw [show nI 2 + (1 : Int32) = nI 3 from rfl, if_neg (by decide), hT]
    rfl
  have T0 : ∀ k, k < F * 13 → T k = t.1 k := fun k hk => by
    rw [hT, zu_n (by omega), zu_n (by omega), zu_n (by omega), zu_n (by omega), zu_n (by omega), zu_n (by omega), zu_n (by omega), zu_n (by omega), zu_n (by omega), zu_n (by omega), zu_n (by omega), zu_n (by omega), zu_n (by omega)]
    exact y1 k (by omega)
  have T_0 : T (F * 13 + 0) = nI a := by
    rw [hT, zu_n (by omega), zu_n (by omega), zu_n (by omega), zu_n (by omega), zu_n (by omega), zu_n (by omega), zu_n (by omega), zu_n (by omega), zu_n (by omega), zu_n (by omega), zu_n (by omega), zu_n (by omega), zu_s]
  have T_1 : T (F * 13 + 1) = nI v := by
    rw [hT, zu_n (by omega), zu_n (by omega), zu_n (by omega), zu_n (by omega), zu_n (by omega), zu_n (by omega), zu_n (by omega), zu_n (by omega), zu_n (by omega), zu_n (by omega), zu_n (by omega), zu_s]
  have T_2 : T (F * 13 + 2) = nI w := by
    rw [hT, zu_n (by omega), zu_n (by omega), zu_n (by omega), zu_n (by omega), zu_n (by omega), zu_n (by omega), zu_n (by omega), zu_n (by omega), zu_n (by omega), zu_n (by omega), zu_s]
  have T_3 : T (F * 13 + 3) = nI w := by
    rw [hT, zu_n (by omega), zu_n (by omega), zu_n (by omega), zu_n (by omega), zu_n (by omega), zu_n (by omega), zu_n (by omega), zu_n (by omega), zu_n (by omega), zu_s]
  have T_4 : T (F * 13 + 4) = bo := by
    rw [hT, zu_n (by omega), zu_n (by omega), zu_n (by omega), zu_n (by omega), zu_n (by omega), zu_n (by omega), zu_n (by omega), zu_n (by omega), zu_s]
  have T_5 : T (F * 13 + 5) = nI sp := by
    rw [hT, zu_n (by omega), zu_n (by omega), zu_n (by omega), zu_n (by omega), zu_n (by omega), zu_n (by omega), zu_n (by omega), zu_s]
  have T_6 : T (F * 13 + 6) = -5 := by
    rw [hT, zu_n (by omega), zu_n (by omega), zu_n (by omega), zu_n (by omega), zu_n (by omega), zu_n (by omega), zu_s]
  have T_7 : T (F * 13 + 7) = 2 := by
    rw [hT, zu_n (by omega), zu_n (by omega), zu_n (by omega), zu_n (by omega), zu_n (by omega), zu_s]
  have T_8 : T (F * 13 + 8) = 3 := by
    rw [hT, zu_n (by omega), zu_n (by omega), zu_n (by omega), zu_s]
  have T_9 : T (F * 13 + 9) = 1 := by
    rw [hT, zu_n (by omega), zu_s]
  have T_10 : T (F * 13 + 10) = 2 := by
    rw [hT, zu_n (by omega), zu_n (by omega), zu_n (by omega), zu_n (by omega), zu_s]
  have T_11 : T (F * 13 + 11) = 3 := by
    rw [hT, zu_n (by omega), zu_n (by omega), zu_s]
  have T_12 : T (F * 13 + 12) = 1 := by
    rw [hT, zu_s]
  obtain ⟨M, hMd⟩ : ∃ M, M = zJs (zJs (zJs (zJm m F a v w bo sp).2 (3 * F + 0) 2) (3 * F + 1) 3) (3 * F + 2) 1 := ⟨_, rfl⟩
  have hM : k_Mo_add_152 (nI a) (nI v) (nI w) bo (nI sp) zFu (nI F) 0 (zJm m F a v w bo sp) = (k_Mo_notes (upd m.1 11 (nI (F + 1)), M) 0 (nI F) (nI w)).bind (fun o => some (nI F, o)) := by
    rw [hg]
    simp only [k_Mo_add_152]
    rw [if_pos (by decide), if_pos (by decide), show (3 : Int32) * nI F + 0 = nI 3 * nI F + nI 0 from rfl, show k_Mo_add_189 _ _ _ _ _ _ (nI F) 0 _ _ _ = _ from zJs_189 (q := 0) hF8 (by omega)]
    rw [if_pos (by decide), if_neg (by decide), if_pos (by decide), show (3 : Int32) * nI F + nI 1 = nI 3 * nI F + nI 1 from rfl, zJs_189 (q := 1) hF8 (by omega)]
    rw [if_pos (by decide), if_neg (by decide), if_neg (by decide), show (3 : Int32) * nI F + nI 2 = nI 3 * nI F + nI 2 from rfl, zJs_189 (q := 2) hF8 (by omega)]
    rw [if_neg (by decide)]
    dsimp only
    rw [show (zJm m F a v w bo sp).1 11 = nI F from r5, nI_1, ← hMd]
    rfl
  have Z : ∀ i, i ≠ 8 → i ≠ 9 → M i = (zJm m F a v w bo sp).2 i := fun i h8 h9 => by
    rw [hMd, zJs_n h8 h9, zJs_n h8 h9, zJs_n h8 h9]
  have M10 : ∀ i, 10 ≤ i → M i = m.2 i := fun i hi => by
    rw [Z i (by omega) (by omega)]
    unfold zJm
    dsimp only
    rw [zup_n (by omega), zup_n (by omega), zup_n (by omega), zup_n (by omega), zup_n (by omega), zup_n (by omega), zup_n (by omega)]
  have M0 : M 0 = m.2 0 := (Z 0 (by decide) (by decide)).trans rfl
  have M1 : M 1 = upd (m.2 1) F (nI a) := (Z 1 (by decide) (by decide)).trans rfl
  have M2 : M 2 = upd (m.2 2) F (nI v) := (Z 2 (by decide) (by decide)).trans rfl
  have M3 : M 3 = upd (m.2 3) F (nI w) := (Z 3 (by decide) (by decide)).trans rfl
  have M4 : M 4 = upd (m.2 4) F (nI w) := (Z 4 (by decide) (by decide)).trans rfl
  have M5 : M 5 = upd (m.2 5) F bo := (Z 5 (by decide) (by decide)).trans rfl
  have M6 : M 6 = upd (m.2 6) F (nI sp) := (Z 6 (by decide) (by decide)).trans rfl
  have M7 : M 7 = upd (m.2 7) F (-5) := (Z 7 (by decide) (by decide)).trans rfl
  have M9 : M 9 = upd (upd (upd (m.2 9) (3 * F + 0) 2) (3 * F + 1) 3) (3 * F + 2) 1 := by
    rw [hMd, zJs_9, zJs_9, zJs_9]
    rfl
  have M8 : M 8 = upd (upd (upd (m.2 8) (3 * F + 0) 2) (3 * F + 1) 3) (3 * F + 2) 1 := by
    rw [hMd, zJs_8, zJs_8, zJs_8]
    rfl
  have zh11 : (upd m.1 11 (nI (F + 1)), M).1 11 = nI (F + 1) := by
    dsimp only
    exact zu_s
  have h1 : zRI b (F + 1) j c (T, nI (F + 1)) fi (upd m.1 11 (nI (F + 1)), M) := by
    refine ⟨?_, ?_, ⟨by omega, rfl, zh11, fun i hi => ?_⟩, ⟨fun i hi => ?_, fun i k hi hk he => ?_⟩, ?_, ?_⟩
    · dsimp only
      rw [zu_n (by decide), M10 13 (by omega)]
      exact r1
    · dsimp only
      rw [zu_n (by decide), M10 15 (by omega)]
      exact zRC_mono r2 (by omega)
    · dsimp only
      rw [M1, M2, M3, M4, M5, M6, M7, M8, M9]
      by_cases hiF : i = F
      · subst hiF
        refine ⟨?_, ?_, ?_, ?_, ?_, ?_, ?_, fun r hr => ?_⟩
        · rw [zu_s, T_0]
        · rw [zu_s, T_1]
        · rw [zu_s, T_2]
        · rw [zu_s, T_3]
        · rw [zu_s, T_4]
        · rw [zu_s, T_5]
        · rw [zu_s, T_6]
        · have hr3 : r = 0 ∨ r = 1 ∨ r = 2 := by omega
          rcases hr3 with rfl | rfl | rfl
          · rw [zu_n (show 3 * i + 0 ≠ 3 * i + 2 by omega), zu_n (show 3 * i + 0 ≠ 3 * i + 1 by omega), zu_s, zu_n (show 3 * i + 0 ≠ 3 * i + 2 by omega), zu_n (show 3 * i + 0 ≠ 3 * i + 1 by omega), zu_s]
            exact ⟨T_7.symm, T_10.symm⟩
          · rw [zu_n (show 3 * i + 1 ≠ 3 * i + 2 by omega), zu_s, zu_n (show 3 * i + 1 ≠ 3 * i + 2 by omega), zu_s]
            exact ⟨T_8.symm, T_11.symm⟩
          · rw [zu_s, zu_s]
            exact ⟨T_9.symm, T_12.symm⟩
      · obtain ⟨g1, g2, g3, g4, g5, g6, g7, g8⟩ := r6 i (by omega)
        refine ⟨?_, ?_, ?_, ?_, ?_, ?_, ?_, fun r hr => ⟨?_, ?_⟩⟩
        · rw [zu_n hiF, T0 _ (by omega), g1]
        · rw [zu_n hiF, T0 _ (by omega), g2]
        · rw [zu_n hiF, T0 _ (by omega), g3]
        · rw [zu_n hiF, T0 _ (by omega), g4]
        · rw [zu_n hiF, T0 _ (by omega), g5]
        · rw [zu_n hiF, T0 _ (by omega), g6]
        · rw [zu_n hiF, T0 _ (by omega), g7]
        · rw [zu_n (by omega), zu_n (by omega), zu_n (by omega), T0 _ (by omega), (g8 r hr).1]
        · rw [zu_n (by omega), zu_n (by omega), zu_n (by omega), T0 _ (by omega), (g8 r hr).2]
    · dsimp only
      rw [M0]
      by_cases hiF : i = F
      · subst hiF
        refine ⟨⟨a, ha, T_0⟩, ⟨v, hv, T_1, hw⟩, ⟨w, w, Nat.le_refl _, hw0, hw9, T_2, T_3⟩, ?_, ⟨sp, hsp, T_5⟩, ?_, fun r hr => ?_⟩
        · rw [T_4]
          exact ⟨hbo, hbo9⟩
        · rw [T_6]
          decide
        · have hr3 : r = 0 ∨ r = 1 ∨ r = 2 := by omega
          rcases hr3 with rfl | rfl | rfl
          · exact ⟨2, 2, by omega, by omega, T_7, T_10⟩
          · exact ⟨3, 3, by omega, by omega, T_8, T_11⟩
          · exact ⟨1, 1, by omega, by omega, T_9, T_12⟩
      · rw [T0 _ (show i * 13 + 0 < F * 13 by omega), T0 _ (show i * 13 + 1 < F * 13 by omega), T0 _ (show i * 13 + 2 < F * 13 by omega), T0 _ (show i * 13 + 3 < F * 13 by omega), T0 _ (show i * 13 + 4 < F * 13 by omega), T0 _ (show i * 13 + 5 < F * 13 by omega), T0 _ (show i * 13 + 6 < F * 13 by omega)]
        obtain ⟨g1, g2, g3, g4, g5, g6, g7⟩ := r7 i (by omega)
        refine ⟨g1, g2, g3, g4, g5, g6, fun r hr => ?_⟩
        rw [T0 _ (by omega), T0 _ (by omega)]
        exact g7 r hr
    · dsimp only at he
      by_cases hiF : i = F
      · by_cases hkF : k = F
        · omega
        · rw [hiF, T_1, T0 _ (by omega)] at he
          exact absurd he.symm (hd k (by omega))
      · by_cases hkF : k = F
        · rw [hkF, T_1, T0 _ (by omega)] at he
          exact absurd he (hd i (by omega))
        · rw [T0 _ (by omega), T0 _ (by omega)] at he
          exact r7' i k (by omega) (by omega) he
    · dsimp only
      rw [zu_n (by decide)]
      exact r8
    · dsimp only
      rw [zu_n (by decide)]
      exact r9
  obtain ⟨j', m', e2, e3, e4, e5⟩ := r_noteI (k := 0) (f := F) (v := w) h1 hb (by omega) (by omega) (by omega)
  refine ⟨j', _, m', ?_, ?_, e4, fun i a1 a2 => (e5.1 i a1).trans (zu_n a2), fun i a1 a2 => ?_⟩
  · rw [hcls, show k_Jo_write j 0 (nI F) (nI w) = some j' from e2]
    rfl
  · rw [hM, show k_Mo_notes _ 0 (nI F) (nI w) = some m' from e3]
    rfl
  · rw [e5.2 i a1]
    rcases a2 with rfl | a2
    · exact M0
    · exact M10 i a2
