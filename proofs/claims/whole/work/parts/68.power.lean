theorem tp_part' {l : Int32} {c : Nat} {B pa : Nat → Int32} {pos : Int32} (hc : c < 25) : k_Tp_part (B, pa, l, pos) (nI c) = some (pa c) := by
  simp only [k_Tp_part, if_neg (z_ltz (show c < 2 ^ 31 by omega)), if_pos (show nI c < 25 from nI_lt (b := 25) (by omega) (by omega)), if_neg (zo_in hc (show 25 < 2 ^ 31 by omega)), nI_clamp (show c < 2 ^ 31 by omega)]
theorem el_pw_lp {p l : Nat} {B pa : Nat → Int32} {pos : Int32} {I R : Int32} {W : zsW} {e4 : zsE} {w : zsT} {rs : Int32} {K : zsK} {sv : zsS} (hp : p < 4) : ∀ (d i fu : Nat) (q : Nat → Int32), i + d = 25 → d < fu → (∀ c, c < i → q (p * 25 + c) = pa c) → ∃ q', k_EL_power_62 (nI p) fu (nI i) ((B, pa, nI l, pos), I, R, W, (e4, w, (q, nI 4), rs), K, sv) = some (pa 2, ((B, pa, nI l, pos), I, R, W, (e4, w, (q', nI 4), rs), K, sv)) ∧ (∀ c, c < 25 → q' (p * 25 + c) = pa c) ∧ ∀ k, (k < p * 25 ∨ p * 25 + 25 ≤ k) → q' k = q k := by
  intro d
  induction d with
  | zero =>
    intro i fu q hi h1 h
    obtain ⟨fu, rfl, -⟩ := z_fuS h1
    have : i = 25 := by omega
    subst this
    refine ⟨q, ?_, h, fun _ _ => rfl⟩
    simp only [k_EL_power_62]
    rw [if_neg (by decide), show k_Tp_part (B, pa, nI l, pos) 2 = some (pa 2) from tp_part' (c := 2) (by omega), Option.bind_some]
  | succ d ih =>
    intro i fu q hi h1 h
    obtain ⟨fu, rfl, h1'⟩ := z_fuS h1
    obtain ⟨q', e, h2, h3⟩ := ih (i + 1) fu (upd q (p * 25 + i) (pa i)) (by omega) (by omega) (fun c hc => by
      by_cases hci : c = i
      · subst hci
        exact zu_s
      · rw [zu_n (by omega)]
        exact h c (by omega))
    refine ⟨q', ?_, h2, fun k hk => (h3 k hk).trans (zu_n (by omega))⟩
    rw [← e]
    simp only [k_EL_power_62]
    rw [if_pos (show nI i < 25 from nI_lt (b := 25) (by omega) (by omega)), tp_part' (by omega), Option.bind_some, show k_Ta_set 25 100 (q, nI 4) (nI p) (nI i) (pa i) = some (upd q (p * 25 + i) (pa i), nI 4) from ta_set (w := 25) (n := 100) (x := (q, nI 4)) rfl hp (by omega) (by omega) (by omega), Option.bind_some, nI_1]
theorem mo_pw_lp {p : Nat} {m0 : zsM} (hp : p < 4) : ∀ (d i fu : Nat) (q : Nat → Int32), i + d = 25 → d < fu → (∀ c, c < i → q (25 * p + c) = m0.2 35 c) → ∃ q', k_Mo_power_39 (nI p) fu (nI i) (m0.1, va_up m0.2 33 q) = some (m0.2 35 2, (upd m0.1 38 ((m0.1 38) ||| ((1 : Int32) <<< (nI p &&& 31))), va_up m0.2 33 q')) ∧ (∀ c, c < 25 → q' (25 * p + c) = m0.2 35 c) ∧ ∀ k, (k < 25 * p ∨ 25 * p + 25 ≤ k) → q' k = q k := by
  intro d
  induction d with
  | zero =>
    intro i fu q hi h1 h
    obtain ⟨fu, rfl, -⟩ := z_fuS h1
    have : i = 25 := by omega
    subst this
    refine ⟨q, ?_, h, fun _ _ => rfl⟩
    simp only [k_Mo_power_39]
    rw [if_neg (by decide), if_neg (show ¬ zOut (2 : Int32) 25 from zo_in (i := 2) (by omega) (by omega)), zup_n (show 35 ≠ 33 by decide)]
    rfl
  | succ d ih =>
    intro i fu q hi h1 h
    obtain ⟨fu, rfl, h1'⟩ := z_fuS h1
    obtain ⟨q', e, h2, h3⟩ := ih (i + 1) fu (upd q (25 * p + i) (m0.2 35 i)) (by omega) (by omega) (fun c hc => by
      by_cases hci : c = i
      · subst hci
        exact zu_s
      · rw [zu_n (by omega)]
        exact h c (by omega))
    refine ⟨q', ?_, h2, fun k hk => (h3 k hk).trans (zu_n (by omega))⟩
    rw [← e]
    simp only [k_Mo_power_39]
    rw [if_pos (show nI i < 25 from nI_lt (b := 25) (by omega) (by omega)), if_neg (zo_in (by omega) (by omega)), show (25 : Int32) * nI p + nI i = nI (25 * p + i) from by rw [show (25 : Int32) * nI p = nI (25 * p) from pk_mul 25 p, nI_add], if_neg (zo_in (by omega) (by omega)), nI_clamp (by omega), nI_clamp (by omega), nI_1, zup_s, zup_u, zup_n (show 35 ≠ 33 by decide)]
def zst4 (b0 b1 b2 b3 : Bool) : Int32 := nI ((if b0 then 1 else 0) + (if b1 then 2 else 0) + (if b2 then 4 else 0) + (if b3 then 8 else 0))
theorem zst4_0 : ∀ b0 b1 b2 b3 : Bool, zst4 b0 b1 b2 b3 ||| ((1 : Int32) <<< (nI 0 &&& 31)) = zst4 true b1 b2 b3 := by decide
theorem zst4_1 : ∀ b0 b1 b2 b3 : Bool, zst4 b0 b1 b2 b3 ||| ((1 : Int32) <<< (nI 1 &&& 31)) = zst4 b0 true b2 b3 := by decide
theorem zst4_2 : ∀ b0 b1 b2 b3 : Bool, zst4 b0 b1 b2 b3 ||| ((1 : Int32) <<< (nI 2 &&& 31)) = zst4 b0 b1 true b3 := by decide
theorem zst4_3 : ∀ b0 b1 b2 b3 : Bool, zst4 b0 b1 b2 b3 ||| ((1 : Int32) <<< (nI 3 &&& 31)) = zst4 b0 b1 b2 true := by decide
theorem zst_set (b : Nat → Bool) (p : Nat) (hp : p < 4) : zst b ||| ((1 : Int32) <<< (nI p &&& 31)) = zst (fun i => if i = p then true else b i) := by
  have hp4 : p = 0 ∨ p = 1 ∨ p = 2 ∨ p = 3 := by omega
  rcases hp4 with rfl | rfl | rfl | rfl
  · exact zst4_0 (b 0) (b 1) (b 2) (b 3)
  · exact zst4_1 (b 0) (b 1) (b 2) (b 3)
  · exact zst4_2 (b 0) (b 1) (b 2) (b 3)
  · exact zst4_3 (b 0) (b 1) (b 2) (b 3)
theorem pw_holds {pw : zsT} (a : Int32) (h : pw.2 = nI 4) : (∃ p, p < 4 ∧ a = nI p ∧ k_Ta_holds 25 100 pw a = some 1 ∧ k_Mo_isBetween a 0 3 = some 1) ∨ (k_Ta_holds 25 100 pw a = some 0 ∧ k_Mo_isBetween a 0 3 = some 0) := by
  unfold k_Ta_holds
  rw [h]
  rcases z_dirc a with ⟨i, h1, h2, h3, h4⟩ | ⟨h3, h4⟩
  · exact Or.inl ⟨i, h1, h2, h3, h4⟩
  · exact Or.inr ⟨h3, h4⟩
theorem op_power : OP_power zRR := by
  intro k x m a1 hk h
  have hm := zRR_mono h
  obtain ⟨⟨B, pa, ln, pos⟩, I, R, W, ⟨⟨⟨⟨j, c, p⟩, t, fi⟩, o, ei⟩, w, ⟨pw, pwn⟩, rs⟩, K, sv⟩ := x
  obtain ⟨⟨l, l1, l2⟩, q2, q3, q4⟩ := h.2
  have h1 := h.1
  dsimp only at l1 l2 q2 q3 q4 h1
  subst l1
  obtain ⟨F, hI, hE, hw, hP, hrs⟩ := h1
  dsimp only at hI hE hw hP hrs
  have hr := hI.2.2.1
  have hp4 := hP.1
  dsimp only at hp4
  subst hp4
  unfold k_EL_power k_Mo_power
  dsimp only
  rcases pw_holds (pw := (pw, nI 4)) a1 rfl with ⟨v, c1, rfl, c3, c4⟩ | ⟨c3, c4⟩
  rotate_left
  · rw [c3, c4, Option.bind_some, Option.bind_some, if_pos rfl, if_pos rfl]
    exact ⟨_, _, _, rfl, rfl, hm⟩
  rw [c3, c4, Option.bind_some, Option.bind_some, if_neg (show ¬ (1 : Int32) = 0 by decide), if_neg (show ¬ (1 : Int32) = 0 by decide)]
  have H : ∀ (q' : Nat) (pa' rd' : Nat → Int32), zRR k ((B, pa', 0, nI q'), I, R, W, ((((j, c, p), t, fi), o, ei), w, (pw, nI 4), rs), K, sv) (upd (zmS m q' rd').1 36 0, (zmS m q' rd').2) := fun q' pa' rd' => by
    have M1 : ∀ i, i ≠ 36 → i ≠ 37 → upd (zmS m q' rd').1 36 0 i = m.1 i := fun i a b => by rw [zu_n a, zmS_n b]
    have A0 : ∀ a, a ≠ 35 → (zmS m q' rd').2 a = m.2 a := fun a ha => zmS_a ha
    refine ⟨zSS_cg h.1 ⟨fun i hi => M1 i (fun e => ?_) (fun e => ?_), fun a k hk => congrFun (A0 a (fun e => ?_)) k⟩, ⟨0, rfl, by omega, ?_, fun i hi => by omega⟩, ?_, ?_, zRK_cg q4 (M1 42 (by decide) (by decide)) (A0 40 (by decide))⟩
    · rw [e] at hi
      unfold zin at hi
      omega
    · rw [e] at hi
      unfold zin at hi
      omega
    · rw [e] at hk
      unfold zan at hk
      omega
    · dsimp only
      rw [zu_s]
      rfl
    · dsimp only
      rw [M1 12 (by decide) (by decide)]
      exact q2
    · dsimp only
      rw [M1 44 (by decide) (by decide), A0 41 (by decide)]
      exact q3
  unfold k_Tp_clear
  rcases r_power (pa := pa) (pos := pos) l2 with ⟨q', pa', rd', g1, g2, g3, g4, g5, g6⟩ | ⟨q', pa', rd', g1, g2, g3⟩
  rotate_left
  · rw [g2, g3, Option.bind_some, Option.bind_some, Option.bind_some]
    dsimp only
    rw [if_pos rfl, if_pos rfl, zmS_37]
    exact ⟨_, _, _, rfl, rfl, zRR_mono (H q' pa' rd')⟩
  rw [g2, g3, Option.bind_some, Option.bind_some, Option.bind_some]
  dsimp only
  rw [if_neg (show ¬ (1 : Int32) = 0 by decide), if_neg (show ¬ (1 : Int32) = 0 by decide)]
  have h' := H q' pa' rd'
  obtain ⟨K', m1, e1, e2, e3, e4, e5, e6⟩ := r_keepX (by omega) h'.1 h'.2
  dsimp only at e1 e3 e4
  obtain ⟨i1, i2, i3, ⟨i4, bb, i5, i6⟩, i7⟩ := zSS_F e3 hr
  have p35 : m1.2 35 = rd' := (e6 35 (by decide)).trans (zmS_35 (m := m) (q := q') (rd := rd'))
  obtain ⟨Q, s1, s2, s3⟩ := el_pw_lp (l := 0) (B := B) (pa := pa') (pos := nI q') (I := I) (R := R) (W := W) (e4 := (((j, c, p), t, fi), o, ei)) (w := w) (rs := rs) (K := K') (sv := sv) c1 25 0 zFu pw (by omega) (z_fu (by omega)) (fun c hc => by omega)
  obtain ⟨Q', t1, t2, t3⟩ := mo_pw_lp (m0 := m1) c1 25 0 zFu (m1.2 33) (by omega) (z_fu (by omega)) (fun c hc => by omega)
  rw [zup_id] at t1
  have A1 : ∀ a, a ≠ 33 → va_up m1.2 33 Q' a = m1.2 a := fun a ha => zup_n ha
  have I1 : ∀ i, i ≠ 38 → upd m1.1 38 ((m1.1 38) ||| ((1 : Int32) <<< (nI v &&& 31))) i = m1.1 i := fun i hi => zu_n hi
  rw [e1, e2, Option.bind_some, Option.bind_some]
  have t1' : k_Mo_power_39 (nI v) zFu 0 m1 = _ := t1
  rw [p35, g5] at t1'
  refine ⟨pa' 2, _, _, s1, t1', ⟨F, zRI_cg (zRI_mono i1 (by omega)) (fun i hi => I1 i (by omega)) (fun i hi => A1 i (by omega)), zRE_cg i2 (Nat.le_refl _) (by omega) (fun i a b => I1 i (by omega)) (A1 10 (by decide)), ?_, ⟨rfl, fun i => if i = v then true else bb i, ?_, fun p' hp' => ?_⟩, i7.trans (I1 29 (by decide)).symm⟩, zRX_cg (zRX_mono e4 (by omega) (by omega)) (I1 36 (by decide)) (I1 12 (by decide)) (I1 44 (by decide)) (I1 42 (by decide)) (A1 34 (by decide)) (A1 41 (by decide)) (A1 40 (by decide))⟩
  · dsimp only
    rw [A1 0 (by decide)]
    exact i3
  · dsimp only
    rw [zu_s, i5, zst_set bb v c1]
  · dsimp only
    rw [zup_s]
    by_cases hpv : p' = v
    · subst hpv
      rw [if_pos rfl]
      refine ⟨fun e => absurd e (by decide), fun _ => ⟨?_, fun c hc => ?_⟩⟩
      · obtain ⟨sh, s, r, co, E', x1, x2, x3, x4, x5, x6, x7, x8, x9, x10, x11, x12⟩ := g6
        exact ⟨sh, s, r, co, E', x1, x2, x3, x4, x5, x6, (s2 0 (by omega)).trans x7, (s2 1 (by omega)).trans x8, (s2 2 (by omega)).trans x9, (s2 3 (by omega)).trans x10, (s2 4 (by omega)).trans x11, fun e he => zEf_cg (x12 e he) fun c h1 h2 => s2 c (by omega)⟩
      · rw [s2 c hc, t2 (zmu c) (zmu_lt hc), p35]
        by_cases hc2 : c = 2
        · subst hc2
          exact g5.symm
        · exact g4 c hc hc2
    · rw [if_neg hpv]
      have E : ∀ c, c < 25 → Q (p' * 25 + c) = pw (p' * 25 + c) := fun c hc => s3 _ (by omega)
      refine ⟨fun hb => (E 2 (by omega)).trans ((i6 p' hp').1 hb), fun hb => ?_⟩
      obtain ⟨y1, y2⟩ := (i6 p' hp').2 hb
      refine ⟨?_, fun c hc => ?_⟩
      · obtain ⟨sh, s, r, co, E', x1, x2, x3, x4, x5, x6, x7, x8, x9, x10, x11, x12⟩ := y1
        exact ⟨sh, s, r, co, E', x1, x2, x3, x4, x5, x6, (E 0 (by omega)).trans x7, (E 1 (by omega)).trans x8, (E 2 (by omega)).trans x9, (E 3 (by omega)).trans x10, (E 4 (by omega)).trans x11, fun e he => zEf_cg (x12 e he) fun c h1 h2 => E c (by omega)⟩
      · rw [E c hc, t3 (25 * p' + zmu c) (by have := zmu_lt hc; omega)]
        exact y2 c hc
