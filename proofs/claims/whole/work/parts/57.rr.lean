def zRX (b r : Nat) (P : zsP) (I R : Int32) (K : zsK) (sv : zsS) (m : zsM) : Prop := (∃ l, P.2.2.1 = nI l ∧ zTt l P.1 m) ∧ R = m.1 12 ∧ ((I = 0 ∧ m.1 44 = 0) ∨ (I = 1 ∧ m.1 44 = 1 ∧ zSS b r sv (zUn (m.2 41) 0))) ∧ zRK b r K m
def zRR (k : Nat) (x : zsX) (m : zsM) : Prop := zSS (13000 * k) k x.2.2.2.2.1 m ∧ zRX (13000 * k) k x.1 x.2.1 x.2.2.1 x.2.2.2.2.2.1 x.2.2.2.2.2.2 m
theorem zRX_mono {b b' r r' : Nat} {P : zsP} {I R : Int32} {K : zsK} {sv : zsS} {m : zsM} (h : zRX b r P I R K sv m) (hb : b ≤ b') (hr : r ≤ r') : zRX b' r' P I R K sv m := by
  obtain ⟨h1, h2, h3, h4⟩ := h
  refine ⟨h1, h2, ?_, zRK_mono h4 hb hr⟩
  rcases h3 with h3 | ⟨g1, g2, g3⟩
  · exact Or.inl h3
  · exact Or.inr ⟨g1, g2, zSS_mono g3 hb hr⟩
theorem zRX_cg {b r : Nat} {P : zsP} {I R : Int32} {K : zsK} {sv : zsS} {m m' : zsM} (h : zRX b r P I R K sv m) (h36 : m'.1 36 = m.1 36) (h12 : m'.1 12 = m.1 12) (h44 : m'.1 44 = m.1 44) (h42 : m'.1 42 = m.1 42) (h34 : m'.2 34 = m.2 34) (h41 : m'.2 41 = m.2 41) (h40 : m'.2 40 = m.2 40) : zRX b r P I R K sv m' := by
  obtain ⟨⟨l, h1, h1'⟩, h2, h3, h4⟩ := h
  refine ⟨⟨l, h1, ?_⟩, h2.trans h12.symm, ?_, zRK_cg h4 h42 h40⟩
  · unfold zTt
    rw [h36, h34]
    exact h1'
  · rw [h44, h41]
    exact h3
theorem zRR_mono {k : Nat} {x : zsX} {m : zsM} (h : zRR k x m) : zRR (k + 1) x m := ⟨zSS_mono h.1 (by omega) (by omega), zRX_mono h.2 (by omega) (by omega)⟩
theorem zRR_refuse {k : Nat} {P : zsP} {I R : Int32} {W W' : zsW} {y : zsS} {K : zsK} {sv : zsS} {m m1 : zsM} (w : Int32) (h : zRR k (P, I, R, W, y, K, sv) m) (h1 : m1.1 = m.1) (h2 : ∀ x, x ≠ 31 → x ≠ 32 → m1.2 x = m.2 x) : zRR (k + 1) (P, I, w, W', y, K, sv) (upd m1.1 12 w, m1.2) := by
  obtain ⟨g1, g2⟩ := zRR_mono h
  have hm : ∀ i, i ≠ 12 → (upd m1.1 12 w) i = m.1 i := fun i hi => by
    rw [zu_n hi, h1]
  refine ⟨zSS_cg g1 ⟨fun i hi => hm i (fun e => ?_), fun a k hk => congrFun (h2 a (fun e => ?_) (fun e => ?_)) k⟩, ?_⟩
  · rw [e] at hi
    unfold zin at hi
    omega
  · rw [e] at hk
    unfold zan at hk
    omega
  · rw [e] at hk
    unfold zan at hk
    omega
  · obtain ⟨⟨l, l1, l2, l3, l4⟩, q2, q3, q4⟩ := g2
    refine ⟨⟨l, l1, l2, (hm 36 (by decide)).trans l3, ?_⟩, ?_, ?_, zRK_cg q4 (hm 42 (by decide)) (h2 40 (by decide) (by decide))⟩
    · dsimp only
      rw [h2 34 (by decide) (by decide)]
      exact l4
    · dsimp only
      rw [zu_s]
    · dsimp only
      rw [hm 44 (by decide), h2 41 (by decide) (by decide)]
      exact q3
theorem r_keepX {b r : Nat} {P : zsP} {I R : Int32} {y : zsS} {K : zsK} {sv : zsS} {m : zsM} (hb : b < 2 ^ 27) (h : zSS b r y m) (hX : zRX b r P I R K sv m) : ∃ K' m1, k_Ch_keep y K = some K' ∧ k_Mo_remembers m = some m1 ∧ zSS b r y m1 ∧ zRX b r P I R K' sv m1 ∧ (∀ i, i ≠ 42 → i ≠ 43 → i ≠ 45 → m1.1 i = m.1 i) ∧ ∀ a, a ≠ 40 → m1.2 a = m.2 a := by
  obtain ⟨⟨l, l1, l2, l3, l4⟩, q2, q3, q4⟩ := hX
  obtain ⟨K', m1, e1, e2, e3, e4, e5⟩ := r_keep hb h q4
  refine ⟨K', m1, e1, e2, zSS_cg h ⟨fun i hi => e4 i (fun e => ?_) (fun e => ?_) (fun e => ?_), fun a k hk => congrFun (e5 a (fun e => ?_)) k⟩, ⟨⟨l, l1, l2, (e4 36 (by decide) (by decide) (by decide)).trans l3, ?_⟩, q2.trans (e4 12 (by decide) (by decide) (by decide)).symm, ?_, e3⟩, e4, e5⟩
  · rw [e] at hi
    unfold zin at hi
    omega
  · rw [e] at hi
    unfold zin at hi
    omega
  · rw [e] at hi
    unfold zin at hi
    omega
  · rw [e] at hk
    unfold zan at hk
    omega
  · rw [e5 34 (by decide)]
    exact l4
  · rw [e4 44 (by decide) (by decide) (by decide), e5 41 (by decide)]
    exact q3
theorem op_reason : OP_reason zRR := fun k x m hk h => ⟨m.1 12, congrArg some h.2.2.1, rfl, zRR_mono h⟩
theorem r_setP_lp {X : zsX} {b : Nat → Bool} (h1 : X.2.2.2.2.1.2.2.1.2 = nI 4) (h2 : ∀ p, p < 4 → (b p = false → X.2.2.2.2.1.2.2.1.1 (p * 25 + 2) = nI 0) ∧ (b p = true → ∃ E, 0 < E ∧ E ≤ 4 ∧ X.2.2.2.2.1.2.2.1.1 (p * 25 + 2) = nI E)) (fu p : Nat) (s : Int32) (hp : p < 4) : k_EL_setOfPowers_4 X (fu + 1) s (nI p) = k_EL_setOfPowers_4 X fu (if b p then s ||| ((1 : Int32) <<< (nI p &&& 31)) else s) (nI (p + 1)) := by
  have hg : k_Ta_get 25 100 X.2.2.2.2.1.2.2.1 (nI p) 2 = some (X.2.2.2.2.1.2.2.1.1 (p * 25 + 2)) := ta_get (w := 25) (n := 100) (c := 2) h1 hp (by omega) (by omega) (by omega)
  simp only [k_EL_setOfPowers_4, k_Ta_used, Option.bind_some, h1, hg, nI_1]
  rw [if_pos (show nI p < nI 4 from nI_lt hp (by omega))]
  cases hb : b p with
  | false =>
    rw [(h2 p hp).1 hb, if_neg (by decide)]
    rfl
  | true =>
    obtain ⟨E, E1, E2, E3⟩ := (h2 p hp).2 hb
    rw [E3, if_pos (show (0 : Int32) < nI E from nI_lt (a := 0) E1 (by omega))]
    rfl
theorem op_count : OP_count zRR := by
  intro k x m a1 hk h
  obtain ⟨h1, ⟨l, l1, l2, l3, l4⟩, q2, q3, ⟨c, nx, c1, c2, c3, c4, c5, c6⟩⟩ := h
  have hm := zRR_mono (k := k) (x := x) (m := m) ⟨h1, ⟨l, l1, l2, l3, l4⟩, q2, q3, ⟨c, nx, c1, c2, c3, c4, c5, c6⟩⟩
  unfold k_EL_count k_Mo_count
  by_cases e0 : a1 = 0
  · rw [if_pos e0, if_pos e0, l1, l3]
    exact ⟨_, rfl, rfl, hm⟩
  · rw [if_neg e0, if_neg e0]
    by_cases e1 : a1 = 1
    · rw [if_pos e1, if_pos e1, c3, c5]
      exact ⟨_, rfl, rfl, hm⟩
    · rw [if_neg e1, if_neg e1]
      by_cases e2 : a1 = 2
      · rw [if_pos e2, if_pos e2]
        obtain ⟨F, -, -, -, ⟨p1, bb, p2, p3⟩, -⟩ := h1
        have hs : k_EL_setOfPowers x = some (zst bb) := by
          have h2 : ∀ p, p < 4 → (bb p = false → x.2.2.2.2.1.2.2.1.1 (p * 25 + 2) = nI 0) ∧ (bb p = true → ∃ E, 0 < E ∧ E ≤ 4 ∧ x.2.2.2.2.1.2.2.1.1 (p * 25 + 2) = nI E) := fun p hp => ⟨(p3 p hp).1, fun hb => by
            obtain ⟨⟨sh, s, r, co, E', t1, t2, t3, t4, t5, t6, t7, t8, t9, t10⟩, -⟩ := (p3 p hp).2 hb
            exact ⟨E', t5, t6, t9⟩⟩
          obtain ⟨g, hg⟩ : ∃ g, zFu = g + 5 := ⟨zFu - 5, by have := zFu_gt; omega⟩
          unfold k_EL_setOfPowers
          rw [hg, show k_EL_setOfPowers_4 x (g + 5) 0 0 = _ from r_setP_lp p1 h2 (g + 4) 0 0 (by omega), r_setP_lp p1 h2 (g + 3) 1 _ (by omega), r_setP_lp p1 h2 (g + 2) 2 _ (by omega), r_setP_lp p1 h2 (g + 1) 3 _ (by omega)]
          simp only [k_EL_setOfPowers_4, k_Ta_used, Option.bind_some, p1]
          rw [if_neg (by decide)]
          unfold zst
          cases bb 0 <;> cases bb 1 <;> cases bb 2 <;> cases bb 3 <;> rfl
        rw [hs, p2]
        exact ⟨_, rfl, rfl, hm⟩
      · rw [if_neg e2, if_neg e2]
        exact ⟨_, rfl, rfl, hm⟩
theorem z_sub1 {n i : Nat} (hn : n < 2 ^ 30) (hi : i < 2 ^ 31) : (nI n - 1 < nI i) ↔ ¬ i < n := by
  cases n with
  | zero =>
    refine ⟨fun _ => by omega, fun _ => ?_⟩
    rw [Int32.lt_iff_toInt_lt, nI_toInt hi, show (nI 0 - (1 : Int32)).toInt = -1 from rfl]
    omega
  | succ n =>
    rw [nI_pred]
    refine ⟨fun h e => nI_nlt (show i ≤ n by omega) (by omega) h, fun h => nI_lt (by omega) hi⟩
theorem z_btw {x : Int32} {n : Nat} (hn : n < 2 ^ 30) : k_Mo_isBetween x 0 (nI n - 1) = (if x < 0 then some 0 else if x < nI n then some 1 else some 0) := by
  unfold k_Mo_isBetween
  by_cases h : x < 0
  · rw [if_pos h, if_pos h]
  · rw [if_neg h, if_neg h]
    obtain ⟨i, hi, rfl⟩ := nI_of h
    by_cases h2 : i < n
    · rw [if_neg (fun e => (z_sub1 hn hi).1 e h2), if_pos (nI_lt h2 (by omega))]
    · rw [if_pos ((z_sub1 hn hi).2 h2), if_neg (nI_nlt (by omega) (by omega))]
theorem op_condition : OP_condition zRR := by
  intro k x m a1 a2 hk h
  have hm := zRR_mono h
  obtain ⟨⟨F, ⟨-, ⟨L, ⟨c1, c1'⟩, c2, c4⟩, -⟩, -⟩, -⟩ := h
  have hL := c4.2.1
  unfold k_EL_condition k_Mo_condition
  by_cases e0 : a1 = -1
  · rw [if_pos e0, if_pos e0]
    refine ⟨nI L.length, ?_, congrArg some c2.1, hm⟩
    unfold k_Co_size k_Ta_used
    rw [c1]
    rfl
  · rw [if_neg e0, if_neg e0, c2.1, z_btw (by omega)]
    unfold k_Co_has k_Ta_holds
    rw [c1]
    by_cases e1 : a1 < 0
    · rw [if_pos e1]
      exact ⟨_, rfl, rfl, hm⟩
    · rw [if_neg e1]
      obtain ⟨i, hi, rfl⟩ := nI_of e1
      by_cases e2 : i < L.length
      · rw [if_pos (nI_lt e2 (by omega))]
        simp only [Option.bind_some, k_Mo_isBetween]
        rw [if_pos (show (1 : Int32) = 0 ∨ True from Or.inr trivial), Option.bind_some, if_neg (show ¬ (1 : Int32) = 0 by decide), if_neg (show ¬ (1 : Int32) = 0 by decide)]
        by_cases e3 : a2 < 0
        · rw [if_pos e3, if_pos e3]
          exact ⟨_, rfl, rfl, hm⟩
        · rw [if_neg e3, if_neg e3]
          obtain ⟨q, hq, rfl⟩ := nI_of e3
          by_cases e4 : q < 6
          · rw [if_pos (show nI q < 6 from nI_lt (b := 6) e4 (by omega)), if_neg (show ¬ (5 : Int32) < nI q from nI_nlt (a := 5) (by omega) (by omega)), Option.bind_some, if_neg (show ¬ (1 : Int32) = 0 by decide), zmt_part c2 (zGd_lr c4) e2 e4]
            unfold k_Co_at
            rw [zct_get ⟨c1, c1'⟩ hL e2 e4]
            exact ⟨_, rfl, rfl, hm⟩
          · rw [if_neg (show ¬ nI q < 6 from nI_nlt (b := 6) (by omega) (by omega)), if_pos (show (5 : Int32) < nI q from nI_lt (a := 5) (by omega) (by omega)), Option.bind_some, if_pos rfl]
            exact ⟨_, rfl, rfl, hm⟩
      · rw [if_neg (nI_nlt (by omega) (by omega))]
        exact ⟨_, rfl, rfl, hm⟩
