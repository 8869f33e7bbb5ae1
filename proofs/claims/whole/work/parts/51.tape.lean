theorem zu_u (f : Nat → Int32) (k : Nat) (a b : Int32) : upd (upd f k a) k b = upd f k b := by
  funext j
  by_cases h : j = k
  · subst h
    rw [zu_s, zu_s]
  · rw [zu_n h, zu_n h, zu_n h]
theorem zup_u {α : Type} (f : Nat → α) (k : Nat) (a b : α) : va_up (va_up f k a) k b = va_up f k b := by
  funext j
  by_cases h : j = k
  · subst h
    rw [zup_s, zup_s]
  · rw [zup_n h, zup_n h, zup_n h]
def zmS (m : zsM) (q : Nat) (rd : Nat → Int32) : zsM := (upd m.1 37 (nI q), va_up m.2 35 rd)
def zTt (l : Nat) (B : Nat → Int32) (m : zsM) : Prop := l ≤ 40 ∧ m.1 36 = nI l ∧ ∀ i, i < l → ∃ b, b < 128 ∧ B i = nI b ∧ m.2 34 i = nI b
theorem zmS_37 {m : zsM} {q : Nat} {rd : Nat → Int32} : (zmS m q rd).1 37 = nI q := by
  unfold zmS
  dsimp only
  exact zu_s
theorem zmS_n {m : zsM} {q x : Nat} {rd : Nat → Int32} (h : x ≠ 37) : (zmS m q rd).1 x = m.1 x := zu_n (f := m.1) h
theorem zmS_35 {m : zsM} {q : Nat} {rd : Nat → Int32} : (zmS m q rd).2 35 = rd := by
  unfold zmS
  dsimp only
  exact zup_s
theorem zmS_a {m : zsM} {q x : Nat} {rd : Nat → Int32} (h : x ≠ 35) : (zmS m q rd).2 x = m.2 x := zup_n (f := m.2) h
theorem zmS_u1 {m : zsM} {q q' : Nat} {rd : Nat → Int32} : (upd (zmS m q rd).1 37 (nI q'), (zmS m q rd).2) = zmS m q' rd := by
  unfold zmS
  dsimp only
  rw [zu_u]
theorem zmS_u2 {m : zsM} {q q' : Nat} {rd rd' : Nat → Int32} : (upd (zmS m q rd).1 37 (nI q'), va_up (zmS m q rd).2 35 rd') = zmS m q' rd' := by
  unfold zmS
  dsimp only
  rw [zu_u, zup_u]
theorem zmS_u3 {m : zsM} {q : Nat} {rd rd' : Nat → Int32} : ((zmS m q rd).1, va_up (zmS m q rd).2 35 rd') = zmS m q rd' := by
  unfold zmS
  dsimp only
  rw [zup_u]
theorem tp_peek {l q : Nat} {B pa : Nat → Int32} (hl : l ≤ 40) (hq : q ≤ l) : k_Tp_peek (B, pa, nI l, nI q) = some (if q < l then B q else -1) := by
  simp only [k_Tp_peek, k_Tp_peek_35, if_neg (z_ltz (show q < 2 ^ 31 by omega)), if_neg (show ¬ (1 : Int32) = 0 by decide)]
  by_cases h : q < l
  · rw [if_pos (nI_lt h (by omega)), if_pos (show nI q < 40 from nI_lt (b := 40) (by omega) (by omega)), if_neg (zo_in (by omega) (by omega)), nI_clamp (by omega), if_pos h]
  · rw [if_neg (nI_nlt (by omega) (by omega)), if_pos trivial, if_neg h]
theorem tp_set {l q c : Nat} {B pa : Nat → Int32} {x : Int32} (hc : c < 25) : k_Tp_setPart (B, pa, nI l, nI q) (nI c) x = some (B, upd pa c x, nI l, nI q) := by
  simp only [k_Tp_setPart, if_neg (z_ltz (show c < 2 ^ 31 by omega)), if_pos (show nI c < 25 from nI_lt (b := 25) (by omega) (by omega)), if_neg (zo_in hc (show 25 < 2 ^ 31 by omega)), nI_clamp (show c < 2 ^ 31 by omega)]
theorem tp_part {l q c : Nat} {B pa : Nat → Int32} (hc : c < 25) : k_Tp_part (B, pa, nI l, nI q) (nI c) = some (pa c) := by
  simp only [k_Tp_part, if_neg (z_ltz (show c < 2 ^ 31 by omega)), if_pos (show nI c < 25 from nI_lt (b := 25) (by omega) (by omega)), if_neg (zo_in hc (show 25 < 2 ^ 31 by omega)), nI_clamp (show c < 2 ^ 31 by omega)]
theorem r_skip {l q s : Nat} {B : Nat → Int32} {m : zsM} (pa rd : Nat → Int32) (h : zTt l B m) (hq : q ≤ l) (hs : s < 128) : (q < l ∧ B q = nI s ∧ k_Tp_skip (B, pa, nI l, nI q) (nI s) = some (1, (B, pa, nI l, nI (q + 1))) ∧ k_Mo_skips (zmS m q rd) (nI s) = some (1, zmS m (q + 1) rd)) ∨ ((q < l → B q ≠ nI s) ∧ k_Tp_skip (B, pa, nI l, nI q) (nI s) = some (0, (B, pa, nI l, nI q)) ∧ k_Mo_skips (zmS m q rd) (nI s) = some (0, zmS m q rd)) := by
  obtain ⟨hl, h36, h34⟩ := h
  have e1 : k_Tp_skip (B, pa, nI l, nI q) (nI s) = if (if q < l then B q else -1) = nI s then some (1, (B, pa, nI l, nI (q + 1))) else some (0, (B, pa, nI l, nI q)) := by
    unfold k_Tp_skip
    rw [tp_peek hl hq, Option.bind_some]
    unfold k_Tp_skip_13
    dsimp only
    rw [if_neg (show ¬ (1 : Int32) = 0 by decide), if_pos (show (1 : Int32) = 0 ∨ (1 : Int32) = 1 from Or.inr rfl), if_pos (show (0 : Int32) = 0 from rfl), if_pos (show (0 : Int32) = 0 ∨ (0 : Int32) = 1 from Or.inl rfl), nI_1]
  have e2 : k_Mo_skips (zmS m q rd) (nI s) = if q = l then some (0, zmS m q rd) else if m.2 34 q = nI s then some (1, zmS m (q + 1) rd) else some (0, zmS m q rd) := by
    simp only [k_Mo_skips, zmS_37, zmS_n (show 36 ≠ 37 by decide), h36, zmS_a (show 34 ≠ 35 by decide), nI_1, nI_clamp (show q < 2 ^ 31 by omega), zmS_u1]
    by_cases hql : q = l
    · rw [if_pos (by rw [hql]), if_pos hql]
    · rw [if_neg (fun e => hql ((nI_eq (by omega) (by omega)).1 e)), if_neg hql, if_neg (zo_in (by omega) (by omega))]
  rw [e1, e2]
  by_cases hql : q < l
  · obtain ⟨b, b1, b2, b3⟩ := h34 q hql
    rw [if_pos hql, if_neg (show ¬ q = l by omega), b2, b3]
    by_cases hbs : nI b = nI s
    · rw [if_pos hbs, if_pos hbs]
      exact Or.inl ⟨hql, hbs, rfl, rfl⟩
    · rw [if_neg hbs, if_neg hbs]
      exact Or.inr ⟨fun _ => hbs, rfl, rfl⟩
  · rw [if_neg hql, if_pos (show q = l by omega), if_neg (zm1_n (show s < 2 ^ 31 by omega))]
    exact Or.inr ⟨fun e => absurd e hql, rfl, rfl⟩
theorem r_digit {l q c pl lo hi : Nat} {B : Nat → Int32} {m : zsM} (pa rd : Nat → Int32) (h : zTt l B m) (hq : q ≤ l) (hc : c < 25) (hpl : pl < 25) (hlo : lo < 10) (hhi : hi < 10) : (∃ dg, lo ≤ dg ∧ dg ≤ hi ∧ q < l ∧ k_Tp_readDigit (B, pa, nI l, nI q) (nI c) (nI lo) (nI hi) = some (1, (B, upd pa c (nI dg), nI l, nI (q + 1))) ∧ k_Mo_takes (zmS m q rd) (nI pl) (nI lo) (nI hi) = some (1, zmS m (q + 1) (upd rd pl (nI dg)))) ∨ (k_Tp_readDigit (B, pa, nI l, nI q) (nI c) (nI lo) (nI hi) = some (0, (B, pa, nI l, nI q)) ∧ k_Mo_takes (zmS m q rd) (nI pl) (nI lo) (nI hi) = some (0, zmS m q rd)) := by
  obtain ⟨hl, h36, h34⟩ := h
  have e1 : k_Tp_readDigit (B, pa, nI l, nI q) (nI c) (nI lo) (nI hi) = if (if q < l then B q else -1) - 48 < nI lo then some (0, (B, pa, nI l, nI q)) else if nI hi < (if q < l then B q else -1) - 48 then some (0, (B, pa, nI l, nI q)) else some (1, (B, upd pa c ((if q < l then B q else -1) - 48), nI l, nI (q + 1))) := by
    unfold k_Tp_readDigit
    rw [tp_peek hl hq, Option.bind_some]
    unfold k_Tp_readDigit_26
    rw [if_pos (show (0 : Int32) = 0 from rfl), if_pos (show (0 : Int32) = 0 ∨ (0 : Int32) = 1 from Or.inl rfl), if_neg (show ¬ (1 : Int32) = 0 by decide), tp_set hc, Option.bind_some, if_pos (show (1 : Int32) = 0 ∨ (1 : Int32) = 1 from Or.inr rfl)]
    dsimp only
    rw [nI_1]
  have e2 : k_Mo_takes (zmS m q rd) (nI pl) (nI lo) (nI hi) = if q = l then some (0, zmS m q rd) else if m.2 34 q < nI (48 + lo) then some (0, zmS m q rd) else if nI (48 + hi) < m.2 34 q then some (0, zmS m q rd) else some (1, zmS m (q + 1) (upd rd pl (m.2 34 q - 48))) := by
    simp only [k_Mo_takes, zmS_37, zmS_n (show 36 ≠ 37 by decide), h36, zmS_a (show 34 ≠ 35 by decide), nI_1, nI_clamp (show q < 2 ^ 31 by omega), zmS_35, if_neg (zo_in hpl (show 25 < 2 ^ 31 by omega)), nI_clamp (show pl < 2 ^ 31 by omega), zmS_u2]
    by_cases hql : q = l
    · rw [if_pos (by rw [hql]), if_pos hql]
    · rw [if_neg (fun e => hql ((nI_eq (by omega) (by omega)).1 e)), if_neg hql, if_neg (zo_in (by omega) (by omega)), show (48 : Int32) + nI lo = nI (48 + lo) from nI_add 48 lo, show (48 : Int32) + nI hi = nI (48 + hi) from nI_add 48 hi, if_neg (zo_in (by omega) (by omega))]
      unfold k_Mo_isBetween
      by_cases g1 : m.2 34 q < nI (48 + lo)
      · rw [if_pos g1, if_pos g1, Option.bind_some, if_pos rfl]
      · rw [if_neg g1, if_neg g1]
        by_cases g2 : nI (48 + hi) < m.2 34 q
        · rw [if_pos g2, if_pos g2, Option.bind_some, if_pos rfl]
        · rw [if_neg g2, if_neg g2, Option.bind_some, if_neg (show ¬ (1 : Int32) = 0 by decide)]
  rw [e1, e2]
  by_cases hql : q < l
  · obtain ⟨b, b1, b2, b3⟩ := h34 q hql
    simp only [if_pos hql, if_neg (show ¬ q = l by omega), b2, b3]
    by_cases hb : b < 48
    · have hneg : nI b - 48 < nI lo := by
        rw [Int32.lt_iff_toInt_lt, show (48 : Int32) = nI 48 from rfl, pk_sub_toInt (by omega) (by omega), nI_toInt (by omega)]
        omega
      rw [if_pos hneg, if_pos (nI_lt (show b < 48 + lo by omega) (by omega))]
      exact Or.inr ⟨rfl, rfl⟩
    · have hsub : nI b - 48 = nI (b - 48) := pk_sub (b := 48) (by omega)
      rw [hsub]
      by_cases g1 : b - 48 < lo
      · rw [if_pos (nI_lt g1 (by omega)), if_pos (nI_lt (show b < 48 + lo by omega) (by omega))]
        exact Or.inr ⟨rfl, rfl⟩
      · rw [if_neg (nI_nlt (show lo ≤ b - 48 by omega) (by omega)), if_neg (nI_nlt (show 48 + lo ≤ b by omega) (by omega))]
        by_cases g2 : hi < b - 48
        · rw [if_pos (nI_lt g2 (by omega)), if_pos (nI_lt (show 48 + hi < b by omega) (by omega))]
          exact Or.inr ⟨rfl, rfl⟩
        · rw [if_neg (nI_nlt (show b - 48 ≤ hi by omega) (by omega)), if_neg (nI_nlt (show b ≤ 48 + hi by omega) (by omega))]
          exact Or.inl ⟨b - 48, by omega, by omega, hql, rfl, rfl⟩
  · simp only [if_neg hql, if_pos (show q = l by omega)]
    rw [if_pos (show (-1 : Int32) - 48 < nI lo from by
      rw [Int32.lt_iff_toInt_lt, nI_toInt (by omega), show ((-1 : Int32) - 48).toInt = -49 from rfl]
      omega)]
    exact Or.inr ⟨rfl, trivial⟩
theorem r_number {l q c pl : Nat} {B : Nat → Int32} {m : zsM} (pa rd : Nat → Int32) (h : zTt l B m) (hq : q ≤ l) (hc : c < 25) (hpl : pl < 25) : (∃ v q', v < 100 ∧ q' ≤ l ∧ k_Tp_readNumber (B, pa, nI l, nI q) (nI c) = some (1, (B, upd pa c (nI v), nI l, nI q')) ∧ k_Mo_takesNumber (zmS m q rd) (nI pl) = some (1, zmS m q' (upd rd pl (nI v)))) ∨ (k_Tp_readNumber (B, pa, nI l, nI q) (nI c) = some (0, (B, pa, nI l, nI q)) ∧ k_Mo_takesNumber (zmS m q rd) (nI pl) = some (0, zmS m q rd)) := by
  have hz : ¬ zOut (nI pl) 25 := zo_in hpl (by omega)
  have hcl : (nI pl).toNatClampNeg = pl := nI_clamp (by omega)
  unfold k_Tp_readNumber k_Mo_takesNumber
  rcases r_digit (c := c) (pl := pl) (lo := 0) (hi := 9) pa rd h hq hc hpl (by omega) (by omega) with ⟨d1, -, a2, a3, a4, a5⟩ | ⟨a4, a5⟩
  · rw [show k_Tp_readDigit (B, pa, nI l, nI q) (nI c) 0 9 = _ from a4, show k_Mo_takes (zmS m q rd) (nI pl) 0 9 = _ from a5, Option.bind_some, Option.bind_some]
    dsimp only
    rw [if_neg (show ¬ (1 : Int32) = 0 by decide), if_neg (show ¬ (1 : Int32) = 0 by decide), tp_part hc, Option.bind_some, zu_s, if_neg hz]
    rcases r_digit (c := c) (pl := pl) (lo := 0) (hi := 9) (upd pa c (nI d1)) (upd rd pl (nI d1)) h (show q + 1 ≤ l by omega) hc hpl (by omega) (by omega) with ⟨d2, -, b2, b3, b4, b5⟩ | ⟨b4, b5⟩
    · refine Or.inl ⟨10 * d1 + d2, q + 1 + 1, by omega, by omega, ?_, ?_⟩
      · rw [show k_Tp_readDigit (B, upd pa c (nI d1), nI l, nI (q + 1)) (nI c) 0 9 = _ from b4, Option.bind_some]
        dsimp only
        rw [if_neg (show ¬ (1 : Int32) = 0 by decide), tp_part hc, Option.bind_some, zu_s, z_10, pk_mul, nI_add, tp_set hc, Option.bind_some, zu_u, zu_u]
      · rw [show k_Mo_takes (zmS m (q + 1) (upd rd pl (nI d1))) (nI pl) 0 9 = _ from b5, Option.bind_some]
        dsimp only
        rw [if_neg (show ¬ (1 : Int32) = 0 by decide), if_neg hz, zmS_35, zmS_35, hcl, zu_s, zu_s, z_10, pk_mul, nI_add]
        unfold k_Mo_takesNumber_43
        rw [if_neg hz, zmS_35, hcl, zmS_u3, zu_u, zu_u]
    · refine Or.inl ⟨d1, q + 1, by omega, by omega, ?_, ?_⟩
      · rw [show k_Tp_readDigit (B, upd pa c (nI d1), nI l, nI (q + 1)) (nI c) 0 9 = _ from b4, Option.bind_some]
        dsimp only
        rw [if_pos rfl]
      · rw [show k_Mo_takes (zmS m (q + 1) (upd rd pl (nI d1))) (nI pl) 0 9 = _ from b5, Option.bind_some]
        dsimp only
        rw [if_pos rfl]
        unfold k_Mo_takesNumber_43
        rw [if_neg hz, zmS_35, hcl, zu_s, zmS_u3, zu_u]
  · rw [show k_Tp_readDigit (B, pa, nI l, nI q) (nI c) 0 9 = _ from a4, show k_Mo_takes (zmS m q rd) (nI pl) 0 9 = _ from a5, Option.bind_some, Option.bind_some]
    dsimp only
    rw [if_pos rfl, if_pos rfl]
    exact Or.inr ⟨rfl, rfl⟩
