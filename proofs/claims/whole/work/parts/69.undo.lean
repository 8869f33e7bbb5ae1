theorem z_not {i : Nat} (h : i = 12 ∨ i = 36 ∨ i = 42 ∨ i = 44) : ¬ zin i := by
  unfold zin
  omega
theorem z_nota {a : Nat} (h : a = 34 ∨ a = 40 ∨ a = 41) : ¬ zan a 0 := by
  unfold zan
  omega
theorem zSS_size {b r : Nat} {y : zsS} {m : zsM} (h : zSS b r y m) : ∃ F, F ≤ 8 ∧ k_Fi_size y.1.1 = some (nI F) ∧ m.1 11 = nI F := by
  obtain ⟨F, ⟨-, -, hr, -⟩, -⟩ := h
  refine ⟨F, hr.1, ?_, hr.2.2.1⟩
  unfold k_Fi_size k_Ta_used
  rw [hr.2.1]
  rfl
theorem op_back : OP_back zRR := by
  intro k x m hk h
  obtain ⟨P, I, R, W, y, K, sv⟩ := x
  have hrf := zRR_refuse (W' := W) (m1 := m) 10 h rfl (fun _ _ _ => rfl)
  obtain ⟨⟨l, l1, l2⟩, q2, q3, ⟨c, nx, c1, c2, c3, c4, c5, c6⟩⟩ := h.2
  dsimp only at l1 l2 q2 q3 c3 c4 c5 c6
  unfold k_EL_back k_Mo_back
  dsimp only
  rw [c3, c5]
  cases c with
  | zero =>
    rw [if_pos (show nI 0 = 0 from rfl), if_pos (show nI 0 = 0 from rfl)]
    exact ⟨_, _, _, rfl, rfl, hrf⟩
  | succ c =>
    obtain ⟨y', K', m', e1, e2, e3, e4, e5, e6, e7, e8⟩ := r_back (b := 13000 * k) (r := k) (y := y) (K := K) (m := m) (by omega) c1 c2 c3 c4 c5 c6
    rw [if_neg (nI_ne0 (by omega) (by omega)), if_neg (nI_ne0 (by omega) (by omega)), nI_pred, show (1013 : Int32) * nI c = nI (1013 * c) from pk_mul 1013 c, e1, e3, Option.bind_some, Option.bind_some]
    dsimp only
    rw [e2, e4]
    refine ⟨_, _, _, rfl, rfl, zSS_mono e5 (by omega) (by omega), ⟨l, l1, l2.1, ?_, fun i hi => ?_⟩, ?_, ?_, zRK_mono e6 (by omega) (by omega)⟩
    · rw [e7 36 (z_not (by omega)) (by decide) (by decide) (by decide)]
      exact l2.2.1
    · rw [e8 34 (z_nota (by omega))]
      exact l2.2.2 i hi
    · rw [e7 12 (z_not (by omega)) (by decide) (by decide) (by decide)]
      exact q2
    · rw [e7 44 (z_not (by omega)) (by decide) (by decide) (by decide), e8 41 (z_nota (by omega))]
      rcases q3 with q3 | ⟨q3, q4, q5⟩
      · exact Or.inl q3
      · exact Or.inr ⟨q3, q4, zSS_mono q5 (by omega) (by omega)⟩
theorem op_image : OP_image zRR := by
  intro k x m hk h
  obtain ⟨P, I, R, W, y, K, sv⟩ := x
  obtain ⟨⟨l, l1, l2⟩, q2, q3, q4⟩ := h.2
  have h1 := h.1
  dsimp only at l1 l2 q2 q3 q4 h1
  obtain ⟨z, z1, z2⟩ := r_become sv h1 (by omega)
  obtain ⟨F, F8, f1, f2⟩ := zSS_size h1
  have hk1 := pa_keep_s (upd m.1 44 1, m.2) 0 (by omega)
  obtain ⟨X, hX⟩ : ∃ X : zsM, X = (upd m.1 44 1, m.2) := ⟨_, rfl⟩
  rw [← hX] at hk1
  have X1 : ∀ i, i ≠ 44 → X.1 i = m.1 i := fun i hi => by
    rw [hX]
    exact zu_n hi
  have X2 : X.2 = m.2 := by rw [hX]
  have X44 : X.1 44 = 1 := by
    rw [hX]
    rfl
  obtain ⟨Y, hY⟩ : ∃ Y : zsM, Y = (upd (upd X.1 45 1) 43 (nI (0 + 1013)), va_up X.2 41 (va_cpy (zWf X) (X.2 41) 0 0 1013)) := ⟨_, rfl⟩
  rw [← hY] at hk1
  have I1 : ∀ i, i ≠ 43 → i ≠ 44 → i ≠ 45 → Y.1 i = m.1 i := fun i a b c => by
    rw [hY]
    dsimp only
    rw [zu_n a, zu_n c, X1 i b]
  have A1 : ∀ a, a ≠ 41 → Y.2 a = m.2 a := fun a ha => by
    rw [hY]
    dsimp only
    rw [zup_n ha, X2]
  have Y44 : Y.1 44 = 1 := by
    rw [hY]
    dsimp only
    rw [zu_n (show 44 ≠ 43 by decide), zu_n (show 44 ≠ 45 by decide)]
    exact X44
  have Y41 : Y.2 41 = va_cpy (zWf X) (X.2 41) 0 0 1013 := by
    rw [hY]
    dsimp only
    rw [zup_s]
  unfold k_EL_image k_Mo_image
  dsimp only
  rw [z1, Option.bind_some, f1, Option.bind_some, ← hX, show k_Mo_passAll_s X 0 1 = _ from hk1, Option.bind_some, (I1 11 (by decide) (by decide) (by decide)).trans f2]
  refine ⟨nI F, _, Y, rfl, rfl, ?_, ⟨l, l1, l2.1, ?_, fun i hi => ?_⟩, ?_, Or.inr ⟨rfl, Y44, ?_⟩, ?_⟩
  · refine zSS_mono (zSS_cg h1 ⟨fun i hi => I1 i (fun e => ?_) (fun e => ?_) (fun e => ?_), fun a k hk => congrFun (A1 a (fun e => ?_)) k⟩) (by omega) (by omega)
    · rw [e] at hi
      unfold zin at hi
      omega
    · rw [e] at hi
      unfold zin at hi
      omega
    · rw [e] at hi
      unfold zin at hi
      omega
    · rw [e] at hk
      unfold zan at hk
      omega
  · exact (I1 36 (by decide) (by decide) (by decide)).trans l2.2.1
  · rw [A1 34 (by decide)]
    exact l2.2.2 i hi
  · exact q2.trans (I1 12 (by decide) (by decide) (by decide)).symm
  · rw [Y41]
    refine zSS_mono (zSS_cg z2 (zAg_tr (m' := X) ⟨fun i hi => X1 i (fun e => ?_), fun a k _ => by rw [X2]⟩ (zUn_kp X (X.2 41) 0))) (by omega) (by omega)
    rw [e] at hi
    unfold zin at hi
    omega
  · exact zRK_mono (zRK_cg q4 (I1 42 (by decide) (by decide) (by decide)) (A1 40 (by decide))) (by omega) (by omega)
theorem op_undo : OP_undo zRR := by
  intro k x m hk h
  obtain ⟨P, I, R, W, y, K, sv⟩ := x
  have hrf := zRR_refuse (W' := W) (m1 := m) 10 h rfl (fun _ _ _ => rfl)
  obtain ⟨⟨l, l1, l2⟩, q2, q3, ⟨c, nx, c1, c2, c3, c4, c5, c6⟩⟩ := h.2
  dsimp only at l1 l2 q2 q3 c3 c4 c5 c6
  unfold k_EL_undo k_Mo_undo
  dsimp only
  rcases q3 with ⟨q3, q4⟩ | ⟨q3, q4, q5⟩
  · rw [q3, q4, if_pos rfl, if_pos rfl]
    rw [q3] at hrf
    exact ⟨_, _, _, rfl, rfl, hrf⟩
  · rw [q3, q4, if_neg (show ¬ (1 : Int32) = 0 by decide), if_neg (show ¬ (1 : Int32) = 0 by decide)]
    obtain ⟨z, z1, z2⟩ := r_become y q5 (by omega)
    obtain ⟨m', e1, e2, e3, e4, e5⟩ := pa_rs_s m 0 (by omega)
    have z3 := zSS_cg z2 e2
    obtain ⟨F, F8, f1, f2⟩ := zSS_size z3
    rw [z1, Option.bind_some, show k_Mo_passAll_s m 0 0 = _ from e1, Option.bind_some]
    unfold k_Ch_forget
    rw [Option.bind_some, f1, Option.bind_some, f2]
    obtain ⟨Y, hY⟩ : ∃ Y : zsM, Y = (upd m'.1 42 0, m'.2) := ⟨_, rfl⟩
    have I1 : ∀ i, i ≠ 42 → Y.1 i = m'.1 i := fun i hi => by
      rw [hY]
      exact zu_n hi
    have A1 : Y.2 = m'.2 := by rw [hY]
    have Y42 : Y.1 42 = nI 0 := by
      rw [hY]
      rfl
    rw [← hY]
    refine ⟨nI F, _, Y, rfl, rfl, ?_, ⟨l, l1, l2.1, ?_, fun i hi => ?_⟩, ?_, Or.inr ⟨rfl, ?_, ?_⟩, ?_⟩
    · refine zSS_mono (zSS_cg z3 ⟨fun i hi => I1 i (fun e => ?_), fun _ _ _ => by rw [A1]⟩) (by omega) (by omega)
      rw [e] at hi
      unfold zin at hi
      omega
    · exact (I1 36 (by decide)).trans ((e4 36 (z_not (by omega)) (by decide) (by decide)).trans l2.2.1)
    · rw [A1, e5 34 (z_nota (by omega))]
      exact l2.2.2 i hi
    · exact q2.trans ((I1 12 (by decide)).trans (e4 12 (z_not (by omega)) (by decide) (by decide))).symm
    · exact (I1 44 (by decide)).trans ((e4 44 (z_not (by omega)) (by decide) (by decide)).trans q4)
    · rw [A1, e3]
      exact zSS_mono q5 (by omega) (by omega)
    · exact ⟨0, nx, by omega, c2, rfl, c4, Y42, fun j hj => by omega⟩
