/-! image and restore; all the calls but the digest -/
section M4
variable {E : EE} {σ : Mm} {A : Ab} {pg : Nat → Nat} {L c v : Nat} {Ak : Ab} {im n : Nat} {K : Int32 → Int32 → Mm → Prop}
theorem v_image (ok : OK A) (h0 : A 0 1 ≠ 0) : MV A pg L c v Ak im A pg L c v A 1 (fun E σ Q => r_X9_image_0 E σ Q) (fun E σ Q => r_X10_image_0 E σ Q) := by
  have o1 := ok.1
  have o2 := ok.2.1
  have o6 := ok.2.2.2.2.2.1
  refine ⟨nI (A 0 4), fun E σ Q hC hQ => s_X9_image_0 _ _ _ (p_isThere ok hC.1 (fun _ => b1 (p_copyFrom_24_14 ok hC.1 (fun τ g1 g2 => ?_))) (fun z => absurd z h0)), fun E σ Q hM hQ => s_X10_image_0 _ _ _ (p_lacks ok hM.1 (fun _ => b0' (p_copy_65_74 (fun τ1 f1 g1 => p_copy_66_75 (fun τ2 f2 g2 => p_copy_67_76 (fun τ3 f3 g3 => p_copy_70_77 (fun τ4 f4 g4 => p_copy_73_78 (fun τ5 f5 g5 => ?_))))))) (fun z => absurd z h0))⟩
  · have hA : HC 14 τ A := hC.1.fr g1 (by decide)
    rw [show τ 14 4 = nI (A 0 4) from hA.1 4 (by decide)]
    have g0 : ∀ k, k < 24 ∨ 33 < k → τ k = σ k := fun k hk => g1 k (by simp only [List.mem_cons, List.not_mem_nil, or_false]; omega)
    refine hQ _ (fun k hk => by rw [up_ne (by omega), g0 k (by omega)]) ⟨hA.of (fun r hr => up_ne (by omega)), ⟨?_, fun i hi => ?_⟩, ?_, ?_, rfl, fun _ => g2.of (fun r hr => up_ne (by omega))⟩
    · rw [up_ne (by decide), g0 1 (by omega)]; exact hC.2.1.1
    · rw [up_ne (by decide), g0 2 (by omega)]; exact hC.2.1.2 i hi
    · show τ 0 12 = nI c
      rw [g0 0 (by omega)]; exact hC.2.2.1
    · show τ 0 13 = nI v
      rw [g0 0 (by omega)]; exact hC.2.2.2.1
  · have g0 : ∀ k, k < 74 ∨ 78 < k → τ5 k = σ k := fun k hk => by
      rw [f5 k (by simp only [List.mem_cons, List.not_mem_nil, or_false]; omega), f4 k (by simp only [List.mem_cons, List.not_mem_nil, or_false]; omega), f3 k (by simp only [List.mem_cons, List.not_mem_nil, or_false]; omega), f2 k (by simp only [List.mem_cons, List.not_mem_nil, or_false]; omega), f1 k (by simp only [List.mem_cons, List.not_mem_nil, or_false]; omega)]
    rw [g0 63 (by omega), hM.1.1.1, hM.1.1.2.2.2.1, hM.1.1.2.2.2.2.1, hM.1.1.2.2.2.2.2, hM.2.2.1]
    refine hQ _ (fun k hk => ?_) ?_
    · rw [up_ne (by omega), up_ne (by omega), up_ne (by omega), up_ne (by omega), up_ne (by omega), g0 k (by omega)]
    · have ua63 : ∀ j, j < 23 ∨ 27 < j → up (up (up (up (up τ5 63 24 (nI (A 0 0))) 63 25 (nI (A 0 3))) 63 26 (nI (A 0 4))) 63 27 (nI (A 0 5))) 63 23 (nI c) 63 j = σ 63 j := fun j hj => by
        rw [up_63 (by omega), up_63 (by omega), up_63 (by omega), up_63 (by omega), up_63 (by omega), g0 63 (by omega)]
      have uak : ∀ k, k ≠ 63 → up (up (up (up (up τ5 63 24 (nI (A 0 0))) 63 25 (nI (A 0 3))) 63 26 (nI (A 0 4))) 63 27 (nI (A 0 5))) 63 23 (nI c) k = τ5 k := fun k hk => by
        rw [up_ne hk, up_ne hk, up_ne hk, up_ne hk, up_ne hk]
      refine ⟨hM.1.of (fun j hj => ua63 j (by revert hj; simp only [List.mem_cons, List.not_mem_nil, or_false]; omega)) (fun k hk => ?_), ⟨?_, fun i hi => ?_⟩, ?_, ?_, Or.inr ⟨rfl, rfl, ⟨rfl, rfl, rfl, rfl⟩, fun p hp => ⟨?_, ?_, ?_⟩, fun w hw => ?_, fun s hs => ⟨?_, ?_, ?_⟩⟩⟩
      · have := hk
        simp only [List.mem_cons, List.not_mem_nil, or_false] at this
        rw [uak k (by omega), g0 k (by omega)]
      · rw [ua63 1 (by omega)]; exact hM.2.1.1
      · rw [uak 64 (by decide), g0 64 (by omega)]; exact hM.2.1.2 i hi
      · rw [ua63 8 (by omega)]; exact hM.2.2.1
      · rw [ua63 17 (by omega)]; exact hM.2.2.2.1
      · rw [uak 74 (by decide), f5 74 (by decide), f4 74 (by decide), f3 74 (by decide), f2 74 (by decide), g1 p (by omega)]; exact (hM.1.2.1 p hp).1
      · rw [uak 75 (by decide), f5 75 (by decide), f4 75 (by decide), f3 75 (by decide), g2 p (by omega), f1 66 (by decide)]; exact (hM.1.2.1 p hp).2.1
      · rw [uak 76 (by decide), f5 76 (by decide), f4 76 (by decide), g3 p (by omega), f2 67 (by decide), f1 67 (by decide)]; exact (hM.1.2.1 p hp).2.2
      · rw [uak 77 (by decide), f5 77 (by decide), g4 w (by omega), f3 70 (by decide), f2 70 (by decide), f1 70 (by decide)]; exact (hM.1.2.2.1 w hw).2.2
      · rw [uak 78 (by decide), g5 _ (by omega), f4 73 (by decide), f3 73 (by decide), f2 73 (by decide), f1 73 (by decide)]; exact (hM.1.2.2.2 s hs).1
      · rw [uak 78 (by decide), g5 _ (by omega), f4 73 (by decide), f3 73 (by decide), f2 73 (by decide), f1 73 (by decide)]; exact (hM.1.2.2.2 s hs).2.1
      · rw [uak 78 (by decide), g5 _ (by omega), f4 73 (by decide), f3 73 (by decide), f2 73 (by decide), f1 73 (by decide)]; exact (hM.1.2.2.2 s hs).2.2
theorem q_image0 (ok : OK A) (h0 : A 0 1 = 0) : QQ A pg L c v Ak im (fun E σ Q => r_X9_image_0 E σ Q) (fun E σ Q => r_X10_image_0 E σ Q) :=
  ⟨-103, fun E σ Q hC hQ => s_X9_image_0 _ _ _ (p_isThere ok hC.1 (fun z => by omega) (fun _ => b0 (hQ σ KC.rf))), fun E σ Q hM hQ => s_X10_image_0 _ _ _ (p_lacks ok hM.1 (fun z => by omega) (fun _ => b1' (hQ σ FM.rf)))⟩
theorem v_restore (ok : OK A) (okk : OK Ak) (e1 : Ak 0 1 = A 0 1) (e2 : Ak 0 2 = A 0 2) (e45 : ∀ w, w < A 0 2 → Ak 4 w = A 4 w ∧ Ak 5 w = A 5 w) : MV A pg L c v Ak 1 Ak pg L c v Ak 1 (fun E σ Q => r_X9_restore_0 E σ Q) (fun E σ Q => r_X10_restore_0 E σ Q) := by
  have o1 := okk.1
  have o2 := okk.2.1
  have o6 := okk.2.2.2.2.2.1
  refine ⟨nI (Ak 0 4), fun E σ Q hC hQ => s_X9_restore_0 _ _ _ ?_, fun E σ Q hM hQ => s_X10_restore_0 _ _ _ ?_⟩
  · have hk := hC.2.2.2.2.2 rfl
    rw [hC.2.2.2.2.1]
    refine ⟨fun _ => p_copyFrom_14_24 okk hk (fun τ g1 g2 => ?_), fun z => absurd z (by decide)⟩
    have g0 : ∀ k, k < 14 ∨ 23 < k → τ k = σ k := fun k hk => g1 k (by simp only [List.mem_cons, List.not_mem_nil, or_false]; omega)
    rw [show τ 14 4 = nI (Ak 0 4) from g2.1 4 (by decide)]
    exact hQ τ (fun k hk => g0 k (by omega)) (hC.chg g2 (fun k hk => g0 k (by omega)))
  · obtain ⟨m1, m2, m3, m4, m5⟩ := hM
    have hM : MS σ A pg L c v Ak 1 := ⟨m1, m2, m3, m4, m5⟩
    rcases m5 with ⟨z, _⟩ | ⟨_, n1, n2⟩
    · exact absurd z (by decide)
    obtain ⟨⟨k1, k2, k3, k4⟩, k5, k6, k7⟩ := n2
    refine ⟨fun _ => p_copy_74_65 (fun τ1 f1 g1 => p_copy_75_66 (fun τ2 f2 g2 => p_copy_76_67 (fun τ3 f3 g3 => p_copy_77_70 (fun τ4 f4 g4 => p_copy_78_73 (fun τ5 f5 g5 => ?_))))), fun z => absurd (n1.trans m3.symm) z⟩
    have g0 : ∀ k, k ∉ [65, 66, 67, 70, 73] → τ5 k = σ k := fun k hk => by
      simp only [List.mem_cons, List.not_mem_nil, or_false] at hk
      rw [f5 k (by simp only [List.mem_cons, List.not_mem_nil, or_false]; omega), f4 k (by simp only [List.mem_cons, List.not_mem_nil, or_false]; omega), f3 k (by simp only [List.mem_cons, List.not_mem_nil, or_false]; omega), f2 k (by simp only [List.mem_cons, List.not_mem_nil, or_false]; omega), f1 k (by simp only [List.mem_cons, List.not_mem_nil, or_false]; omega)]
    rw [g0 63 (by decide), k1, k2, k3, k4]
    have ua63 : ∀ j, j ≠ 5 → j ≠ 6 → j ≠ 7 → j ≠ 20 → up (up (up (up τ5 63 5 (nI (Ak 0 0))) 63 6 (nI (Ak 0 3))) 63 7 (nI (Ak 0 4))) 63 20 (nI (Ak 0 5)) 63 j = σ 63 j := fun j a b c d => by
      rw [up_63 d, up_63 c, up_63 b, up_63 a, g0 63 (by decide)]
    have uak : ∀ k, k ≠ 63 → up (up (up (up τ5 63 5 (nI (Ak 0 0))) 63 6 (nI (Ak 0 3))) 63 7 (nI (Ak 0 4))) 63 20 (nI (Ak 0 5)) k = τ5 k := fun k hk => by
      rw [up_ne hk, up_ne hk, up_ne hk, up_ne hk]
    refine hQ _ (fun k hk => by rw [uak k (by omega), g0 k (by simp only [List.mem_cons, List.not_mem_nil, or_false]; omega)]) (hM.chg ⟨⟨rfl, ?_, ?_, rfl, rfl, rfl⟩, fun p hp => ⟨?_, ?_, ?_⟩, fun w hw => ⟨?_, ?_, ?_⟩, fun s hs => ⟨?_, ?_, ?_⟩⟩ (fun j hj => ua63 j (by omega) (by omega) (by omega) (by omega)) (fun k hk => by rw [uak k (by omega), g0 k (by simp only [List.mem_cons, List.not_mem_nil, or_false]; omega)]))
    · rw [ua63 3 (by decide) (by decide) (by decide) (by decide), e1]; exact m1.1.2.1
    · rw [ua63 4 (by decide) (by decide) (by decide) (by decide), e2]; exact m1.1.2.2.1
    · rw [uak 65 (by decide), f5 65 (by decide), f4 65 (by decide), f3 65 (by decide), f2 65 (by decide), g1 p (by omega)]; exact (k5 p hp).1
    · rw [uak 66 (by decide), f5 66 (by decide), f4 66 (by decide), f3 66 (by decide), g2 p (by omega), f1 75 (by decide)]; exact (k5 p hp).2.1
    · rw [uak 67 (by decide), f5 67 (by decide), f4 67 (by decide), g3 p (by omega), f2 76 (by decide), f1 76 (by decide)]; exact (k5 p hp).2.2
    · rw [e2] at hw; rw [uak 68 (by decide), g0 68 (by decide), (e45 w hw).1]; exact (m1.2.2.1 w hw).1
    · rw [e2] at hw; rw [uak 69 (by decide), g0 69 (by decide), (e45 w hw).2]; exact (m1.2.2.1 w hw).2.1
    · rw [uak 70 (by decide), f5 70 (by decide), g4 w (by omega), f3 77 (by decide), f2 77 (by decide), f1 77 (by decide)]; exact k6 w hw
    · rw [uak 73 (by decide), g5 _ (by omega), f4 78 (by decide), f3 78 (by decide), f2 78 (by decide), f1 78 (by decide)]; exact (k7 s hs).1
    · rw [uak 73 (by decide), g5 _ (by omega), f4 78 (by decide), f3 78 (by decide), f2 78 (by decide), f1 78 (by decide)]; exact (k7 s hs).2.1
    · rw [uak 73 (by decide), g5 _ (by omega), f4 78 (by decide), f3 78 (by decide), f2 78 (by decide), f1 78 (by decide)]; exact (k7 s hs).2.2
theorem q_restore0 (hc : c < 2 ^ 31) : QQ A pg L c v Ak 0 (fun E σ Q => r_X9_restore_0 E σ Q) (fun E σ Q => r_X10_restore_0 E σ Q) := by
  refine ⟨-103, fun E σ Q hC hQ => s_X9_restore_0 _ _ _ ?_, fun E σ Q hM hQ => s_X10_restore_0 _ _ _ ⟨fun z => ?_, fun _ => hQ σ FM.rf⟩⟩
  · rw [hC.2.2.2.2.1]
    exact ⟨fun z => absurd rfl z, fun _ => hQ σ KC.rf⟩
  · exfalso
    rw [hM.2.2.1] at z
    rcases hM.2.2.2.2 with ⟨_, q | ⟨kc, q1, q2⟩⟩ | ⟨q, _⟩
    · rw [q] at z
      have := congrArg Int32.toInt z
      rw [toInt_nI hc] at this
      have e : (-1 : Int32).toInt = -1 := by decide
      omega
    · rw [q2] at z
      have := (nI_eq (by omega) hc).mp z
      omega
    · exact absurd q (by decide)
theorem op_room (x1 : Int32) (hI : Iv σ n) (hn : n < 100000) (hK : ∀ r τ, Iv τ (n + 1) → K r r τ) : r_X9_room_0 E x1 σ (fun r τ => r_X10_room_0 E x1 τ (fun r' τ' => K r r' τ')) := by
  obtain ⟨A, pg, L, c, v, Ak, im, hS, hC, hM⟩ := hI
  by_cases h : ¬ InR x1 1 6 ∨ A 0 1 = 0
  · exact (q_room0 hS.1 x1 h).op hn hS hC hM hK
  · have h1 : InR x1 1 6 := Classical.byContradiction (fun z => h (Or.inl z))
    obtain ⟨y, rfl, y1, y2, y3⟩ := h1.nat (by decide)
    exact (v_room hS.1 (fun z => h (Or.inr z)) h1).op (hS.chg hn (hS.1.u0 (by omega)) hS.2.1 rfl rfl rfl rfl) hC hM hK
theorem op_forgive (x1 : Int32) (hI : Iv σ n) (hn : n < 100000) (hK : ∀ r τ, Iv τ (n + 1) → K r r τ) : r_X9_forgive_0 E x1 σ (fun r τ => r_X10_forgive_0 E x1 τ (fun r' τ' => K r r' τ')) := by
  obtain ⟨A, pg, L, c, v, Ak, im, hS, hC, hM⟩ := hI
  by_cases h : InR x1 0 (A 0 2 - 1)
  · obtain ⟨w, hw, rfl⟩ := h.lt
    have hb := bt_le (A 0 3) w
    rcases (show bt (A 0 3) w = 0 ∨ bt (A 0 3) w = 1 by omega) with z | z
    · have hlt : A 0 3 ||| 2 ^ w < 2 ^ (A 0 2) := Nat.or_lt_two_pow hS.1.2.2.2.1 (Nat.pow_lt_pow_right (by decide) hw)
      exact (v_forgive hS.1 hw z).op (hS.chg hn (hS.1.u3 hlt) hS.2.1 rfl rfl rfl rfl) hC hM hK
    · exact (q_forgive0 hS.1 _ (Or.inr ⟨w, hw, rfl, z⟩)).op hn hS hC hM hK
  · exact (q_forgive0 hS.1 x1 (Or.inl h)).op hn hS hC hM hK
theorem op_again (x1 x2 : Int32) (hI : Iv σ n) (hn : n < 100000) (hK : ∀ r τ, Iv τ (n + 1) → K r r τ) : r_X9_again_0 E x1 x2 σ (fun r τ => r_X10_again_0 E x1 x2 τ (fun r' τ' => K r r' τ')) := by
  obtain ⟨A, pg, L, c, v, Ak, im, hS, hC, hM⟩ := hI
  by_cases h : InR x1 0 (A 0 2 - 1) ∧ InR x2 1 9
  · obtain ⟨w, hw, rfl⟩ := h.1.lt
    obtain ⟨y, rfl, y1, y2, y3⟩ := h.2.nat (by decide)
    exact (v_again hS.1 hw (by omega)).op (hS.chg hn ((hS.1.u3 (clr_lt hS.1.2.2.2.1)).u6 (by omega)) hS.2.1 rfl rfl rfl rfl) hC hM hK
  · exact (q_again0 hS.1 x1 x2 h).op hn hS hC hM hK
theorem op_change (x1 x2 x3 : Int32) (hI : Iv σ n) (hn : n < 100000) (hK : ∀ r τ, Iv τ (n + 1) → K r r τ) : r_X9_change_0 E x1 x2 x3 σ (fun r τ => r_X10_change_0 E x1 x2 x3 τ (fun r' τ' => K r r' τ')) := by
  obtain ⟨A, pg, L, c, v, Ak, im, hS, hC, hM⟩ := hI
  by_cases h : InR x1 0 (A 0 1 - 1) ∧ InR x2 0 4 ∧ InR x3 0 20
  · obtain ⟨p, hp, rfl⟩ := h.1.lt
    obtain ⟨k, hk, rfl⟩ := InR.le (k := 4) h.2.1
    obtain ⟨x, hx, rfl⟩ := InR.le (k := 20) h.2.2
    exact (v_change hS.1 hp hk hx).op (hS.chg hn ((hS.1.u1 hk).u2 hx) hS.2.1 rfl rfl rfl rfl) hC hM hK
  · exact (q_change0 hS.1 x1 x2 x3 h).op hn hS hC hM hK
theorem op_letter (x1 : Int32) (hI : Iv σ n) (hn : n < 100000) (hK : ∀ r τ, Iv τ (n + 1) → K r r τ) : r_X9_letter_0 E x1 σ (fun r τ => r_X10_letter_0 E x1 τ (fun r' τ' => K r r' τ')) := by
  obtain ⟨A, pg, L, c, v, Ak, im, hS, hC, hM⟩ := hI
  obtain ⟨a1, a2, a3, a4, a5, a6, a7, a8, a9⟩ := hS
  by_cases h : ¬ InR x1 1 126 ∨ L = 54
  · exact (q_letter0 a4 x1 h).op hn ⟨a1, a2, a3, a4, a5, a6, a7, a8, a9⟩ hC hM hK
  · have h1 : InR x1 1 126 := Classical.byContradiction (fun z => h (Or.inl z))
    have hL : L < 54 := by
      have := a4.1
      have : L ≠ 54 := fun z => h (Or.inr z)
      omega
    obtain ⟨y, rfl, y1, y2, y3⟩ := h1.nat (by decide)
    refine (v_letter a4 hL (by omega)).op ⟨a1, a2, a3, ⟨by omega, fun i hi => ?_⟩, by omega, a6, a7, a8, by omega⟩ hC hM hK
    show 1 ≤ (if i = L then y else pg i) ∧ (if i = L then y else pg i) ≤ 126
    by_cases z : i = L
    · rw [if_pos z]; omega
    · rw [if_neg z]; exact a4.2 i (by omega)
theorem op_blank (hI : Iv σ n) (hn : n < 100000) (hK : ∀ r τ, Iv τ (n + 1) → K r r τ) : r_X9_blank_0 E σ (fun r τ => r_X10_blank_0 E τ (fun r' τ' => K r r' τ')) := by
  obtain ⟨A, pg, L, c, v, Ak, im, hS, hC, hM⟩ := hI
  obtain ⟨a1, a2, a3, a4, a5, a6, a7, a8, a9⟩ := hS
  exact v_blank.op ⟨a1, a2, a3, ⟨by omega, fun i hi => absurd hi (Nat.not_lt_zero _)⟩, by omega, a6, a7, a8, by omega⟩ hC hM hK
theorem op_forget (hI : Iv σ n) (hn : n < 100000) (hK : ∀ r τ, Iv τ (n + 1) → K r r τ) : r_X9_forget_0 E σ (fun r τ => r_X10_forget_0 E τ (fun r' τ' => K r r' τ')) := by
  obtain ⟨A, pg, L, c, v, Ak, im, hS, hC, hM⟩ := hI
  exact v_forget.op (hS.chg hn hS.1.u5 hS.2.1 rfl rfl rfl rfl) hC hM hK
theorem op_leave (x1 x2 : Int32) (hI : Iv σ n) (hn : n < 100000) (hK : ∀ r τ, Iv τ (n + 1) → K r r τ) : r_X9_leave_0 E x1 x2 σ (fun r τ => r_X10_leave_0 E x1 x2 τ (fun r' τ' => K r r' τ')) := by
  obtain ⟨A, pg, L, c, v, Ak, im, hS, hC, hM⟩ := hI
  obtain ⟨a1, a2, a3, a4, a5, a6, a7, a8, a9⟩ := hS
  by_cases h : InR x1 1 6 ∧ InR x2 0 2 ∧ A 0 1 ≠ 0 ∧ v ≠ 20
  · obtain ⟨h1, h2, h3, h4⟩ := h
    obtain ⟨y, rfl, y1, y2, y3⟩ := h1.nat (by decide)
    obtain ⟨w, hw, rfl⟩ := InR.le (k := 2) h2
    exact (v_leave a1 h3 (by omega) h1 (by omega) hw).op ⟨a1, a2, a3, a4, by omega, by omega, a7, a8, by omega⟩ hC hM hK
  · exact (q_leave0 a1 a6 x1 x2 h).op hn ⟨a1, a2, a3, a4, a5, a6, a7, a8, a9⟩ hC hM hK
theorem op_see (x1 x2 x3 : Int32) (hb : x3 = 0 ∨ x3 = 1) (hI : Iv σ n) (hn : n < 100000) (hK : ∀ r τ, Iv τ (n + 1) → K r r τ) : r_X9_see_0 E x1 x2 x3 σ (fun r τ => r_X10_see_0 E x1 x2 x3 τ (fun r' τ' => K r r' τ')) := by
  obtain ⟨A, pg, L, c, v, Ak, im, hS, hC, hM⟩ := hI
  by_cases h : InR x1 0 (A 0 2 - 1) ∧ InR x2 1 6 ∧ A 0 5 ≠ 6
  · obtain ⟨h1, h2, h3⟩ := h
    obtain ⟨w, hw, rfl⟩ := h1.lt
    obtain ⟨y, rfl, y1, y2, y3⟩ := h2.nat (by decide)
    have h5 : A 0 5 < 6 := by have := hS.1.2.2.2.2.2.1; omega
    have hx : ∃ x, x ≤ 1 ∧ x3 = nI x := by
      rcases hb with e | e
      · exact ⟨0, by omega, e⟩
      · exact ⟨1, by omega, e⟩
    obtain ⟨x, hx1, rfl⟩ := hx
    exact (v_see hS.1 h5 hw (by omega) hx1).op (hS.chg hn (sw_OK hS.1 h5 hw (by omega) hx1) hS.2.1 rfl rfl rfl rfl) hC hM hK
  · exact (q_see0 hS.1 x1 x2 x3 h).op hn hS hC hM hK
theorem op_sunday (hI : Iv σ n) (hn : n < 100000) (hK : ∀ r τ, Iv τ (n + 1) → K r r τ) : r_X9_sunday_0 E σ (fun r τ => r_X10_sunday_0 E τ (fun r' τ' => K r r' τ')) := by
  obtain ⟨A, pg, L, c, v, Ak, im, hS, hC, hM⟩ := hI
  have h4 := hS.2.1
  by_cases h : A 0 1 = 0 ∨ A 0 4 = 999
  · exact (q_sunday0 hS.1 hS.2.1 h).op hn hS hC hM hK
  · exact (v_sunday hS.1 (by omega) (by omega)).op (hS.chg hn (sun_OK hS.1 (by omega)) (show A 0 4 + 1 ≤ 999 by omega) rfl rfl rfl rfl) hC hM hK
theorem op_image (hI : Iv σ n) (hn : n < 100000) (hK : ∀ r τ, Iv τ (n + 1) → K r r τ) : r_X9_image_0 E σ (fun r τ => r_X10_image_0 E τ (fun r' τ' => K r r' τ')) := by
  obtain ⟨A, pg, L, c, v, Ak, im, hS, hC, hM⟩ := hI
  by_cases h : A 0 1 = 0
  · exact (q_image0 hS.1 h).op hn hS hC hM hK
  · obtain ⟨a1, a2, a3, a4, a5, a6, a7, a8, a9⟩ := hS
    exact (v_image a1 h).op ⟨a1, a2, a3, a4, by omega, a6, by omega, fun _ => ⟨a1, a2, by omega, rfl, rfl, fun w hw => ⟨rfl, rfl⟩⟩, by omega⟩ hC hM hK
theorem op_restore (hI : Iv σ n) (hn : n < 100000) (hK : ∀ r τ, Iv τ (n + 1) → K r r τ) : r_X9_restore_0 E σ (fun r τ => r_X10_restore_0 E τ (fun r' τ' => K r r' τ')) := by
  obtain ⟨A, pg, L, c, v, Ak, im, hS, hC, hM⟩ := hI
  obtain ⟨a1, a2, a3, a4, a5, a6, a7, a8, a9⟩ := hS
  rcases (show im = 0 ∨ im = 1 by omega) with e | e
  · subst e
    exact (q_restore0 (by omega)).op hn ⟨a1, a2, a3, a4, a5, a6, a7, a8, a9⟩ hC hM hK
  · subst e
    obtain ⟨b1, b2, b3, b4, b5, b6⟩ := a8 rfl
    refine (v_restore a1 b1 b4 b5 b6).op ⟨b1, b2, fun z => ?_, a4, by omega, a6, a7, fun _ => ⟨b1, b2, by omega, rfl, rfl, fun w hw => ⟨rfl, rfl⟩⟩, by omega⟩ hC hM hK
    have := a3 b3
    omega
end M4
