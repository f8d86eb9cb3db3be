/-! chapel, sunday, image, restore; and all the calls but the digest -/
section M3
variable {E : EE} {σ : Mm} {A : Ab} {pg : Nat → Nat} {L c v : Nat} {Ak : Ab} {im n : Nat} {K : Int32 → Int32 → Mm → Prop}
theorem op_chapel (hI : Iv σ n) (hn : n < 100000) (hK : ∀ r τ, Iv τ (n + 1) → K r r τ) : r_X9_chapel_0 E σ (fun r τ => r_X10_chapel_0 E τ (fun r' τ' => K r r' τ')) := by
  obtain ⟨A, pg, L, c, v, Ak, im, hS, hC, hM⟩ := hI
  obtain ⟨s1, s2, s3, s4, s5, s6, s7, s8, s9⟩ := hS
  have hS : Sok A pg L c v Ak im n := ⟨s1, s2, s3, s4, s5, s6, s7, s8, s9⟩
  have hL := s4.1
  have NO : ¬ Wh pg L → ∀ τ, KC σ τ → r_X10_chapel_0 E τ (fun r' τ' => K (-103) r' τ') := fun hw τ k =>
    p_mchapel s4 (hM.kc k).2.1 (fun _ τ' f => hK _ τ' ⟨A, pg, L, c, v, Ak, im, hS.up hn, (hC.kc k).fm f, (hM.kc k).fm f⟩) (fun z => absurd z hw)
  refine s_X9_chapel_0 _ _ _ (p_firstFault s4 hC.2.1 (fun m τ h1 h2 h3 => ?_))
  have k : KC σ τ := KC.fr h2 (by decide)
  rw [(hC.kc k).2.1.1]
  refine tlt (by have := h1.1; omega) (by omega) (fun q => NO (fun z => ?_) τ k) (fun q => ?_)
  · have := h1.uniq (m := L) ⟨Nat.le_refl _, z.1, Or.inl rfl⟩
    omega
  · have e : m = L := by have := h1.1; omega
    have hg : ∀ i, i < L → gA pg i := by rw [← e]; exact h1.2.1
    have hD := h3 e
    refine s_X7_isWhole_0 _ _ _ ?_
    by_cases hW : Wh pg L
    · obtain ⟨d1, d2⟩ := Dr_HC hW hD
      obtain ⟨w1, w2, w3, w4⟩ := Ap_OK hW.1 hW.2.1 hW.2.2
      refine ⟨fun z => absurd d2 z, fun _ => b1 (p_copyFrom_14_4 w1 d1 (fun ρ g1 g2 => ?_))⟩
      have g0 : ∀ k, k ≤ 2 → ρ k = σ k := fun j hj => (g1 j (by simp only [List.mem_cons, List.not_mem_nil, or_false]; omega)).trans (k j (by omega))
      have g9 : ∀ k, 63 ≤ k → ρ k = σ k := fun j hj => (g1 j (by simp only [List.mem_cons, List.not_mem_nil, or_false]; omega)).trans (k j (by omega))
      rw [show ρ 14 1 = nI (Ap pg L 0 1) from g2.1 1 (by decide), show ρ 0 12 = nI c from (by rw [g0 0 (by omega)]; exact hC.2.2.1), show nI c + 1 = nI (c + 1) from nI_add c 1]
      have u9 : ∀ k, 63 ≤ k → up (up (up ρ 1 1 0) 0 11 0) 0 12 (nI (c + 1)) k = σ k := fun j hj => by rw [up_ne (by omega), up_ne (by omega), up_ne (by omega), g9 j hj]
      have hM1 := hM.hi u9
      refine p_mchapel s4 hM1.2.1 (fun z => absurd hW z) (fun _ τ' f1 f2 f3 f4 f5 => hK _ τ' ⟨Ap pg L, pg, 0, c + 1, v, Ak, 0, ⟨w1, ?_, fun _ => ⟨w2, w3⟩, ⟨by omega, fun i hi => absurd hi (Nat.not_lt_zero _)⟩, by omega, s6, by omega, fun z => absurd z (by decide), by omega⟩, ?_, ?_⟩)
      · show 0 ≤ 999
        omega
      · have lo : ∀ k, k < 63 → τ' k = up (up (up ρ 1 1 0) 0 11 0) 0 12 (nI (c + 1)) k := fun j hj => f1 j (by simp only [List.mem_cons, List.not_mem_nil, or_false]; omega)
        have cs : CS (up (up (up ρ 1 1 0) 0 11 0) 0 12 (nI (c + 1))) (Ap pg L) pg 0 (c + 1) v Ak 0 := by
          refine ⟨g2.of (fun r hr => by rw [up_ne (by omega), up_ne (by omega), up_ne (by omega)]), ⟨rfl, fun i hi => absurd hi (Nat.not_lt_zero _)⟩, rfl, ?_, rfl, fun z => absurd z (by decide)⟩
          show ρ 0 13 = nI v
          rw [g0 0 (by omega)]
          exact hC.2.2.2.1
        exact cs.lo lo
      · refine ⟨f3, ⟨f5, fun i hi => absurd hi (Nat.not_lt_zero _)⟩, ?_, ?_, Or.inl ⟨rfl, ?_⟩⟩
        · rw [f4, hM1.2.2.1]; exact nI_add c 1
        · rw [f2 17 (by decide)]; exact hM1.2.2.2.1
        · rw [f2 23 (by decide)]
          rcases hM1.2.2.2.2 with ⟨_, z | ⟨kc, z1, z2⟩⟩ | ⟨_, z, _⟩
          · exact Or.inl z
          · exact Or.inr ⟨kc, by omega, z2⟩
          · exact Or.inr ⟨c, by omega, z⟩
    · exact ⟨fun _ => b0 (NO hW τ k), fun z => absurd z (Dr_no hg hW hD)⟩
theorem p_copy_65_74 {Q : Mm → Prop} (hQ : ∀ τ, Fr [74] σ τ → (∀ i, i < 6 → τ 74 i = σ 65 i) → Q τ) : r_X10_copy_65_74_0 E σ Q :=
  s_X10_copy_65_74_0 _ _ _ (copy_gen (r := r_X10_copy_65_74_2 E) (by decide) (by decide) (fun x σ Q h => s_X10_copy_65_74_2 E x σ Q h) hQ)
theorem p_copy_66_75 {Q : Mm → Prop} (hQ : ∀ τ, Fr [75] σ τ → (∀ i, i < 6 → τ 75 i = σ 66 i) → Q τ) : r_X10_copy_66_75_0 E σ Q :=
  s_X10_copy_66_75_0 _ _ _ (copy_gen (r := r_X10_copy_66_75_2 E) (by decide) (by decide) (fun x σ Q h => s_X10_copy_66_75_2 E x σ Q h) hQ)
theorem p_copy_67_76 {Q : Mm → Prop} (hQ : ∀ τ, Fr [76] σ τ → (∀ i, i < 6 → τ 76 i = σ 67 i) → Q τ) : r_X10_copy_67_76_0 E σ Q :=
  s_X10_copy_67_76_0 _ _ _ (copy_gen (r := r_X10_copy_67_76_2 E) (by decide) (by decide) (fun x σ Q h => s_X10_copy_67_76_2 E x σ Q h) hQ)
theorem p_copy_70_77 {Q : Mm → Prop} (hQ : ∀ τ, Fr [77] σ τ → (∀ i, i < 8 → τ 77 i = σ 70 i) → Q τ) : r_X10_copy_70_77_0 E σ Q :=
  s_X10_copy_70_77_0 _ _ _ (copy_gen (r := r_X10_copy_70_77_2 E) (by decide) (by decide) (fun x σ Q h => s_X10_copy_70_77_2 E x σ Q h) hQ)
theorem p_copy_73_78 {Q : Mm → Prop} (hQ : ∀ τ, Fr [78] σ τ → (∀ i, i < 18 → τ 78 i = σ 73 i) → Q τ) : r_X10_copy_73_78_0 E σ Q :=
  s_X10_copy_73_78_0 _ _ _ (copy_gen (r := r_X10_copy_73_78_2 E) (by decide) (by decide) (fun x σ Q h => s_X10_copy_73_78_2 E x σ Q h) hQ)
theorem p_copy_74_65 {Q : Mm → Prop} (hQ : ∀ τ, Fr [65] σ τ → (∀ i, i < 6 → τ 65 i = σ 74 i) → Q τ) : r_X10_copy_74_65_0 E σ Q :=
  s_X10_copy_74_65_0 _ _ _ (copy_gen (r := r_X10_copy_74_65_2 E) (by decide) (by decide) (fun x σ Q h => s_X10_copy_74_65_2 E x σ Q h) hQ)
theorem p_copy_75_66 {Q : Mm → Prop} (hQ : ∀ τ, Fr [66] σ τ → (∀ i, i < 6 → τ 66 i = σ 75 i) → Q τ) : r_X10_copy_75_66_0 E σ Q :=
  s_X10_copy_75_66_0 _ _ _ (copy_gen (r := r_X10_copy_75_66_2 E) (by decide) (by decide) (fun x σ Q h => s_X10_copy_75_66_2 E x σ Q h) hQ)
theorem p_copy_76_67 {Q : Mm → Prop} (hQ : ∀ τ, Fr [67] σ τ → (∀ i, i < 6 → τ 67 i = σ 76 i) → Q τ) : r_X10_copy_76_67_0 E σ Q :=
  s_X10_copy_76_67_0 _ _ _ (copy_gen (r := r_X10_copy_76_67_2 E) (by decide) (by decide) (fun x σ Q h => s_X10_copy_76_67_2 E x σ Q h) hQ)
theorem p_copy_77_70 {Q : Mm → Prop} (hQ : ∀ τ, Fr [70] σ τ → (∀ i, i < 8 → τ 70 i = σ 77 i) → Q τ) : r_X10_copy_77_70_0 E σ Q :=
  s_X10_copy_77_70_0 _ _ _ (copy_gen (r := r_X10_copy_77_70_2 E) (by decide) (by decide) (fun x σ Q h => s_X10_copy_77_70_2 E x σ Q h) hQ)
theorem p_copy_78_73 {Q : Mm → Prop} (hQ : ∀ τ, Fr [73] σ τ → (∀ i, i < 18 → τ 73 i = σ 78 i) → Q τ) : r_X10_copy_78_73_0 E σ Q :=
  s_X10_copy_78_73_0 _ _ _ (copy_gen (r := r_X10_copy_78_73_2 E) (by decide) (by decide) (fun x σ Q h => s_X10_copy_78_73_2 E x σ Q h) hQ)
theorem p_copy_72_66 {Q : Mm → Prop} (hQ : ∀ τ, Fr [66] σ τ → (∀ i, i < 6 → τ 66 i = σ 72 i) → Q τ) : r_X10_copy_72_66_0 E σ Q :=
  s_X10_copy_72_66_0 _ _ _ (copy_gen (r := r_X10_copy_72_66_2 E) (by decide) (by decide) (fun x σ Q h => s_X10_copy_72_66_2 E x σ Q h) hQ)
/-- sunday -/
theorem v_sunday (ok : OK A) (h0 : A 0 1 ≠ 0) (h4 : A 0 4 < 999) : MV A pg L c v Ak im (sun A (sB A (A 0 3) (A 0 0))) pg L c v Ak im (fun E σ Q => r_X9_sunday_0 E σ Q) (fun E σ Q => r_X10_sunday_0 E σ Q) := by
  have o1 := ok.1
  have o5 := ok.2.2.2.2.1
  have hF := p256 ok ok.2.2.2.1
  generalize hS : sB A (A 0 3) (A 0 0) = S
  have sl := sB_lt ok (A 0 3) (A 0 0)
  rw [hS] at sl
  have f01 : ∀ p, fz (A 2 p) (bt S p) ≤ 1 := fun p => by unfold fz; split <;> omega
  refine ⟨nI (sm (fun p => fz (A 2 p) (bt S p)) (A 0 1)), fun E σ Q hC hQ => s_X9_sunday_0 _ _ _ (p_isThere ok hC.1 (fun _ => b1 ?_) (fun z => absurd z h0)), fun E σ Q hM hQ => s_X10_sunday_0 _ _ _ (p_lacks ok hM.1 (fun _ => b0' ?_) (fun z => absurd z h0))⟩
  · rw [show σ 14 4 = nI (A 0 4) from hC.1.1 4 (by decide)]
    refine tlt (b := 999) (by omega) (by decide) (fun _ => ?_) (fun z => by omega)
    refine p_sittersNow ok hC.1 (fun τ g => ?_)
    rw [hS]
    refine p_passSunday14 ok (hC.1.fr g (by decide)) (by omega) (fun ρ g1 g2 => hQ ρ (fun k hk => ?_) (hC.chg g2 (fun k hk => ?_)))
    · rw [g1 k (by simp only [List.mem_cons, List.not_mem_nil, or_false]; omega), g k (by simp only [List.mem_cons, List.not_mem_nil, or_false]; omega)]
    · rw [g1 k (by simp only [List.mem_cons, List.not_mem_nil, or_false]; omega), g k (by simp only [List.mem_cons, List.not_mem_nil, or_false]; omega)]
  · rw [hM.1.1.2.2.2.2.1]
    refine tne (b := 999) (by omega) (by decide) (fun _ => ?_) (fun z => by omega)
    rw [show nI (A 0 4) + 1 = nI (A 0 4 + 1) from nI_add _ 1]
    have hm : ∀ {ρ : Mm}, (∀ j, j ≠ 7 → ρ 63 j = σ 63 j) → (∀ k, k ∈ [65, 66, 67, 68, 69, 70, 73] → ρ k = σ k) → ρ 63 7 = nI (A 0 4 + 1) → HM ρ (ua A 0 4 (A 0 4 + 1)) := by
      intro ρ q1 q2 q3
      have h := hM.1.of (τ := up ρ 63 7 (nI (A 0 4))) (fun j hj => by
        by_cases z : j = 7
        · rw [z, up_eq, upd_eq, hM.1.1.2.2.2.2.1]
        · rw [up_63 z, q1 j z]) (fun k hk => by rw [up_ne (by intro z; rw [z] at hk; revert hk; decide), q2 k hk])
      exact ⟨⟨h.1.1, h.1.2.1, h.1.2.2.1, h.1.2.2.2.1, q3, h.1.2.2.2.2.2⟩, h.2.1, h.2.2.1, h.2.2.2⟩
    have okA : OK (ua A 0 4 (A 0 4 + 1)) := by
      obtain ⟨a1, a2, a3, a4, a5, a6, a7, a8, a9⟩ := ok
      refine ⟨a1, a2, a3, a4, ?_, a6, fun p hp => ⟨(a7 p hp).1, (a7 p hp).2.1, Nat.le_succ_of_le (a7 p hp).2.2⟩, a8, a9⟩
      show A 0 4 + 1 ≤ 2000
      omega
    refine p_copy_66_72 (fun τ1 f1 f2 => ?_)
    have u63 : ∀ {ρ : Mm} {l : List Nat}, Fr l τ1 ρ → 63 ∉ l → ρ 63 = up σ 63 7 (nI (A 0 4 + 1)) 63 := fun hf hl => (hf 63 hl).trans (f1 63 (by decide))
    have hm1 : HM τ1 (ua A 0 4 (A 0 4 + 1)) := hm (fun j hj => by rw [f1 63 (by decide), up_63 hj]) (fun k hk => by rw [f1 k (by intro z; revert hk z; simp only [List.mem_cons, List.not_mem_nil, or_false]; omega), up_ne (by intro z; rw [z] at hk; revert hk; decide)]) (by rw [f1 63 (by decide), up_eq, upd_eq])
    refine p_sitsNow okA hm1 (fun τ2 f3 => ?_)
    have hm2 : HM τ2 (ua A 0 4 (A 0 4 + 1)) := hm1.of (fun j _ => by rw [f3 63 (by decide)]) (fun k hk => f3 k (by intro z; revert hk z; simp only [List.mem_cons, List.not_mem_nil, or_false]; omega))
    have eS : sB (ua A 0 4 (A 0 4 + 1)) (ua A 0 4 (A 0 4 + 1) 0 3) (ua A 0 4 (A 0 4 + 1) 0 0) = S := hS
    rw [eS]
    refine p_sundayThen (u := fun p => A 2 p) okA hm2 (by omega) (fun p hp => ⟨?_, (ok.2.2.2.2.2.2.1 p hp).2.1⟩) (fun τ3 f4 f5 => ?_)
    · have hp' : p < A 0 1 := hp
      rw [f3 72 (by decide), f2 p (by omega)]
      exact (hM.1.2.1 p hp').2.1
    refine p_copy_72_66 (fun τ4 f6 f7 => ?_)
    have o63 : ∀ j, j ≠ 7 → τ4 63 j = σ 63 j := fun j hj => by rw [f6 63 (by decide), f4 63 (by decide), f3 63 (by decide), f1 63 (by decide), up_63 hj]
    have o7 : τ4 63 7 = nI (A 0 4 + 1) := by rw [f6 63 (by decide), f4 63 (by decide), f3 63 (by decide), f1 63 (by decide), up_eq, upd_eq]
    have ok4 : ∀ k, k ≠ 63 → k ≠ 66 → k ≠ 71 → k ≠ 72 → τ4 k = σ k := fun k h1 h2 h3 h4 => by
      rw [f6 k (by simp only [List.mem_cons, List.not_mem_nil, or_false]; omega), f4 k (by simp only [List.mem_cons, List.not_mem_nil, or_false]; omega), f3 k (by simp only [List.mem_cons, List.not_mem_nil, or_false]; omega), f1 k (by simp only [List.mem_cons, List.not_mem_nil, or_false]; omega), up_ne h1]
    have o66 : ∀ p, p < A 0 1 → τ4 66 p = nI (nw (A 2 p) (bt S p)) := fun p hp => by rw [f7 p (by omega)]; exact f5 p hp
    have hz : ∀ p, p < A 0 1 → bt (bs (fun p => fz (A 2 p) (bt S p)) (A 0 1)) p = fz (A 2 p) (bt S p) := fun p hp => by
      rw [bt_bs (fun i _ => f01 i) p, if_pos hp]
    have bl : bs (fun p => fz (A 2 p) (bt S p)) (A 0 1) < 2 ^ 31 := Nat.lt_of_lt_of_le (bs_lt (fun i _ => f01 i)) (Nat.pow_le_pow_right (by decide) (by omega))
    show r_X10_sunday_66 E (nI (bs (fun p => fz (A 2 p) (bt S p)) (A 0 1))) 0 τ4 Q
    have key : ∀ i, i ≤ A 0 1 → ∀ ρ, Fr [67] τ4 ρ → (∀ p, p < i → ρ 67 p = nI (A 3 p + fz (A 2 p) (bt S p))) → (∀ p, i ≤ p → p < A 0 1 → ρ 67 p = nI (A 3 p)) → r_X10_sunday_66 E (nI (bs (fun p => fz (A 2 p) (bt S p)) (A 0 1))) (nI i) ρ Q := by
      refine up_to (P := fun i => ∀ ρ, Fr [67] τ4 ρ → (∀ p, p < i → ρ 67 p = nI (A 3 p + fz (A 2 p) (bt S p))) → (∀ p, i ≤ p → p < A 0 1 → ρ 67 p = nI (A 3 p)) → r_X10_sunday_66 E (nI (bs (fun p => fz (A 2 p) (bt S p)) (A 0 1))) (nI i) ρ Q) (A 0 1) ?_ ?_
      · intro ρ g1 g2 g3
        refine s_X10_sunday_66 _ _ _ _ _ (fe (n := A 0 1) ?_ (Nat.le_refl _) (by omega) (p_ones bl ?_))
        · rw [g1 63 (by decide), o63 3 (by decide)]; exact hM.1.1.2.1
        · have e : po (bs (fun p => fz (A 2 p) (bt S p)) (A 0 1)) = sm (fun p => fz (A 2 p) (bt S p)) (A 0 1) := po_bs (by omega) (fun i _ => f01 i)
          rw [e]
          refine hQ ρ (fun k hk => ?_) (hM.chg ⟨⟨?_, ?_, ?_, ?_, ?_, ?_⟩, fun p hp => ⟨?_, ?_, ?_⟩, fun w hw => ?_, fun s hs => ?_⟩ (fun j hj => ?_) (fun k hk => ?_))
          · rw [g1 k (by simp only [List.mem_cons, List.not_mem_nil, or_false]; omega), ok4 k (by omega) (by omega) (by omega) (by omega)]
          · rw [g1 63 (by decide), o63 5 (by decide)]; exact hM.1.1.1
          · rw [g1 63 (by decide), o63 3 (by decide)]; exact hM.1.1.2.1
          · rw [g1 63 (by decide), o63 4 (by decide)]; exact hM.1.1.2.2.1
          · rw [g1 63 (by decide), o63 6 (by decide)]; exact hM.1.1.2.2.2.1
          · rw [g1 63 (by decide), o7]; rfl
          · rw [g1 63 (by decide), o63 20 (by decide)]; exact hM.1.1.2.2.2.2.2
          · rw [g1 65 (by decide), ok4 65 (by decide) (by decide) (by decide) (by decide)]; exact (hM.1.2.1 p hp).1
          · rw [g1 66 (by decide)]; exact o66 p hp
          · exact g2 p hp
          · rw [g1 68 (by decide), g1 69 (by decide), g1 70 (by decide), ok4 68 (by decide) (by decide) (by decide) (by decide), ok4 69 (by decide) (by decide) (by decide) (by decide), ok4 70 (by decide) (by decide) (by decide) (by decide)]; exact hM.1.2.2.1 w hw
          · rw [g1 73 (by decide), ok4 73 (by decide) (by decide) (by decide) (by decide)]; exact hM.1.2.2.2 s hs
          · rw [g1 63 (by decide), o63 j (by omega)]
          · rw [g1 k (by simp only [List.mem_cons, List.not_mem_nil, or_false]; omega), ok4 k (by omega) (by omega) (by omega) (by omega)]
      · intro i hi IH ρ g1 g2 g3
        have v6 : vp_in (nI i) 6 := vp_in_nI (by omega) (by omega)
        refine s_X10_sunday_66 _ _ _ _ _ (fs (n := A 0 1) ?_ hi (by omega) ⟨v6, v6, ?_⟩)
        · rw [g1 63 (by decide), o63 3 (by decide)]; exact hM.1.1.2.1
        · rw [nI_clamp (by omega), bitI bl (by omega), hz i hi, g3 i (Nat.le_refl _) hi, nI_add, show nI i + 1 = nI (i + 1) from nI_add i 1]
          refine IH _ (g1.put (by decide)) (fun p hp => ?_) (fun p q1 q2 => ?_)
          · rw [up_eq]
            by_cases z : p = i
            · rw [z, upd_eq]
            · rw [upd_ne z]; exact g2 p (by omega)
          · rw [up_eq, upd_ne (by omega)]; exact g3 p (by omega) q2
    exact key 0 (Nat.zero_le _) τ4 Fr.rf (fun p hp => absurd hp (Nat.not_lt_zero _)) (fun p _ hp => by rw [ok4 67 (by decide) (by decide) (by decide) (by decide)]; exact (hM.1.2.1 p hp).2.2)
theorem q_sunday0 (ok : OK A) (h4 : A 0 4 ≤ 999) (h : A 0 1 = 0 ∨ A 0 4 = 999) : QQ A pg L c v Ak im (fun E σ Q => r_X9_sunday_0 E σ Q) (fun E σ Q => r_X10_sunday_0 E σ Q) := by
  by_cases h0 : A 0 1 = 0
  · exact ⟨-103, fun E σ Q hC hQ => s_X9_sunday_0 _ _ _ (p_isThere ok hC.1 (fun z => by omega) (fun _ => b0 (hQ σ KC.rf))), fun E σ Q hM hQ => s_X10_sunday_0 _ _ _ (p_lacks ok hM.1 (fun z => by omega) (fun _ => b1' (hQ σ FM.rf)))⟩
  · have e : A 0 4 = 999 := h.resolve_left h0
    refine ⟨-104, fun E σ Q hC hQ => s_X9_sunday_0 _ _ _ (p_isThere ok hC.1 (fun _ => b1 ?_) (fun z => absurd z h0)), fun E σ Q hM hQ => s_X10_sunday_0 _ _ _ (p_lacks ok hM.1 (fun _ => b0' ?_) (fun z => absurd z h0))⟩
    · rw [show σ 14 4 = nI (A 0 4) from hC.1.1 4 (by decide), e]; exact ⟨fun z => absurd z (by decide), fun _ => hQ σ KC.rf⟩
    · rw [hM.1.1.2.2.2.2.1, e]; exact ⟨fun z => absurd rfl z, fun _ => hQ σ FM.rf⟩
end M3
