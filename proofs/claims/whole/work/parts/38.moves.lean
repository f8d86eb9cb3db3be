/-! the calls that change something -/
def MV (A : Ab) (pg : Nat → Nat) (L c v : Nat) (Ak : Ab) (im : Nat) (A' : Ab) (pg' : Nat → Nat) (L' c' v' : Nat) (Ak' : Ab) (im' : Nat) (fC fM : EE → Mm → (Int32 → Mm → Prop) → Prop) : Prop :=
  ∃ r : Int32, (∀ E σ Q, CS σ A pg L c v Ak im → (∀ τ, (∀ k, 63 ≤ k → τ k = σ k) → CS τ A' pg' L' c' v' Ak' im' → Q r τ) → fC E σ Q) ∧ (∀ E σ Q, MS σ A pg L c v Ak im → (∀ τ, (∀ k, k < 63 → τ k = σ k) → MS τ A' pg' L' c' v' Ak' im' → Q r τ) → fM E σ Q)
theorem MV.op {A : Ab} {pg : Nat → Nat} {L c v : Nat} {Ak : Ab} {im : Nat} {A' : Ab} {pg' : Nat → Nat} {L' c' v' : Nat} {Ak' : Ab} {im' : Nat} {n : Nat} {fC fM : EE → Mm → (Int32 → Mm → Prop) → Prop} {E : EE} {σ : Mm} {K : Int32 → Int32 → Mm → Prop} (h : MV A pg L c v Ak im A' pg' L' c' v' Ak' im' fC fM) (hS : Sok A' pg' L' c' v' Ak' im' (n + 1)) (hC : CS σ A pg L c v Ak im) (hM : MS σ A pg L c v Ak im)
    (hK : ∀ r τ, Iv τ (n + 1) → K r r τ) : fC E σ (fun r τ => fM E τ (fun r' τ' => K r r' τ')) := by
  obtain ⟨r, h1, h2⟩ := h
  exact h1 E σ _ hC (fun τ k cs => h2 E τ _ (hM.hi k) (fun τ' k' ms => hK r τ' ⟨A', pg', L', c', v', Ak', im', hS, cs.lo k', ms⟩))
def ua (A : Ab) (r j y : Nat) : Ab := fun a b => if a = r ∧ b = j then y else A a b
theorem CS.chg {σ τ : Mm} {A A' : Ab} {pg : Nat → Nat} {L c v : Nat} {Ak : Ab} {im : Nat} (h : CS σ A pg L c v Ak im) (hA : HC 14 τ A') (hk : ∀ k, k ≤ 2 ∨ (24 ≤ k ∧ k ≤ 33) → τ k = σ k) : CS τ A' pg L c v Ak im := by
  obtain ⟨h1, h2, h3, h4, h5, h6⟩ := h
  refine ⟨hA, ⟨by rw [hk 1 (by omega)]; exact h2.1, fun i hi => by rw [hk 2 (by omega)]; exact h2.2 i hi⟩, ?_, ?_, ?_, fun z => (h6 z).of (fun r hr => hk _ (by omega))⟩
  · rw [hk 0 (by omega)]; exact h3
  · rw [hk 0 (by omega)]; exact h4
  · rw [hk 0 (by omega)]; exact h5
theorem MS.chg {σ τ : Mm} {A A' : Ab} {pg : Nat → Nat} {L c v : Nat} {Ak : Ab} {im : Nat} (h : MS σ A pg L c v Ak im) (hM : HM τ A') (h1 : ∀ j, j = 1 ∨ j = 8 ∨ j = 17 ∨ (23 ≤ j ∧ j ≤ 27) → τ 63 j = σ 63 j) (h2 : ∀ k, k = 64 ∨ (74 ≤ k ∧ k ≤ 78) → τ k = σ k) : MS τ A' pg L c v Ak im := by
  obtain ⟨a1, a2, a3, a4, a5⟩ := h
  refine ⟨hM, ⟨by rw [h1 1 (by omega)]; exact a2.1, fun i hi => by rw [h2 64 (by omega)]; exact a2.2 i hi⟩, by rw [h1 8 (by omega)]; exact a3, by rw [h1 17 (by omega)]; exact a4, ?_⟩
  rw [h1 23 (by omega)]
  rcases a5 with a5 | ⟨b1, b2, b3⟩
  · exact Or.inl a5
  · exact Or.inr ⟨b1, b2, b3.of (fun j q1 q2 => h1 j (by omega)) (fun k q1 q2 => h2 k (by omega))⟩
theorem Sok.chg {A A' : Ab} {pg : Nat → Nat} {L c v : Nat} {Ak : Ab} {im n : Nat} (h : Sok A pg L c v Ak im n) (hn : n < 100000) (ok : OK A') (h4 : A' 0 4 ≤ 999) (e1 : A' 0 1 = A 0 1) (e2 : A' 0 2 = A 0 2) (e4 : A' 4 = A 4) (e5 : A' 5 = A 5) : Sok A' pg L c v Ak im (n + 1) := by
  obtain ⟨a1, a2, a3, a4, a5, a6, a7, a8, a9⟩ := h
  exact ⟨ok, h4, by rw [e1, e2]; exact a3, a4, by omega, a6, a7, by rw [e1, e2, e4, e5]; exact a8, by omega⟩
theorem up_63 {σ : Mm} {i j : Nat} {x : Int32} (h : j ≠ i) : up σ 63 i x 63 j = σ 63 j := by rw [up_eq, upd_ne h]
theorem hc_ua {σ : Mm} {A : Ab} {r j y : Nat} (h : HC 14 σ A) (h0 : r = 0 → j ≠ 1 ∧ j ≠ 2 ∧ j ≠ 5) : HC 14 (up σ (14 + r) j (nI y)) (ua A r j y) := by
  have key : ∀ a b, σ (14 + a) b = nI (A a b) → up σ (14 + r) j (nI y) (14 + a) b = nI (ua A r j y a b) := by
    intro a b e
    by_cases z : a = r
    · subst z
      rw [up_eq]
      by_cases z2 : b = j
      · subst z2
        rw [upd_eq]
        exact (congrArg nI (if_pos ⟨rfl, rfl⟩)).symm
      · rw [upd_ne z2, e]
        exact (congrArg nI (if_neg (fun q => z2 q.2))).symm
    · rw [up_ne (by omega), e]
      exact (congrArg nI (if_neg (fun q => z q.1))).symm
  have sz : ∀ i, i = 1 ∨ i = 2 ∨ i = 5 → ua A r j y 0 i = A 0 i := by
    intro i hi
    exact if_neg (fun q => by have := h0 q.1.symm; have := q.2; omega)
  obtain ⟨h1, h2, h3, h4⟩ := h
  refine ⟨fun i hi => key 0 i (h1 i hi), fun p hp => ?_, fun w hw => ?_, fun s hs => ?_⟩
  · rw [sz 1 (by omega)] at hp
    exact ⟨key 1 p (h2 p hp).1, key 2 p (h2 p hp).2.1, key 3 p (h2 p hp).2.2⟩
  · rw [sz 2 (by omega)] at hw
    exact ⟨key 4 w (h3 w hw).1, key 5 w (h3 w hw).2.1, key 6 w (h3 w hw).2.2⟩
  · rw [sz 5 (by omega)] at hs
    exact ⟨key 7 s (h4 s hs).1, key 8 s (h4 s hs).2.1, key 9 s (h4 s hs).2.2⟩
theorem ua_eq {A : Ab} {r j y : Nat} : ua A r j y r j = y := if_pos ⟨rfl, rfl⟩
theorem ua_ne {A : Ab} {r j y b : Nat} (h : b ≠ j) : ua A r j y r b = A r b := if_neg (fun q => h q.2)
section MO
variable {σ : Mm} {A : Ab} {pg : Nat → Nat} {L c v : Nat} {Ak : Ab} {im : Nat}
theorem HM.u3 {y : Nat} (h : HM σ A) : HM (up σ 63 6 (nI y)) (ua A 0 3 y) := ⟨⟨h.1.1, h.1.2.1, h.1.2.2.1, rfl, h.1.2.2.2.2.1, h.1.2.2.2.2.2⟩, h.2.1, h.2.2.1, h.2.2.2⟩
theorem HM.u0 {y : Nat} (h : HM σ A) : HM (up σ 63 5 (nI y)) (ua A 0 0 y) := ⟨⟨rfl, h.1.2.1, h.1.2.2.1, h.1.2.2.2.1, h.1.2.2.2.2.1, h.1.2.2.2.2.2⟩, h.2.1, h.2.2.1, h.2.2.2⟩
theorem uarr {σ : Mm} {A : Ab} {m r j y i : Nat} (h : σ m i = nI (A r i)) : up σ m j (nI y) m i = nI (ua A r j y r i) := by
  rw [up_eq]
  by_cases z : i = j
  · rw [z, upd_eq, ua_eq]
  · rw [upd_ne z, ua_ne z, h]
theorem HM.u6 {w y : Nat} (h : HM σ A) : HM (up σ 70 w (nI y)) (ua A 6 w y) := ⟨h.1, h.2.1, fun i hi => ⟨(h.2.2.1 i hi).1, (h.2.2.1 i hi).2.1, uarr (h.2.2.1 i hi).2.2⟩, h.2.2.2⟩
theorem HM.u1 {w y : Nat} (h : HM σ A) : HM (up σ 65 w (nI y)) (ua A 1 w y) := ⟨h.1, fun i hi => ⟨uarr (h.2.1 i hi).1, (h.2.1 i hi).2.1, (h.2.1 i hi).2.2⟩, h.2.2.1, h.2.2.2⟩
theorem HM.u2 {w y : Nat} (h : HM σ A) : HM (up σ 66 w (nI y)) (ua A 2 w y) := ⟨h.1, fun i hi => ⟨(h.2.1 i hi).1, uarr (h.2.1 i hi).2.1, (h.2.1 i hi).2.2⟩, h.2.2.1, h.2.2.2⟩
theorem OK.u3 {y : Nat} (h : OK A) (hy : y < 2 ^ (A 0 2)) : OK (ua A 0 3 y) := ⟨h.1, h.2.1, h.2.2.1, hy, h.2.2.2.2⟩
theorem OK.u0 {y : Nat} (h : OK A) (hy : y ≤ 6) : OK (ua A 0 0 y) := ⟨h.1, h.2.1, hy, h.2.2.2.1, h.2.2.2.2⟩
theorem OK.u6 {w y : Nat} (h : OK A) (hy : 1 ≤ y ∧ y ≤ 9) : OK (ua A 6 w y) := by
  obtain ⟨h1, h2, h3, h4, h5, h6, h7, h8, h9⟩ := h
  refine ⟨h1, h2, h3, h4, h5, h6, h7, fun i hi => ⟨(h8 i hi).1, (h8 i hi).2.1, ?_⟩, h9⟩
  by_cases z : i = w
  · rw [z, ua_eq]; exact hy
  · rw [ua_ne z]; exact (h8 i hi).2.2
theorem OK.u1 {w y : Nat} (h : OK A) (hy : y ≤ 4) : OK (ua A 1 w y) := by
  obtain ⟨h1, h2, h3, h4, h5, h6, h7, h8, h9⟩ := h
  refine ⟨h1, h2, h3, h4, h5, h6, fun i hi => ⟨?_, (h7 i hi).2.1, (h7 i hi).2.2⟩, h8, h9⟩
  by_cases z : i = w
  · rw [z, ua_eq]; exact hy
  · rw [ua_ne z]; exact (h7 i hi).1
theorem OK.u2 {w y : Nat} (h : OK A) (hy : y ≤ 20) : OK (ua A 2 w y) := by
  obtain ⟨h1, h2, h3, h4, h5, h6, h7, h8, h9⟩ := h
  refine ⟨h1, h2, h3, h4, h5, h6, fun i hi => ⟨(h7 i hi).1, ?_, (h7 i hi).2.2⟩, h8, h9⟩
  by_cases z : i = w
  · rw [z, ua_eq]; exact hy
  · rw [ua_ne z]; exact (h7 i hi).2.1
/-- room -/
theorem v_room (ok : OK A) (h0 : A 0 1 ≠ 0) {y : Nat} (h1 : InR (nI y) 1 6) : MV A pg L c v Ak im (ua A 0 0 y) pg L c v Ak im (fun E σ Q => r_X9_room_0 E (nI y) σ Q) (fun E σ Q => r_X10_room_0 E (nI y) σ Q) := by
  refine ⟨nI (A 0 0), fun E σ Q hC hQ => s_X9_room_0 _ _ _ _ (p_isRoom (fun _ => b1 (p_isThere ok hC.1 (fun _ => b1 ?_) (fun z => absurd z h0))) (fun z => absurd h1 z)), fun E σ Q hM hQ => s_X10_room_0 _ _ _ _ (p_inI (lo := 1) (hi := 6) (by decide) (by decide) (fun _ => b1 (p_lacks ok hM.1 (fun _ => b0' ?_) (fun z => absurd z h0))) (fun z => absurd h1 z))⟩
  · rw [hC.1.1 0 (by decide)]
    exact hQ _ (fun k hk => up_ne (by omega)) (hC.chg (hc_ua (r := 0) hC.1 (fun _ => by decide)) (fun k hk => up_ne (by omega)))
  · rw [hM.1.1.1]
    exact hQ _ (fun k hk => up_ne (by omega)) (hM.chg hM.1.u0 (fun j hj => up_63 (by omega)) (fun k hk => up_ne (by omega)))
theorem q_room0 (ok : OK A) (x1 : Int32) (h : ¬ InR x1 1 6 ∨ A 0 1 = 0) : QQ A pg L c v Ak im (fun E σ Q => r_X9_room_0 E x1 σ Q) (fun E σ Q => r_X10_room_0 E x1 σ Q) := by
  by_cases h1 : InR x1 1 6
  · have h0 : A 0 1 = 0 := h.resolve_left (fun z => z h1)
    exact ⟨-103, fun E σ Q hC hQ => s_X9_room_0 _ _ _ _ (p_isRoom (fun _ => b1 (p_isThere ok hC.1 (fun z => by omega) (fun _ => b0 (hQ σ KC.rf)))) (fun z => absurd h1 z)), fun E σ Q hM hQ => s_X10_room_0 _ _ _ _ (p_inI (lo := 1) (hi := 6) (by decide) (by decide) (fun _ => b1 (p_lacks ok hM.1 (fun z => by omega) (fun _ => b1' (hQ σ FM.rf)))) (fun z => absurd h1 z))⟩
  · exact ⟨-102, fun E σ Q hC hQ => s_X9_room_0 _ _ _ _ (p_isRoom (fun z => absurd z h1) (fun _ => b0 (hQ σ KC.rf))), fun E σ Q hM hQ => s_X10_room_0 _ _ _ _ (p_inI (lo := 1) (hi := 6) (by decide) (by decide) (fun z => absurd z h1) (fun _ => b0 (hQ σ FM.rf)))⟩
/-- forgive -/
theorem v_forgive (ok : OK A) {w : Nat} (hw : w < A 0 2) (hb : bt (A 0 3) w = 0) : MV A pg L c v Ak im (ua A 0 3 (A 0 3 ||| 2 ^ w)) pg L c v Ak im (fun E σ Q => r_X9_forgive_0 E (nI w) σ Q) (fun E σ Q => r_X10_forgive_0 E (nI w) σ Q) := by
  have o2 := ok.2.1
  have o3 := ok.2.2.2.1
  have hF := p256 ok o3
  have hd := (ok.2.2.2.2.2.2.2.1 w hw).1
  have hi : InR (nI w) 0 (A 0 2 - 1) := (InR_nI (by omega)).mpr (by omega)
  have v8 : vp_in (nI w) 8 := vp_in_nI (by omega) (by omega)
  have hlt : A 0 3 ||| 2 ^ w < 2 ^ (A 0 2) := Nat.or_lt_two_pow o3 (Nat.pow_lt_pow_right (by decide) hw)
  have ok' : OK (ua A 0 3 (A 0 3 ||| 2 ^ w)) := ok.u3 hlt
  have hF' := p256 ok hlt
  refine ⟨nI (gu (ua A 0 3 (A 0 3 ||| 2 ^ w)) (A 0 3 ||| 2 ^ w) (A 4 w)), fun E σ Q hC hQ => s_X9_forgive_0 _ _ _ _ (p_hasWrong ok hC.1 (fun _ => b1 (p_isForgiven ok hC.1 (by omega) ?_)) (fun z => absurd hi z)), fun E σ Q hM hQ => s_X10_forgive_0 _ _ _ _ (p_isWrong ok hM.1 (fun _ => b1 ?_) (fun z => absurd hi z))⟩
  · rw [hb]
    refine b0' ⟨v8, ?_⟩
    rw [nI_clamp (by omega), show σ 14 3 = nI (A 0 3) from hC.1.1 3 (by decide), show σ 18 w = nI (A 4 w) from (hC.1.2.2.1 w hw).1, shlI (by omega), orI]
    have hA' : HC 14 (up σ 14 3 (nI (A 0 3 ||| 2 ^ w))) (ua A 0 3 (A 0 3 ||| 2 ^ w)) := hc_ua (r := 0) hC.1 (fun _ => by decide)
    refine p_guiltOf ok' hA' hd (fun τ g => hQ τ (fun k hk => ?_) (hC.chg (hA'.fr g (by decide)) (fun k hk => ?_)))
    · rw [g k (by simp only [List.mem_cons, List.not_mem_nil, or_false]; omega), up_ne (by omega)]
    · rw [g k (by simp only [List.mem_cons, List.not_mem_nil, or_false]; omega), up_ne (by omega)]
  · rw [nI_clamp (by omega), hM.1.1.2.2.2.1, (hM.1.2.2.1 w hw).1, bitI (by omega) (by omega), hb, shlI (by omega), orI]
    refine ⟨fun _ => ⟨v8, ?_⟩, fun z => absurd z (by decide)⟩
    exact p_guiltBy ok' hM.1.u3 hd (by omega) (hQ _ (fun k hk => up_ne (by omega)) (hM.chg hM.1.u3 (fun j hj => up_63 (by omega)) (fun k hk => up_ne (by omega))))
theorem q_forgive0 (ok : OK A) (x1 : Int32) (h : ¬ InR x1 0 (A 0 2 - 1) ∨ ∃ w, w < A 0 2 ∧ x1 = nI w ∧ bt (A 0 3) w = 1) : QQ A pg L c v Ak im (fun E σ Q => r_X9_forgive_0 E x1 σ Q) (fun E σ Q => r_X10_forgive_0 E x1 σ Q) := by
  rcases h with h | ⟨w, hw, rfl, hb⟩
  · exact ⟨-101, fun E σ Q hC hQ => s_X9_forgive_0 _ _ _ _ (p_hasWrong ok hC.1 (fun z => absurd z h) (fun _ => b0 (hQ σ KC.rf))), fun E σ Q hM hQ => s_X10_forgive_0 _ _ _ _ (p_isWrong ok hM.1 (fun z => absurd z h) (fun _ => b0 (hQ σ FM.rf)))⟩
  · have o2 := ok.2.1
    have hF := p256 ok ok.2.2.2.1
    have hi : InR (nI w) 0 (A 0 2 - 1) := (InR_nI (by omega)).mpr (by omega)
    refine ⟨-103, fun E σ Q hC hQ => s_X9_forgive_0 _ _ _ _ (p_hasWrong ok hC.1 (fun _ => b1 (p_isForgiven ok hC.1 (by omega) ?_)) (fun z => absurd hi z)), fun E σ Q hM hQ => s_X10_forgive_0 _ _ _ _ (p_isWrong ok hM.1 (fun _ => b1 ?_) (fun z => absurd hi z))⟩
    · rw [hb]; exact b1' (hQ σ KC.rf)
    · rw [hM.1.1.2.2.2.1, bitI (by omega) (by omega), hb]
      exact ⟨fun z => absurd rfl z, fun _ => hQ σ FM.rf⟩
/-- again -/
theorem clr_lt {F w n : Nat} (h : F < 2 ^ n) : clr F w < 2 ^ n := Nat.lt_of_le_of_lt (Nat.sub_le _ _) h
theorem v_again (ok : OK A) {w y : Nat} (hw : w < A 0 2) (hy : 1 ≤ y ∧ y ≤ 9) : MV A pg L c v Ak im (ua (ua A 0 3 (clr (A 0 3) w)) 6 w y) pg L c v Ak im (fun E σ Q => r_X9_again_0 E (nI w) (nI y) σ Q) (fun E σ Q => r_X10_again_0 E (nI w) (nI y) σ Q) := by
  have o2 := ok.2.1
  have o3 := ok.2.2.2.1
  have hF := p256 ok o3
  have hd := (ok.2.2.2.2.2.2.2.1 w hw).1
  have hi : InR (nI w) 0 (A 0 2 - 1) := (InR_nI (by omega)).mpr (by omega)
  have hj : InR (nI y) 1 9 := (InR_nI (by omega)).mpr (by omega)
  have v8 : vp_in (nI w) 8 := vp_in_nI (by omega) (by omega)
  have hlt : clr (A 0 3) w < 2 ^ (A 0 2) := clr_lt o3
  have ok' : OK (ua (ua A 0 3 (clr (A 0 3) w)) 6 w y) := (ok.u3 hlt).u6 hy
  have hF' := p256 ok hlt
  have ec : nI (A 0 3) &&& (nI (2 ^ w) ^^^ (-1)) = nI (clr (A 0 3) w) := clrI_all ⟨A 0 3, hF⟩ ⟨w, by omega⟩
  refine ⟨nI (gu (ua (ua A 0 3 (clr (A 0 3) w)) 6 w y) (clr (A 0 3) w) (A 4 w)), fun E σ Q hC hQ => s_X9_again_0 _ _ _ _ _ (p_hasWrong ok hC.1 (fun _ => b1 ⟨fun z => absurd z (hj.ge (by decide)), fun _ => ⟨fun _ => ⟨v8, v8, ?_⟩, fun z => absurd (hj.top (by decide)) z⟩⟩) (fun z => absurd hi z)), fun E σ Q hM hQ => s_X10_again_0 _ _ _ _ _ (p_isWrong ok hM.1 (fun _ => b1 (p_inI (lo := 1) (hi := 9) (by decide) (by decide) (fun _ => b1 ⟨v8, v8, ?_⟩) (fun z => absurd hj z))) (fun z => absurd hi z))⟩
  · rw [nI_clamp (by omega), show σ 14 3 = nI (A 0 3) from hC.1.1 3 (by decide), show σ 18 w = nI (A 4 w) from (hC.1.2.2.1 w hw).1, shlI (by omega), ec]
    have hA' : HC 14 (up (up σ 14 3 (nI (clr (A 0 3) w))) 20 w (nI y)) (ua (ua A 0 3 (clr (A 0 3) w)) 6 w y) := hc_ua (r := 6) (hc_ua (r := 0) hC.1 (fun _ => by decide)) (fun z => absurd z (by decide))
    have hA2 : HC 14 (up (up σ 20 w (nI y)) 14 3 (nI (clr (A 0 3) w))) (ua (ua A 0 3 (clr (A 0 3) w)) 6 w y) := by
      refine hA'.of (fun r hr => ?_)
      funext b
      by_cases z : 14 + r = 14
      · rw [z, up_eq, up_ne (by decide), up_ne (by decide), up_eq]
      · rw [up_ne z]
        by_cases z2 : 14 + r = 20
        · rw [z2, up_eq, up_eq, up_ne (by decide)]
        · rw [up_ne z2, up_ne z2, up_ne z]
    refine p_guiltOf ok' hA2 hd (fun τ g => hQ τ (fun k hk => ?_) (hC.chg (hA2.fr g (by decide)) (fun k hk => ?_)))
    · rw [g k (by simp only [List.mem_cons, List.not_mem_nil, or_false]; omega), up_ne (by omega), up_ne (by omega)]
    · rw [g k (by simp only [List.mem_cons, List.not_mem_nil, or_false]; omega), up_ne (by omega), up_ne (by omega)]
  · rw [nI_clamp (by omega), hM.1.1.2.2.2.1, (hM.1.2.2.1 w hw).1, shlI (by omega), ec]
    refine p_guiltBy ok' hM.1.u3.u6 hd (by omega) (hQ _ (fun k hk => ?_) (hM.chg hM.1.u3.u6 (fun j hj => ?_) (fun k hk => ?_)))
    · rw [up_ne (by omega), up_ne (by omega)]
    · rw [up_ne (by decide), up_63 (by omega)]
    · rw [up_ne (by omega), up_ne (by omega)]
theorem q_again0 (ok : OK A) (x1 x2 : Int32) (h : ¬ (InR x1 0 (A 0 2 - 1) ∧ InR x2 1 9)) : QQ A pg L c v Ak im (fun E σ Q => r_X9_again_0 E x1 x2 σ Q) (fun E σ Q => r_X10_again_0 E x1 x2 σ Q) := by
  by_cases h1 : InR x1 0 (A 0 2 - 1)
  · have h2 : ¬ InR x2 1 9 := fun z => h ⟨h1, z⟩
    exact ⟨-102, fun E σ Q hC hQ => s_X9_again_0 _ _ _ _ _ (p_hasWrong ok hC.1 (fun _ => b1 ⟨fun _ => hQ σ KC.rf, fun a => ⟨fun b => absurd (InR.of a b (by decide) (by decide)) h2, fun _ => hQ σ KC.rf⟩⟩) (fun z => absurd h1 z)), fun E σ Q hM hQ => s_X10_again_0 _ _ _ _ _ (p_isWrong ok hM.1 (fun _ => b1 (p_inI (lo := 1) (hi := 9) (by decide) (by decide) (fun z => absurd z h2) (fun _ => b0 (hQ σ FM.rf)))) (fun z => absurd h1 z))⟩
  · exact ⟨-101, fun E σ Q hC hQ => s_X9_again_0 _ _ _ _ _ (p_hasWrong ok hC.1 (fun z => absurd z h1) (fun _ => b0 (hQ σ KC.rf))), fun E σ Q hM hQ => s_X10_again_0 _ _ _ _ _ (p_isWrong ok hM.1 (fun z => absurd z h1) (fun _ => b0 (hQ σ FM.rf)))⟩
/-- change -/
theorem v_change (ok : OK A) {p k x : Nat} (hp : p < A 0 1) (hk : k ≤ 4) (hx : x ≤ 20) : MV A pg L c v Ak im (ua (ua A 1 p k) 2 p x) pg L c v Ak im (fun E σ Q => r_X9_change_0 E (nI p) (nI k) (nI x) σ Q) (fun E σ Q => r_X10_change_0 E (nI p) (nI k) (nI x) σ Q) := by
  have o1 := ok.1
  have hi : InR (nI p) 0 (A 0 1 - 1) := (InR_nI (by omega)).mpr (by omega)
  have hj : InR (nI k) 0 4 := (InR_nI (by omega)).mpr (by omega)
  have hl : InR (nI x) 0 20 := (InR_nI (by omega)).mpr (by omega)
  have v6 : vp_in (nI p) 6 := vp_in_nI (by omega) (by omega)
  refine ⟨nI (A 1 p), fun E σ Q hC hQ => s_X9_change_0 _ _ _ _ _ _ (p_hasPerson14 (hC.1.1 1 (by decide)) ok.1 (fun _ => b1 (p_isKind (fun _ => b1' ⟨fun z => absurd z (hl.ge (by decide)), fun _ => ⟨fun _ => ⟨v6, v6, v6, ?_⟩, fun z => absurd (hl.top (by decide)) z⟩⟩) (fun z => absurd hj z))) (fun z => absurd hi z)), fun E σ Q hM hQ => s_X10_change_0 _ _ _ _ _ _ (p_isPerson ok hM.1 (fun _ => b1 (p_inI (lo := 0) (hi := 4) (by decide) (by decide) (fun _ => b1' (p_inI (lo := 0) (hi := 20) (by decide) (by decide) (fun _ => b1 ⟨v6, v6, v6, ?_⟩) (fun z => absurd hl z))) (fun z => absurd hj z))) (fun z => absurd hi z))⟩
  · rw [nI_clamp (by omega), show σ 15 p = nI (A 1 p) from (hC.1.2.1 p hp).1]
    refine hQ _ (fun k hk => ?_) (hC.chg (hc_ua (r := 2) (hc_ua (r := 1) hC.1 (fun z => absurd z (by decide))) (fun z => absurd z (by decide))) (fun k hk => ?_))
    · rw [up_ne (by omega), up_ne (by omega)]
    · rw [up_ne (by omega), up_ne (by omega)]
  · rw [nI_clamp (by omega), (hM.1.2.1 p hp).1]
    refine hQ _ (fun k hk => ?_) (hM.chg hM.1.u1.u2 (fun j hj => ?_) (fun k hk => ?_))
    · rw [up_ne (by omega), up_ne (by omega)]
    · rw [up_ne (by decide), up_ne (by decide)]
    · rw [up_ne (by omega), up_ne (by omega)]
theorem q_change0 (ok : OK A) (x1 x2 x3 : Int32) (h : ¬ (InR x1 0 (A 0 1 - 1) ∧ InR x2 0 4 ∧ InR x3 0 20)) : QQ A pg L c v Ak im (fun E σ Q => r_X9_change_0 E x1 x2 x3 σ Q) (fun E σ Q => r_X10_change_0 E x1 x2 x3 σ Q) := by
  by_cases h1 : InR x1 0 (A 0 1 - 1)
  · by_cases h2 : InR x2 0 4
    · have h3 : ¬ InR x3 0 20 := fun z => h ⟨h1, h2, z⟩
      exact ⟨-102, fun E σ Q hC hQ => s_X9_change_0 _ _ _ _ _ _ (p_hasPerson14 (hC.1.1 1 (by decide)) ok.1 (fun _ => b1 (p_isKind (fun _ => b1' ⟨fun _ => hQ σ KC.rf, fun a => ⟨fun b => absurd (InR.of a b (by decide) (by decide)) h3, fun _ => hQ σ KC.rf⟩⟩) (fun z => absurd h2 z))) (fun z => absurd h1 z)), fun E σ Q hM hQ => s_X10_change_0 _ _ _ _ _ _ (p_isPerson ok hM.1 (fun _ => b1 (p_inI (lo := 0) (hi := 4) (by decide) (by decide) (fun _ => b1' (p_inI (lo := 0) (hi := 20) (by decide) (by decide) (fun z => absurd z h3) (fun _ => b0 (hQ σ FM.rf)))) (fun z => absurd h2 z))) (fun z => absurd h1 z))⟩
    · exact ⟨-102, fun E σ Q hC hQ => s_X9_change_0 _ _ _ _ _ _ (p_hasPerson14 (hC.1.1 1 (by decide)) ok.1 (fun _ => b1 (p_isKind (fun z => absurd z h2) (fun _ => b0' (hQ σ KC.rf)))) (fun z => absurd h1 z)), fun E σ Q hM hQ => s_X10_change_0 _ _ _ _ _ _ (p_isPerson ok hM.1 (fun _ => b1 (p_inI (lo := 0) (hi := 4) (by decide) (by decide) (fun z => absurd z h2) (fun _ => b0' (hQ σ FM.rf)))) (fun z => absurd h1 z))⟩
  · exact ⟨-101, fun E σ Q hC hQ => s_X9_change_0 _ _ _ _ _ _ (p_hasPerson14 (hC.1.1 1 (by decide)) ok.1 (fun z => absurd z h1) (fun _ => b0 (hQ σ KC.rf))), fun E σ Q hM hQ => s_X10_change_0 _ _ _ _ _ _ (p_isPerson ok hM.1 (fun z => absurd z h1) (fun _ => b0 (hQ σ FM.rf)))⟩
end MO
