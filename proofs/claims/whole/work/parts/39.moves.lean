/-! letter, blank, chapel, leave, see, forget -/
section M2
variable {A : Ab} {pg : Nat → Nat} {L c v : Nat} {Ak : Ab} {im : Nat}
def pga (pg : Nat → Nat) (L a : Nat) : Nat → Nat := fun i => if i = L then a else pg i
theorem v_letter (hP : Pok pg L) (hL : L < 54) {a : Nat} (ha : 1 ≤ a ∧ a ≤ 126) : MV A pg L c v Ak im A (pga pg L a) (L + 1) c v Ak im (fun E σ Q => r_X9_letter_0 E (nI a) σ Q) (fun E σ Q => r_X10_letter_0 E (nI a) σ Q) := by
  have hj : InR (nI a) 1 126 := (InR_nI (by omega)).mpr (by omega)
  have v54 : vp_in (nI L) 54 := vp_in_nI (by omega) (by omega)
  refine ⟨nI (L + 1), fun E σ Q hC hQ => s_X9_letter_0 _ _ _ _ ⟨fun z => absurd z (hj.ge (by decide)), fun _ => ⟨fun _ => ?_, fun z => absurd (hj.top (by decide)) z⟩⟩, fun E σ Q hM hQ => s_X10_letter_0 _ _ _ _ (p_inI (lo := 1) (hi := 126) (by decide) (by decide) (fun _ => b1 ?_) (fun z => absurd hj z))⟩
  · rw [hC.2.1.1]
    refine tlt (b := 54) (by omega) (by decide) (fun _ => s_X6_add_0 _ _ _ _ ?_) (fun z => by omega)
    rw [hC.2.1.1]
    refine tle (a := 54) (by decide) (by omega) (fun z => by omega) (fun _ => ⟨v54, ?_⟩)
    rw [nI_clamp (by omega), show nI L + 1 = nI (L + 1) from nI_add L 1]
    refine hQ _ (fun k hk => by rw [up_ne (by omega), up_ne (by omega)]) ?_
    obtain ⟨h1, h2, h3, h4, h5, h6⟩ := hC
    refine ⟨h1.of (fun r hr => by rw [up_ne (by omega), up_ne (by omega)]), ⟨rfl, fun i hi => ?_⟩, h3, h4, h5, fun z => (h6 z).of (fun r hr => by rw [up_ne (by omega), up_ne (by omega)])⟩
    rw [up_ne (by decide), up_eq]
    by_cases z : i = L
    · rw [z, upd_eq]; exact (congrArg nI (if_pos rfl)).symm
    · rw [upd_ne z, h2.2 i (by omega)]; exact (congrArg nI (if_neg z)).symm
  · rw [hM.2.1.1]
    refine tne (b := 54) (by omega) (by decide) (fun _ => ⟨v54, ?_⟩) (fun z => by omega)
    rw [nI_clamp (by omega), show nI L + 1 = nI (L + 1) from nI_add L 1]
    refine hQ _ (fun k hk => by rw [up_ne (by omega), up_ne (by omega)]) ?_
    obtain ⟨a1, a2, a3, a4, a5⟩ := hM
    refine ⟨a1, ⟨rfl, fun i hi => ?_⟩, a3, a4, a5⟩
    rw [up_ne (by decide), up_eq]
    by_cases z : i = L
    · rw [z, upd_eq]; exact (congrArg nI (if_pos rfl)).symm
    · rw [upd_ne z, a2.2 i (by omega)]; exact (congrArg nI (if_neg z)).symm
theorem q_letter0 (hP : Pok pg L) (x1 : Int32) (h : ¬ InR x1 1 126 ∨ L = 54) : QQ A pg L c v Ak im (fun E σ Q => r_X9_letter_0 E x1 σ Q) (fun E σ Q => r_X10_letter_0 E x1 σ Q) := by
  by_cases hj : InR x1 1 126
  · have hL : L = 54 := h.resolve_left (fun z => z hj)
    subst hL
    refine ⟨-104, fun E σ Q hC hQ => s_X9_letter_0 _ _ _ _ ⟨fun z => absurd z (hj.ge (by decide)), fun _ => ⟨fun _ => ?_, fun z => absurd (hj.top (by decide)) z⟩⟩, fun E σ Q hM hQ => s_X10_letter_0 _ _ _ _ (p_inI (lo := 1) (hi := 126) (by decide) (by decide) (fun _ => b1 ?_) (fun z => absurd hj z))⟩
    · rw [hC.2.1.1]
      exact ⟨fun z => absurd z (by decide), fun _ => hQ σ KC.rf⟩
    · rw [hM.2.1.1]
      exact ⟨fun z => absurd rfl z, fun _ => hQ σ FM.rf⟩
  · exact ⟨-102, fun E σ Q hC hQ => s_X9_letter_0 _ _ _ _ ⟨fun _ => hQ σ KC.rf, fun a => ⟨fun b => absurd (InR.of a b (by decide) (by decide)) hj, fun _ => hQ σ KC.rf⟩⟩, fun E σ Q hM hQ => s_X10_letter_0 _ _ _ _ (p_inI (lo := 1) (hi := 126) (by decide) (by decide) (fun z => absurd z hj) (fun _ => b0 (hQ σ FM.rf)))⟩
theorem v_blank : MV A pg L c v Ak im A pg 0 c v Ak im (fun E σ Q => r_X9_blank_0 E σ Q) (fun E σ Q => r_X10_blank_0 E σ Q) := by
  refine ⟨nI L, fun E σ Q hC hQ => s_X9_blank_0 _ _ _ ?_, fun E σ Q hM hQ => s_X10_blank_0 _ _ _ ?_⟩
  · rw [hC.2.1.1]
    obtain ⟨h1, h2, h3, h4, h5, h6⟩ := hC
    exact hQ _ (fun k hk => up_ne (by omega)) ⟨h1.of (fun r hr => up_ne (by omega)), ⟨rfl, fun i hi => absurd hi (Nat.not_lt_zero _)⟩, h3, h4, h5, fun z => (h6 z).of (fun r hr => up_ne (by omega))⟩
  · rw [hM.2.1.1]
    obtain ⟨a1, a2, a3, a4, a5⟩ := hM
    exact hQ _ (fun k hk => up_ne (by omega)) ⟨a1, ⟨rfl, fun i hi => absurd hi (Nat.not_lt_zero _)⟩, a3, a4, a5⟩
/-- forget -/
theorem HM.u5 {σ : Mm} (h : HM σ A) : HM (up σ 63 20 0) (ua A 0 5 0) := ⟨⟨h.1.1, h.1.2.1, h.1.2.2.1, h.1.2.2.2.1, h.1.2.2.2.2.1, rfl⟩, h.2.1, h.2.2.1, fun s hs => absurd hs (Nat.not_lt_zero _)⟩
theorem hc_u5 {σ : Mm} (h : HC 14 σ A) : HC 14 (up σ 14 5 0) (ua A 0 5 0) := by
  obtain ⟨h1, h2, h3, h4⟩ := h
  refine ⟨fun j hj => ?_, h2, h3, fun s hs => absurd hs (Nat.not_lt_zero _)⟩
  exact uarr (y := 0) (h1 j hj)
theorem OK.u5 (h : OK A) : OK (ua A 0 5 0) := by
  obtain ⟨h1, h2, h3, h4, h5, h6, h7, h8, h9⟩ := h
  exact ⟨h1, h2, h3, h4, h5, Nat.zero_le _, h7, h8, fun s hs => absurd hs (Nat.not_lt_zero _)⟩
theorem v_forget : MV A pg L c v Ak im (ua A 0 5 0) pg L c v Ak im (fun E σ Q => r_X9_forget_0 E σ Q) (fun E σ Q => r_X10_forget_0 E σ Q) := by
  refine ⟨nI (A 0 5), fun E σ Q hC hQ => s_X9_forget_0 _ _ _ ?_, fun E σ Q hM hQ => s_X10_forget_0 _ _ _ ?_⟩
  · rw [hC.1.1 5 (by decide)]
    exact hQ _ (fun k hk => up_ne (by omega)) (hC.chg (hc_u5 hC.1) (fun k hk => up_ne (by omega)))
  · rw [hM.1.1.2.2.2.2.2]
    exact hQ _ (fun k hk => up_ne (by omega)) (hM.chg hM.1.u5 (fun j hj => up_63 (by omega)) (fun k hk => up_ne (by omega)))
/-- leave -/
theorem v_leave (ok : OK A) (hP : A 0 1 ≠ 0) (hv : v < 20) {N w : Nat} (hN : InR (nI N) 1 6) (hN6 : N ≤ 6) (hw : w ≤ 2) : MV A pg L c v Ak im A pg L c (v + 1) Ak im (fun E σ Q => r_X9_leave_0 E (nI N) (nI w) σ Q) (fun E σ Q => r_X10_leave_0 E (nI N) (nI w) σ Q) := by
  have hj : InR (nI w) 0 2 := (InR_nI (by omega)).mpr (by omega)
  have ev : nI v + 1 = nI (v + 1) := nI_add _ 1
  refine ⟨nI (la A N w), fun E σ Q hC hQ => s_X9_leave_0 _ _ _ _ _ ⟨fun z => absurd z (hN.ge (by decide)), fun _ => ⟨fun z => absurd z (hN.top' (by decide)), fun _ => ⟨fun z => absurd z (hj.ge (by decide)), fun _ => ⟨fun _ => p_isThere ok hC.1 (fun _ => b1' ?_) (fun z => absurd z hP), fun z => absurd (hj.top (by decide)) z⟩⟩⟩⟩, fun E σ Q hM hQ => s_X10_leave_0 _ _ _ _ _ (p_inI (lo := 1) (hi := 6) (by decide) (by decide) (fun _ => b1' (p_inI (lo := 0) (hi := 2) (by decide) (by decide) (fun _ => b1 (p_lacks ok hM.1 (fun _ => b0 ?_) (fun z => absurd z hP))) (fun z => absurd hj z))) (fun z => absurd hN z))⟩
  · rw [hC.2.2.2.1, ev]
    refine tlt (b := 20) (by omega) (by decide) (fun _ => ?_) (fun z => by omega)
    have hA' : HC 14 (up σ 0 13 (nI (v + 1))) A := hC.1.of (fun r hr => up_ne (by omega))
    refine p_choose ok hA' hN6 (fun τ g1 g2 => ?_)
    have q : Q (nI (la A N w)) τ := by
      refine hQ τ (fun k hk => ?_) ?_
      · rw [g1 k (by simp only [List.mem_cons, List.not_mem_nil, or_false]; omega), up_ne (by omega)]
      · obtain ⟨h1, h2, h3, h4, h5, h6⟩ := hC
        refine ⟨hA'.fr g1 (by decide), ⟨?_, fun i hi => ?_⟩, ?_, ?_, ?_, fun z => (h6 z).of (fun r hr => ?_)⟩
        · rw [g1 1 (by decide)]; exact h2.1
        · rw [g1 2 (by decide)]; exact h2.2 i hi
        · rw [g1 0 (by decide)]; exact h3
        · rw [g1 0 (by decide)]; rfl
        · rw [g1 0 (by decide)]; exact h5
        · rw [g1 _ (by simp only [List.mem_cons, List.not_mem_nil, or_false]; omega), up_ne (by omega)]
    rw [g2.1, g2.2.1, g2.2.2]
    rcases (show w = 0 ∨ w = 1 ∨ w = 2 by omega) with e | e | e <;> rw [e] at q ⊢
    · exact ⟨fun z => absurd rfl z, fun _ => q⟩
    · exact ⟨fun _ => ⟨fun z => absurd rfl z, fun _ => q⟩, fun z => absurd z (by decide)⟩
    · exact ⟨fun _ => ⟨fun _ => q, fun z => absurd z (by decide)⟩, fun z => absurd z (by decide)⟩
  · rw [hM.2.2.2.1, ev]
    refine tne (b := 20) (by omega) (by decide) (fun _ => ?_) (fun z => by omega)
    have hM' : HM (up σ 63 17 (nI (v + 1))) A := hM.1
    refine p_leaveOf ok hM' (by omega) hN6 hw (fun τ f => hQ τ (fun k hk => ?_) ?_)
    · rw [f.1 k (by omega) (by omega) (by omega), up_ne (by omega)]
    · obtain ⟨a1, a2, a3, a4, a5⟩ := hM
      have m2 : MS (up σ 63 17 (nI (v + 1))) A pg L c (v + 1) Ak im := ⟨hM', a2, a3, rfl, a5⟩
      exact m2.fm f
theorem q_leave0 (ok : OK A) (hv : v ≤ 20) (x1 x2 : Int32) (h : ¬ (InR x1 1 6 ∧ InR x2 0 2 ∧ A 0 1 ≠ 0 ∧ v ≠ 20)) : QQ A pg L c v Ak im (fun E σ Q => r_X9_leave_0 E x1 x2 σ Q) (fun E σ Q => r_X10_leave_0 E x1 x2 σ Q) := by
  by_cases h1 : InR x1 1 6
  · by_cases h2 : InR x2 0 2
    · by_cases h3 : A 0 1 = 0
      · exact ⟨-103, fun E σ Q hC hQ => s_X9_leave_0 _ _ _ _ _ ⟨fun z => absurd z (h1.ge (by decide)), fun _ => ⟨fun z => absurd z (h1.top' (by decide)), fun _ => ⟨fun z => absurd z (h2.ge (by decide)), fun _ => ⟨fun _ => p_isThere ok hC.1 (fun z => by omega) (fun _ => b0' (hQ σ KC.rf)), fun z => absurd (h2.top (by decide)) z⟩⟩⟩⟩, fun E σ Q hM hQ => s_X10_leave_0 _ _ _ _ _ (p_inI (lo := 1) (hi := 6) (by decide) (by decide) (fun _ => b1' (p_inI (lo := 0) (hi := 2) (by decide) (by decide) (fun _ => b1 (p_lacks ok hM.1 (fun z => by omega) (fun _ => b1 (hQ σ FM.rf)))) (fun z => absurd h2 z))) (fun z => absurd h1 z))⟩
      · have e : v = 20 := by
          rcases Nat.lt_or_ge v 20 with z | z
          · exact absurd ⟨h1, h2, h3, by omega⟩ h
          · omega
        subst e
        refine ⟨-103, fun E σ Q hC hQ => s_X9_leave_0 _ _ _ _ _ ⟨fun z => absurd z (h1.ge (by decide)), fun _ => ⟨fun z => absurd z (h1.top' (by decide)), fun _ => ⟨fun z => absurd z (h2.ge (by decide)), fun _ => ⟨fun _ => p_isThere ok hC.1 (fun _ => b1' ?_) (fun z => absurd z h3), fun z => absurd (h2.top (by decide)) z⟩⟩⟩⟩, fun E σ Q hM hQ => s_X10_leave_0 _ _ _ _ _ (p_inI (lo := 1) (hi := 6) (by decide) (by decide) (fun _ => b1' (p_inI (lo := 0) (hi := 2) (by decide) (by decide) (fun _ => b1 (p_lacks ok hM.1 (fun _ => b0 ?_) (fun z => absurd z h3))) (fun z => absurd h2 z))) (fun z => absurd h1 z))⟩
        · rw [hC.2.2.2.1]; exact ⟨fun z => absurd z (by decide), fun _ => hQ σ KC.rf⟩
        · rw [hM.2.2.2.1]; exact ⟨fun z => absurd rfl z, fun _ => hQ σ FM.rf⟩
    · exact ⟨-102, fun E σ Q hC hQ => s_X9_leave_0 _ _ _ _ _ ⟨fun _ => hQ σ KC.rf, fun _ => ⟨fun _ => hQ σ KC.rf, fun _ => ⟨fun _ => hQ σ KC.rf, fun a => ⟨fun b => absurd (InR.of a b (by decide) (by decide)) h2, fun _ => hQ σ KC.rf⟩⟩⟩⟩, fun E σ Q hM hQ => s_X10_leave_0 _ _ _ _ _ (p_inI (lo := 1) (hi := 6) (by decide) (by decide) (fun _ => b1' (p_inI (lo := 0) (hi := 2) (by decide) (by decide) (fun z => absurd z h2) (fun _ => b0 (hQ σ FM.rf)))) (fun z => absurd h1 z))⟩
  · exact ⟨-102, fun E σ Q hC hQ => s_X9_leave_0 _ _ _ _ _ ⟨fun _ => hQ σ KC.rf, fun a => ⟨fun _ => hQ σ KC.rf, fun b => absurd (InR.of' a b (by decide) (by decide)) h1⟩⟩, fun E σ Q hM hQ => s_X10_leave_0 _ _ _ _ _ (p_inI (lo := 1) (hi := 6) (by decide) (by decide) (fun z => absurd z h1) (fun _ => b0' (hQ σ FM.rf)))⟩
/-- see -/
def sw (A : Ab) (w r x : Nat) : Ab := ua (ua (ua (ua A 7 (A 0 5) w) 8 (A 0 5) r) 9 (A 0 5) x) 0 5 (A 0 5 + 1)
theorem sw_OK {w r x : Nat} (ok : OK A) (h5 : A 0 5 < 6) (hw : w < A 0 2) (hr : 1 ≤ r ∧ r ≤ 6) (hx : x ≤ 1) : OK (sw A w r x) := by
  obtain ⟨h1, h2, h3, h4, h5', h6, h7, h8, h9⟩ := ok
  refine ⟨h1, h2, h3, h4, h5', h5, h7, h8, fun s hs => ?_⟩
  have hs' : s < A 0 5 + 1 := hs
  show ua A 7 (A 0 5) w 7 s < A 0 2 ∧ 1 ≤ ua A 8 (A 0 5) r 8 s ∧ ua A 8 (A 0 5) r 8 s ≤ 6 ∧ ua A 9 (A 0 5) x 9 s ≤ 1
  by_cases z : s = A 0 5
  · rw [z, ua_eq, ua_eq, ua_eq]; exact ⟨hw, hr.1, hr.2, hx⟩
  · rw [ua_ne z, ua_ne z, ua_ne z]; exact h9 s (by omega)
theorem hc_sw {σ : Mm} {w r x : Nat} (h : HC 14 σ A) : HC 14 (up (up (up (up σ 21 (A 0 5) (nI w)) 22 (A 0 5) (nI r)) 23 (A 0 5) (nI x)) 14 5 (nI (A 0 5 + 1))) (sw A w r x) := by
  obtain ⟨h1, h2, h3, h4⟩ := h
  refine ⟨fun j hj => uarr (A := ua (ua (ua A 7 (A 0 5) w) 8 (A 0 5) r) 9 (A 0 5) x) (r := 0) (h1 j hj), h2, h3, fun s hs => ?_⟩
  have hs' : s < A 0 5 + 1 := hs
  show upd (σ 21) (A 0 5) (nI w) s = nI (ua A 7 (A 0 5) w 7 s) ∧ upd (σ 22) (A 0 5) (nI r) s = nI (ua A 8 (A 0 5) r 8 s) ∧ upd (σ 23) (A 0 5) (nI x) s = nI (ua A 9 (A 0 5) x 9 s)
  by_cases z : s = A 0 5
  · rw [z, ua_eq, ua_eq, ua_eq, upd_eq, upd_eq, upd_eq]; exact ⟨rfl, rfl, rfl⟩
  · rw [ua_ne z, ua_ne z, ua_ne z, upd_ne z, upd_ne z, upd_ne z]; exact h4 s (by omega)
theorem hm_sw {σ : Mm} {w r x : Nat} (h : HM σ A) : HM (up (up (up (up σ 73 (3 * A 0 5) (nI w)) 73 (3 * A 0 5 + 1) (nI r)) 73 (3 * A 0 5 + 2) (nI x)) 63 20 (nI (A 0 5 + 1))) (sw A w r x) := by
  obtain ⟨h1, h2, h3, h4⟩ := h
  refine ⟨⟨h1.1, h1.2.1, h1.2.2.1, h1.2.2.2.1, h1.2.2.2.2.1, rfl⟩, h2, h3, fun s hs => ?_⟩
  have hs' : s < A 0 5 + 1 := hs
  show upd (upd (upd (σ 73) (3 * A 0 5) (nI w)) (3 * A 0 5 + 1) (nI r)) (3 * A 0 5 + 2) (nI x) (3 * s) = nI (ua A 7 (A 0 5) w 7 s) ∧ upd (upd (upd (σ 73) (3 * A 0 5) (nI w)) (3 * A 0 5 + 1) (nI r)) (3 * A 0 5 + 2) (nI x) (3 * s + 1) = nI (ua A 8 (A 0 5) r 8 s) ∧ upd (upd (upd (σ 73) (3 * A 0 5) (nI w)) (3 * A 0 5 + 1) (nI r)) (3 * A 0 5 + 2) (nI x) (3 * s + 2) = nI (ua A 9 (A 0 5) x 9 s)
  by_cases z : s = A 0 5
  · rw [z, ua_eq, ua_eq, ua_eq, upd_eq, upd_ne (show 3 * A 0 5 ≠ 3 * A 0 5 + 2 by omega), upd_ne (show 3 * A 0 5 ≠ 3 * A 0 5 + 1 by omega), upd_eq, upd_ne (show 3 * A 0 5 + 1 ≠ 3 * A 0 5 + 2 by omega), upd_eq]; exact ⟨rfl, rfl, rfl⟩
  · have e : ∀ t, t < 3 → upd (upd (upd (σ 73) (3 * A 0 5) (nI w)) (3 * A 0 5 + 1) (nI r)) (3 * A 0 5 + 2) (nI x) (3 * s + t) = σ 73 (3 * s + t) := fun t ht => by
      rw [upd_ne (by omega), upd_ne (by omega), upd_ne (by omega)]
    rw [ua_ne z, ua_ne z, ua_ne z, e 1 (by decide), e 2 (by decide), show 3 * s = 3 * s + 0 from rfl, e 0 (by decide)]; exact h4 s (by omega)
theorem v_see (ok : OK A) (h5 : A 0 5 < 6) {w r x : Nat} (hw : w < A 0 2) (hr : 1 ≤ r ∧ r ≤ 6) (hx : x ≤ 1) : MV A pg L c v Ak im (sw A w r x) pg L c v Ak im (fun E σ Q => r_X9_see_0 E (nI w) (nI r) (nI x) σ Q) (fun E σ Q => r_X10_see_0 E (nI w) (nI r) (nI x) σ Q) := by
  have o2 := ok.2.1
  have hi : InR (nI w) 0 (A 0 2 - 1) := (InR_nI (by omega)).mpr (by omega)
  have hj : InR (nI r) 1 6 := (InR_nI (by omega)).mpr (by omega)
  have v6 : vp_in (nI (A 0 5)) 6 := vp_in_nI (by omega) (by omega)
  have ea : nI (A 0 5) + 1 = nI (A 0 5 + 1) := nI_add _ 1
  have em : (3 : Int32) * nI (A 0 5) = nI (3 * A 0 5) := pk_mul 3 _
  have e1 : nI (3 * A 0 5) + 1 = nI (3 * A 0 5 + 1) := nI_add _ 1
  have e2 : nI (3 * A 0 5) + 2 = nI (3 * A 0 5 + 2) := nI_add _ 2
  refine ⟨nI (A 0 5 + 1), fun E σ Q hC hQ => s_X9_see_0 _ _ _ _ _ _ (p_hasWrong ok hC.1 (fun _ => b1 (p_isRoom (fun _ => b1 ?_) (fun z => absurd hj z))) (fun z => absurd hi z)), fun E σ Q hM hQ => s_X10_see_0 _ _ _ _ _ _ (p_isWrong ok hM.1 (fun _ => b1 (p_inI (lo := 1) (hi := 6) (by decide) (by decide) (fun _ => b1 ?_) (fun z => absurd hj z))) (fun z => absurd hi z))⟩
  · have e5 : σ 14 5 = nI (A 0 5) := hC.1.1 5 (by decide)
    rw [e5]
    refine tlt (b := 6) (by omega) (by decide) (fun _ => s_X2_addSeen_0 _ _ _ _ _ _ ?_) (fun z => by omega)
    rw [e5]
    refine tle (a := 6) (by decide) (by omega) (fun z => by omega) (fun _ => ⟨v6, v6, v6, ?_⟩)
    have hb : nI x = 0 ∨ nI x = 1 := by
      rcases (show x = 0 ∨ x = 1 by omega) with e | e
      · exact Or.inl (congrArg nI e)
      · exact Or.inr (congrArg nI e)
    rw [nI_clamp (by omega), ea, nbb hb]
    refine hQ _ (fun k hk => ?_) (hC.chg (hc_sw hC.1) (fun k hk => ?_))
    · rw [up_ne (by omega), up_ne (by omega), up_ne (by omega), up_ne (by omega)]
    · rw [up_ne (by omega), up_ne (by omega), up_ne (by omega), up_ne (by omega)]
  · have e5 : σ 63 20 = nI (A 0 5) := hM.1.1.2.2.2.2.2
    rw [e5, em, e1, e2, ea, nI_clamp (by omega), nI_clamp (by omega), nI_clamp (by omega)]
    refine tne (b := 6) (by omega) (by decide) (fun _ => ⟨vp_in_nI (by omega) (by omega), vp_in_nI (by omega) (by omega), ?_⟩) (fun z => by omega)
    have q : Q (nI (A 0 5 + 1)) (up (up (up (up σ 73 (3 * A 0 5) (nI w)) 73 (3 * A 0 5 + 1) (nI r)) 73 (3 * A 0 5 + 2) (nI x)) 63 20 (nI (A 0 5 + 1))) := by
      refine hQ _ (fun k hk => ?_) (hM.chg (hm_sw hM.1) (fun j hj => ?_) (fun k hk => ?_))
      · rw [up_ne (by omega), up_ne (by omega), up_ne (by omega), up_ne (by omega)]
      · rw [up_63 (by omega), up_ne (by decide), up_ne (by decide), up_ne (by decide)]
      · rw [up_ne (by omega), up_ne (by omega), up_ne (by omega), up_ne (by omega)]
    rcases (show x = 0 ∨ x = 1 by omega) with e | e <;> rw [e] at q ⊢
    · exact ⟨fun _ => ⟨vp_in_nI (by omega) (by omega), q⟩, fun z => absurd rfl z⟩
    · exact ⟨fun z => absurd z (by decide), fun _ => ⟨vp_in_nI (by omega) (by omega), q⟩⟩
theorem q_see0 (ok : OK A) (x1 x2 x3 : Int32) (h : ¬ (InR x1 0 (A 0 2 - 1) ∧ InR x2 1 6 ∧ A 0 5 ≠ 6)) : QQ A pg L c v Ak im (fun E σ Q => r_X9_see_0 E x1 x2 x3 σ Q) (fun E σ Q => r_X10_see_0 E x1 x2 x3 σ Q) := by
  by_cases hi : InR x1 0 (A 0 2 - 1)
  · by_cases hj : InR x2 1 6
    · have e : A 0 5 = 6 := Decidable.byContradiction (fun z => h ⟨hi, hj, z⟩)
      refine ⟨-104, fun E σ Q hC hQ => s_X9_see_0 _ _ _ _ _ _ (p_hasWrong ok hC.1 (fun _ => b1 (p_isRoom (fun _ => b1 ?_) (fun z => absurd hj z))) (fun z => absurd hi z)), fun E σ Q hM hQ => s_X10_see_0 _ _ _ _ _ _ (p_isWrong ok hM.1 (fun _ => b1 (p_inI (lo := 1) (hi := 6) (by decide) (by decide) (fun _ => b1 ?_) (fun z => absurd hj z))) (fun z => absurd hi z))⟩
      · rw [show σ 14 5 = nI (A 0 5) from hC.1.1 5 (by decide), e]; exact ⟨fun z => absurd z (by decide), fun _ => hQ σ KC.rf⟩
      · rw [hM.1.1.2.2.2.2.2, e]; exact ⟨fun z => absurd rfl z, fun _ => hQ σ FM.rf⟩
    · exact ⟨-102, fun E σ Q hC hQ => s_X9_see_0 _ _ _ _ _ _ (p_hasWrong ok hC.1 (fun _ => b1 (p_isRoom (fun z => absurd z hj) (fun _ => b0 (hQ σ KC.rf)))) (fun z => absurd hi z)), fun E σ Q hM hQ => s_X10_see_0 _ _ _ _ _ _ (p_isWrong ok hM.1 (fun _ => b1 (p_inI (lo := 1) (hi := 6) (by decide) (by decide) (fun z => absurd z hj) (fun _ => b0 (hQ σ FM.rf)))) (fun z => absurd hi z))⟩
  · exact ⟨-101, fun E σ Q hC hQ => s_X9_see_0 _ _ _ _ _ _ (p_hasWrong ok hC.1 (fun z => absurd z hi) (fun _ => b0 (hQ σ KC.rf))), fun E σ Q hM hQ => s_X10_see_0 _ _ _ _ _ _ (p_isWrong ok hM.1 (fun z => absurd z hi) (fun _ => b0 (hQ σ FM.rf)))⟩
end M2
