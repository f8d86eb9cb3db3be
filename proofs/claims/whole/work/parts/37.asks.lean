/-! the calls that only ask, both sides -/
theorem i32c (x : Int32) : (∃ n, n < 2 ^ 31 ∧ x = nI n) ∨ x < 0 := by
  by_cases h : x < 0
  · exact Or.inr h
  · obtain ⟨n, hn, e⟩ := nI_of (x := x) h
    exact Or.inl ⟨n, hn, e⟩
theorem InR.ge {x y : Int32} {lo hi : Int} (h : InR x lo hi) (e : y.toInt = lo) : ¬ x < y := fun z => by
  rw [Int32.lt_iff_toInt_lt, e] at z; have := h.1; omega
theorem InR.top {x y : Int32} {lo hi : Int} (h : InR x lo hi) (e : y.toInt = hi) : x ≤ y := by
  rw [Int32.le_iff_toInt_le, e]; exact h.2
theorem InR.top' {x y : Int32} {lo hi : Int} (h : InR x lo hi) (e : y.toInt = hi) : ¬ y < x := fun z => by
  rw [Int32.lt_iff_toInt_lt, e] at z; have := h.2; omega
theorem InR.of {x y z : Int32} {lo hi : Int} (a : ¬ x < y) (b : x ≤ z) (hy : y.toInt = lo) (hz : z.toInt = hi) : InR x lo hi := by
  rw [Int32.lt_iff_toInt_lt, hy] at a; rw [Int32.le_iff_toInt_le, hz] at b; exact ⟨by omega, b⟩
theorem InR.of' {x y z : Int32} {lo hi : Int} (a : ¬ x < y) (b : ¬ z < x) (hy : y.toInt = lo) (hz : z.toInt = hi) : InR x lo hi := by
  rw [Int32.lt_iff_toInt_lt, hy] at a; rw [Int32.lt_iff_toInt_lt, hz] at b; exact ⟨by omega, by omega⟩
section QS
variable {A : Ab} {pg : Nat → Nat} {L c v : Nat} {Ak : Ab} {im : Nat}
theorem q_person (ok : OK A) (x1 x2 : Int32) : QQ A pg L c v Ak im (fun E σ Q => r_X9_person_0 E x1 x2 σ Q) (fun E σ Q => r_X10_person_0 E x1 x2 σ Q) := by
  by_cases h : InR x1 0 (A 0 1 - 1)
  · obtain ⟨p, hp, rfl⟩ := h.lt
    rcases i32c x2 with ⟨w, hw, rfl⟩ | hx
    · exact ⟨pv A p w, fun E σ Q hC hQ => c_person ok hC.1 hp hw (fun τ g => hQ τ (KC.fr g (by decide))), fun E σ Q hM hQ => s_X10_person_0 _ _ _ _ _ (p_isPerson ok hM.1 (fun _ => b1' (m_tellPerson ok hM.1 hp hw (fun τ g => hQ τ (FM.fr g (by decide))))) (fun z => absurd h z))⟩
    · refine ⟨-102, fun E σ Q hC hQ => s_X9_person_0 _ _ _ _ _ (p_hasPerson14 (hC.1.1 1 (by decide)) ok.1 (fun _ => b1 ?_) (fun z => absurd h z)), fun E σ Q hM hQ => s_X10_person_0 _ _ _ _ _ (p_isPerson ok hM.1 (fun _ => b1' (s_X10_tellPerson_0 _ _ _ _ _ ?_)) (fun z => absurd h z))⟩
      · exact ⟨fun q => absurd q (neg_ne hx 0 (by decide)), fun q => absurd q (neg_ne hx 1 (by decide)), fun q => absurd q (neg_ne hx 2 (by decide)), fun q => absurd q (neg_ne hx 3 (by decide)), fun q => absurd q (neg_ne hx 4 (by decide)), fun q => absurd q (neg_ne hx 5 (by decide)), fun _ _ _ _ _ _ => hQ σ KC.rf⟩
      · exact ⟨fun q => absurd q (neg_ne hx 0 (by decide)), fun q => absurd q (neg_ne hx 1 (by decide)), fun q => absurd q (neg_ne hx 2 (by decide)), fun q => absurd q (neg_ne hx 3 (by decide)), fun q => absurd q (neg_ne hx 4 (by decide)), fun q => absurd q (neg_ne hx 5 (by decide)), fun _ _ _ _ _ _ => hQ σ FM.rf⟩
  · exact ⟨-101, fun E σ Q hC hQ => s_X9_person_0 _ _ _ _ _ (p_hasPerson14 (hC.1.1 1 (by decide)) ok.1 (fun z => absurd z h) (fun _ => b0 (hQ σ KC.rf))), fun E σ Q hM hQ => s_X10_person_0 _ _ _ _ _ (p_isPerson ok hM.1 (fun z => absurd z h) (fun _ => b0' (hQ σ FM.rf)))⟩
theorem q_as (ok : OK A) (x1 x2 : Int32) : QQ A pg L c v Ak im (fun E σ Q => r_X9_as_0 E x1 x2 σ Q) (fun E σ Q => r_X10_as_0 E x1 x2 σ Q) := by
  by_cases h : InR x1 0 (A 0 1 - 1)
  · by_cases h2 : InR x2 0 4
    · obtain ⟨p, hp, rfl⟩ := h.lt
      have o1 := ok.1
      have v6 : vp_in (nI p) 6 := vp_in_nI (by omega) (by omega)
      have kl := (ok.2.2.2.2.2.2.1 p hp).1
      have C : ∀ r, (∀ E (σ : Mm) (Q : Int32 → Mm → Prop), Q r σ → r_X9_isA_0 E (nI (A 1 p)) x2 σ (fun r8 τ7 => ((r8 = 0 → Q (-1) τ7) ∧ (¬ r8 = 0 → Q (nI p) τ7)))) → ∀ E σ (Q : Int32 → Mm → Prop), CS σ A pg L c v Ak im → (∀ τ, KC σ τ → Q r τ) → r_X9_as_0 E (nI p) x2 σ Q := by
        intro r hr E σ Q hC hQ
        refine s_X9_as_0 _ _ _ _ _ (p_hasPerson14 (hC.1.1 1 (by decide)) ok.1 (fun _ => b1 (p_isKind (fun _ => b1 ⟨v6, ?_⟩) (fun z => absurd h2 z))) (fun z => absurd h z))
        rw [nI_clamp (by omega), show σ 15 p = nI (A 1 p) from (hC.1.2.1 p hp).1]
        exact hr E σ Q (hQ σ KC.rf)
      have M : ∀ r, (∀ (σ : Mm) (Q : Int32 → Mm → Prop), Q r σ → ((x2 = 0 → Q (nI p) σ) ∧ (¬ x2 = 0 → (vp_in (nI p) 6 ∧ ((x2 = (nI (A 1 p)) → Q (nI p) σ) ∧ (¬ x2 = (nI (A 1 p)) → ((¬ x2 = 1 → Q (-1) σ) ∧ (x2 = 1 → (vp_in (nI p) 6 ∧ ((¬ (nI (A 1 p)) = 4 → Q (-1) σ) ∧ ((nI (A 1 p)) = 4 → Q (nI p) σ))))))))))) → ∀ E σ (Q : Int32 → Mm → Prop), MS σ A pg L c v Ak im → (∀ τ, FM σ τ → Q r τ) → r_X10_as_0 E (nI p) x2 σ Q := by
        intro r hr E σ Q hM hQ
        refine s_X10_as_0 _ _ _ _ _ (p_isPerson ok hM.1 (fun _ => b1 (p_inI (lo := 0) (hi := 4) (by decide) (by decide) (fun _ => b1 ?_) (fun z => absurd h2 z))) (fun z => absurd h z))
        rw [nI_clamp (by omega), (hM.1.2.1 p hp).1]
        exact hr σ Q (hQ σ FM.rf)
      by_cases e0 : x2 = 0
      · refine ⟨nI p, C _ (fun E σ Q q => s_X9_isA_0 _ _ _ _ _ ⟨fun _ => b1' q, fun z => absurd e0 z⟩), M _ (fun σ Q q => ⟨fun _ => q, fun z => absurd e0 z⟩)⟩
      · by_cases e1 : x2 = nI (A 1 p)
        · exact ⟨nI p, C _ (fun E σ Q q => s_X9_isA_0 _ _ _ _ _ ⟨fun z => absurd z e0, fun _ => ⟨fun _ => b1' q, fun z => absurd e1 z⟩⟩), M _ (fun σ Q q => ⟨fun z => absurd z e0, fun _ => ⟨v6, fun _ => q, fun z => absurd e1 z⟩⟩)⟩
        · by_cases e2 : x2 = 1
          · by_cases e3 : nI (A 1 p) = 4
            · exact ⟨nI p, C _ (fun E σ Q q => s_X9_isA_0 _ _ _ _ _ ⟨fun z => absurd z e0, fun _ => ⟨fun z => absurd z e1, fun _ => ⟨fun z => absurd e2 z, fun _ => ⟨fun z => absurd e3 z, fun _ => b1' q⟩⟩⟩⟩), M _ (fun σ Q q => ⟨fun z => absurd z e0, fun _ => ⟨v6, fun z => absurd z e1, fun _ => ⟨fun z => absurd e2 z, fun _ => ⟨v6, fun z => absurd e3 z, fun _ => q⟩⟩⟩⟩)⟩
            · exact ⟨-1, C _ (fun E σ Q q => s_X9_isA_0 _ _ _ _ _ ⟨fun z => absurd z e0, fun _ => ⟨fun z => absurd z e1, fun _ => ⟨fun z => absurd e2 z, fun _ => ⟨fun _ => b0' q, fun z => absurd z e3⟩⟩⟩⟩), M _ (fun σ Q q => ⟨fun z => absurd z e0, fun _ => ⟨v6, fun z => absurd z e1, fun _ => ⟨fun z => absurd e2 z, fun _ => ⟨v6, fun _ => q, fun z => absurd z e3⟩⟩⟩⟩)⟩
          · exact ⟨-1, C _ (fun E σ Q q => s_X9_isA_0 _ _ _ _ _ ⟨fun z => absurd z e0, fun _ => ⟨fun z => absurd z e1, fun _ => ⟨fun _ => b0' q, fun z => absurd z e2⟩⟩⟩), M _ (fun σ Q q => ⟨fun z => absurd z e0, fun _ => ⟨v6, fun z => absurd z e1, fun _ => ⟨fun _ => q, fun z => absurd z e2⟩⟩⟩)⟩
    · exact ⟨-102, fun E σ Q hC hQ => s_X9_as_0 _ _ _ _ _ (p_hasPerson14 (hC.1.1 1 (by decide)) ok.1 (fun _ => b1 (p_isKind (fun z => absurd z h2) (fun _ => b0 (hQ σ KC.rf)))) (fun z => absurd h z)), fun E σ Q hM hQ => s_X10_as_0 _ _ _ _ _ (p_isPerson ok hM.1 (fun _ => b1 (p_inI (lo := 0) (hi := 4) (by decide) (by decide) (fun z => absurd z h2) (fun _ => b0 (hQ σ FM.rf)))) (fun z => absurd h z))⟩
  · exact ⟨-101, fun E σ Q hC hQ => s_X9_as_0 _ _ _ _ _ (p_hasPerson14 (hC.1.1 1 (by decide)) ok.1 (fun z => absurd z h) (fun _ => b0 (hQ σ KC.rf))), fun E σ Q hM hQ => s_X10_as_0 _ _ _ _ _ (p_isPerson ok hM.1 (fun z => absurd z h) (fun _ => b0 (hQ σ FM.rf)))⟩
theorem q_wrong (ok : OK A) (x1 x2 : Int32) : QQ A pg L c v Ak im (fun E σ Q => r_X9_wrong_0 E x1 x2 σ Q) (fun E σ Q => r_X10_wrong_0 E x1 x2 σ Q) := by
  by_cases h : InR x1 0 (A 0 2 - 1)
  · obtain ⟨p, hp, rfl⟩ := h.lt
    rcases i32c x2 with ⟨w, hw, rfl⟩ | hx
    · exact ⟨wv A p w, fun E σ Q hC hQ => c_wrong ok hC.1 hp hw hQ, fun E σ Q hM hQ => s_X10_wrong_0 _ _ _ _ _ (p_isWrong ok hM.1 (fun _ => b1' (m_tellWrong ok hM.1 hp hw (fun τ g => hQ τ (FM.fr g (by decide))))) (fun z => absurd h z))⟩
    · refine ⟨-102, fun E σ Q hC hQ => s_X9_wrong_0 _ _ _ _ _ (p_hasWrong ok hC.1 (fun _ => b1 ?_) (fun z => absurd h z)), fun E σ Q hM hQ => s_X10_wrong_0 _ _ _ _ _ (p_isWrong ok hM.1 (fun _ => b1' (s_X10_tellWrong_0 _ _ _ _ _ ?_)) (fun z => absurd h z))⟩
      · exact ⟨fun q => absurd q (neg_ne hx 0 (by decide)), fun q => absurd q (neg_ne hx 1 (by decide)), fun q => absurd q (neg_ne hx 2 (by decide)), fun q => absurd q (neg_ne hx 3 (by decide)), fun q => absurd q (neg_ne hx 4 (by decide)), fun q => absurd q (neg_ne hx 5 (by decide)), fun _ _ _ _ _ _ => hQ σ KC.rf⟩
      · exact ⟨fun q => absurd q (neg_ne hx 0 (by decide)), fun q => absurd q (neg_ne hx 1 (by decide)), fun q => absurd q (neg_ne hx 2 (by decide)), fun q => absurd q (neg_ne hx 3 (by decide)), fun q => absurd q (neg_ne hx 4 (by decide)), fun q => absurd q (neg_ne hx 5 (by decide)), fun _ _ _ _ _ _ => hQ σ FM.rf⟩
  · exact ⟨-101, fun E σ Q hC hQ => s_X9_wrong_0 _ _ _ _ _ (p_hasWrong ok hC.1 (fun z => absurd z h) (fun _ => b0 (hQ σ KC.rf))), fun E σ Q hM hQ => s_X10_wrong_0 _ _ _ _ _ (p_isWrong ok hM.1 (fun z => absurd z h) (fun _ => b0' (hQ σ FM.rf)))⟩
theorem q_to (ok : OK A) (x1 x2 : Int32) : QQ A pg L c v Ak im (fun E σ Q => r_X9_to_0 E x1 x2 σ Q) (fun E σ Q => r_X10_to_0 E x1 x2 σ Q) := by
  have hF := p256 ok ok.2.2.2.1
  by_cases h : InR x1 0 (A 0 1 - 1)
  · by_cases h2 : InR x2 0 (A 0 1 - 1)
    · by_cases e : x1 = x2
      · exact ⟨-101, fun E σ Q hC hQ => s_X9_to_0 _ _ _ _ _ (p_hasPerson14 (hC.1.1 1 (by decide)) ok.1 (fun _ => b1' (p_hasPerson14 (hC.1.1 1 (by decide)) ok.1 (fun _ => b1' ⟨fun z => absurd e z, fun _ => hQ σ KC.rf⟩) (fun z => absurd h2 z))) (fun z => absurd h z)), fun E σ Q hM hQ => s_X10_to_0 _ _ _ _ _ (p_isPerson ok hM.1 (fun _ => b1' (p_isPerson ok hM.1 (fun _ => b1' ⟨fun _ => hQ σ FM.rf, fun z => absurd e z⟩) (fun z => absurd h2 z))) (fun z => absurd h z))⟩
      · obtain ⟨p, hp, rfl⟩ := h.lt
        obtain ⟨g, hg, rfl⟩ := h2.lt
        refine ⟨nO (far (ld A (A 0 3)) (A 0 1) p g), fun E σ Q hC hQ => s_X9_to_0 _ _ _ _ _ (p_hasPerson14 (hC.1.1 1 (by decide)) ok.1 (fun _ => b1' (p_hasPerson14 (hC.1.1 1 (by decide)) ok.1 (fun _ => b1' ⟨fun _ => ?_, fun z => absurd z e⟩) (fun z => absurd h2 z))) (fun z => absurd h z)), fun E σ Q hM hQ => s_X10_to_0 _ _ _ _ _ (p_isPerson ok hM.1 (fun _ => b1' (p_isPerson ok hM.1 (fun _ => b1' ⟨fun z => absurd z e, fun _ => ?_⟩) (fun z => absurd h2 z))) (fun z => absurd h z))⟩
        · rw [show σ 14 3 = nI (A 0 3) from hC.1.1 3 (by decide)]
          exact p_gfill ok hC.1 (by omega) (fun τ g1 g2 => p_fewest ok g2 hp hg (hQ τ (KC.fr g1 (by decide))))
        · rw [hM.1.1.2.2.2.1]
          exact p_farBy ok hM.1 hp hg (by omega) (hQ σ FM.rf)
    · exact ⟨-101, fun E σ Q hC hQ => s_X9_to_0 _ _ _ _ _ (p_hasPerson14 (hC.1.1 1 (by decide)) ok.1 (fun _ => b1' (p_hasPerson14 (hC.1.1 1 (by decide)) ok.1 (fun z => absurd z h2) (fun _ => b0' (hQ σ KC.rf)))) (fun z => absurd h z)), fun E σ Q hM hQ => s_X10_to_0 _ _ _ _ _ (p_isPerson ok hM.1 (fun _ => b1' (p_isPerson ok hM.1 (fun z => absurd z h2) (fun _ => b0' (hQ σ FM.rf)))) (fun z => absurd h z))⟩
  · exact ⟨-101, fun E σ Q hC hQ => s_X9_to_0 _ _ _ _ _ (p_hasPerson14 (hC.1.1 1 (by decide)) ok.1 (fun z => absurd z h) (fun _ => b0' (hQ σ KC.rf))), fun E σ Q hM hQ => s_X10_to_0 _ _ _ _ _ (p_isPerson ok hM.1 (fun z => absurd z h) (fun _ => b0' (hQ σ FM.rf)))⟩
theorem q_ring (ok : OK A) : QQ A pg L c v Ak im (fun E σ Q => r_X9_ring_0 E σ Q) (fun E σ Q => r_X10_ring_0 E σ Q) := by
  have hF := p256 ok ok.2.2.2.1
  by_cases h : A 0 1 = 0
  · exact ⟨-103, fun E σ Q hC hQ => s_X9_ring_0 _ _ _ (p_isThere ok hC.1 (fun z => by omega) (fun _ => b0 (hQ σ KC.rf))), fun E σ Q hM hQ => s_X10_ring_0 _ _ _ (p_lacks ok hM.1 (fun z => by omega) (fun _ => b1' (hQ σ FM.rf)))⟩
  · refine ⟨nO (rg (ld A (A 0 3)) (A 0 1)), fun E σ Q hC hQ => s_X9_ring_0 _ _ _ (p_isThere ok hC.1 (fun _ => b1 ?_) (fun z => absurd z h)), fun E σ Q hM hQ => s_X10_ring_0 _ _ _ (p_lacks ok hM.1 (fun _ => b0' ?_) (fun z => absurd z h))⟩
    · rw [show σ 14 3 = nI (A 0 3) from hC.1.1 3 (by decide)]
      exact p_gfill ok hC.1 (by omega) (fun τ g1 g2 => p_shortestRing ok g2 (hQ τ (KC.fr g1 (by decide))))
    · rw [hM.1.1.2.2.2.1]
      exact p_ringBy ok hM.1 (by omega) (hQ σ FM.rf)
theorem q_peace (ok : OK A) (x1 : Int32) : QQ A pg L c v Ak im (fun E σ Q => r_X9_peace_0 E x1 σ Q) (fun E σ Q => r_X10_peace_0 E x1 σ Q) := by
  by_cases h : InR x1 0 1
  · by_cases h0 : A 0 1 = 0
    · exact ⟨-103, fun E σ Q hC hQ => s_X9_peace_0 _ _ _ _ ⟨fun z => absurd z (h.ge (by decide)), fun _ => ⟨fun _ => p_isThere ok hC.1 (fun z => by omega) (fun _ => b0 (hQ σ KC.rf)), fun z => absurd (h.top (by decide)) z⟩⟩, fun E σ Q hM hQ => s_X10_peace_0 _ _ _ _ (p_inI (lo := 0) (hi := 1) (by decide) (by decide) (fun _ => b1 (p_lacks ok hM.1 (fun z => by omega) (fun _ => b1' (hQ σ FM.rf)))) (fun z => absurd h z))⟩
    · obtain ⟨w, hw, rfl⟩ := InR.le (k := 1) h
      have pl := pb_lt ok

      refine ⟨if w = 0 then nI (po (pb A)) else nI (pb A), fun E σ Q hC hQ => s_X9_peace_0 _ _ _ _ ⟨fun z => absurd z (h.ge (by decide)), fun _ => ⟨fun _ => p_isThere ok hC.1 (fun _ => b1 ?_) (fun z => absurd z h0), fun z => absurd (h.top (by decide)) z⟩⟩, fun E σ Q hM hQ => s_X10_peace_0 _ _ _ _ (p_inI (lo := 0) (hi := 1) (by decide) (by decide) (fun _ => b1 (p_lacks ok hM.1 (fun _ => b0' (p_peaceOf ok hM.1 hw (hQ σ FM.rf))) (fun z => absurd z h0))) (fun z => absurd h z))⟩
      refine p_fewestToForgive ok hC.1 (fun τ g => ?_)
      have q := hQ τ (KC.fr g (by decide))
      rcases (show w = 0 ∨ w = 1 by omega) with e | e <;> rw [e] at q ⊢
      · exact ⟨fun z => absurd rfl z, fun _ => p_bc pl q⟩
      · exact ⟨fun _ => q, fun z => absurd z (by decide)⟩
  · exact ⟨-102, fun E σ Q hC hQ => s_X9_peace_0 _ _ _ _ ⟨fun _ => hQ σ KC.rf, fun a => ⟨fun b => absurd (InR.of a b (by decide) (by decide)) h, fun _ => hQ σ KC.rf⟩⟩, fun E σ Q hM hQ => s_X10_peace_0 _ _ _ _ (p_inI (lo := 0) (hi := 1) (by decide) (by decide) (fun z => absurd z h) (fun _ => b0 (hQ σ FM.rf)))⟩
theorem q_odds (ok : OK A) (x1 x2 x3 : Int32) : QQ A pg L c v Ak im (fun E σ Q => r_X9_odds_0 E x1 x2 x3 σ Q) (fun E σ Q => r_X10_odds_0 E x1 x2 x3 σ Q) := by
  by_cases h : InR x1 0 (A 0 1 - 1)
  · by_cases h2 : InR x2 0 10
    · by_cases h3 : InR x3 0 1
      · obtain ⟨p, hp, rfl⟩ := h.lt
        obtain ⟨t, ht, rfl⟩ := InR.le (k := 10) h2
        obtain ⟨w, hw, rfl⟩ := InR.le (k := 1) h3
        refine ⟨nI (oa A t p w), fun E σ Q hC hQ => s_X9_odds_0 _ _ _ _ _ _ (p_hasPerson14 (hC.1.1 1 (by decide)) ok.1 (fun _ => b1 ⟨fun z => absurd z (h2.ge (by decide)), fun _ => ⟨fun z => absurd z (h2.top' (by decide)), fun _ => ⟨fun z => absurd z (h3.ge (by decide)), fun _ => ⟨fun _ => ?_, fun z => absurd (h3.top (by decide)) z⟩⟩⟩⟩) (fun z => absurd h z)), fun E σ Q hM hQ => s_X10_odds_0 _ _ _ _ _ _ (p_isPerson ok hM.1 (fun _ => b1 (p_inI (lo := 0) (hi := 10) (by decide) (by decide) (fun _ => b1' (p_inI (lo := 0) (hi := 1) (by decide) (by decide) (fun _ => b1' (p_oddsOf ok hM.1 ht hp hw (fun τ g => hQ τ (FM.fr g (by decide))))) (fun z => absurd h3 z))) (fun z => absurd h2 z))) (fun z => absurd h z))⟩
        refine p_cfill ok hC.1 ht (fun τ g1 g2 => ?_)
        have q := hQ τ (KC.fr g1 (by decide))
        rcases (show w = 0 ∨ w = 1 by omega) with e | e <;> rw [e] at q ⊢
        · exact ⟨fun z => absurd rfl z, fun _ => p_above ok ht g2 hp q⟩
        · exact ⟨fun _ => p_below ok ht g2 hp q, fun z => absurd z (by decide)⟩
      · exact ⟨-102, fun E σ Q hC hQ => s_X9_odds_0 _ _ _ _ _ _ (p_hasPerson14 (hC.1.1 1 (by decide)) ok.1 (fun _ => b1 ⟨fun _ => hQ σ KC.rf, fun _ => ⟨fun _ => hQ σ KC.rf, fun _ => ⟨fun _ => hQ σ KC.rf, fun a => ⟨fun b => absurd (InR.of a b (by decide) (by decide)) h3, fun _ => hQ σ KC.rf⟩⟩⟩⟩) (fun z => absurd h z)), fun E σ Q hM hQ => s_X10_odds_0 _ _ _ _ _ _ (p_isPerson ok hM.1 (fun _ => b1 (p_inI (lo := 0) (hi := 10) (by decide) (by decide) (fun _ => b1' (p_inI (lo := 0) (hi := 1) (by decide) (by decide) (fun z => absurd z h3) (fun _ => b0' (hQ σ FM.rf)))) (fun _ => b0' (hQ σ FM.rf)))) (fun z => absurd h z))⟩
    · exact ⟨-102, fun E σ Q hC hQ => s_X9_odds_0 _ _ _ _ _ _ (p_hasPerson14 (hC.1.1 1 (by decide)) ok.1 (fun _ => b1 ⟨fun _ => hQ σ KC.rf, fun a => ⟨fun _ => hQ σ KC.rf, fun b => absurd (InR.of' a b (by decide) (by decide)) h2⟩⟩) (fun z => absurd h z)), fun E σ Q hM hQ => s_X10_odds_0 _ _ _ _ _ _ (p_isPerson ok hM.1 (fun _ => b1 (p_inI (lo := 0) (hi := 10) (by decide) (by decide) (fun z => absurd z h2) (fun _ => b0' (hQ σ FM.rf)))) (fun z => absurd h z))⟩
  · exact ⟨-101, fun E σ Q hC hQ => s_X9_odds_0 _ _ _ _ _ _ (p_hasPerson14 (hC.1.1 1 (by decide)) ok.1 (fun z => absurd z h) (fun _ => b0 (hQ σ KC.rf))), fun E σ Q hM hQ => s_X10_odds_0 _ _ _ _ _ _ (p_isPerson ok hM.1 (fun z => absurd z h) (fun _ => b0 (hQ σ FM.rf)))⟩
theorem q_count (ok : OK A) (x1 : Int32) : QQ A pg L c v Ak im (fun E σ Q => r_X9_count_0 E x1 σ Q) (fun E σ Q => r_X10_count_0 E x1 σ Q) := by
  rcases i32c x1 with ⟨w, hw, rfl⟩ | hx
  · exact ⟨cv A L c v w, fun E σ Q hC hQ => c_count ok hC hw hQ, fun E σ Q hM hQ => s_X10_count_0 _ _ _ _ (m_countOf ok hM hw (fun τ g => hQ τ (FM.fr g (by decide))))⟩
  · refine ⟨-102, fun E σ Q hC hQ => s_X9_count_0 _ _ _ _ ?_, fun E σ Q hM hQ => s_X10_count_0 _ _ _ _ (s_X10_countOf_0 _ _ _ _ ?_)⟩
    · exact ⟨fun q => absurd q (neg_ne hx 0 (by decide)), fun q => absurd q (neg_ne hx 1 (by decide)), fun q => absurd q (neg_ne hx 2 (by decide)), fun q => absurd q (neg_ne hx 3 (by decide)), fun q => absurd q (neg_ne hx 4 (by decide)), fun q => absurd q (neg_ne hx 5 (by decide)), fun q => absurd q (neg_ne hx 6 (by decide)), fun q => absurd q (neg_ne hx 7 (by decide)), fun q => absurd q (neg_ne hx 8 (by decide)), fun q => absurd q (neg_ne hx 9 (by decide)), fun q => absurd q (neg_ne hx 10 (by decide)), fun q => absurd q (neg_ne hx 11 (by decide)), fun q => absurd q (neg_ne hx 12 (by decide)), fun _ _ _ _ _ _ _ _ _ _ _ _ _ => hQ σ KC.rf⟩
    · exact ⟨fun q => absurd q (neg_ne hx 0 (by decide)), fun q => absurd q (neg_ne hx 1 (by decide)), fun q => absurd q (neg_ne hx 2 (by decide)), fun q => absurd q (neg_ne hx 3 (by decide)), fun q => absurd q (neg_ne hx 4 (by decide)), fun q => absurd q (neg_ne hx 5 (by decide)), fun q => absurd q (neg_ne hx 6 (by decide)), fun q => absurd q (neg_ne hx 7 (by decide)), fun q => absurd q (neg_ne hx 8 (by decide)), fun q => absurd q (neg_ne hx 9 (by decide)), fun q => absurd q (neg_ne hx 10 (by decide)), fun q => absurd q (neg_ne hx 11 (by decide)), fun q => absurd q (neg_ne hx 12 (by decide)), fun _ _ _ _ _ _ _ _ _ _ _ _ _ => hQ σ FM.rf⟩
theorem q_winters (ok : OK A) (h4 : A 0 4 ≤ 999) (hW : 0 < A 0 1 → 2 ≤ A 0 1 ∧ 1 ≤ A 0 2) (x1 x2 x3 : Int32) : QQ A pg L c v Ak im (fun E σ Q => r_X9_winters_0 E x1 x2 x3 σ Q) (fun E σ Q => r_X10_winters_0 E x1 x2 x3 σ Q) := by
  by_cases h : InR x1 1 60
  · by_cases h2 : x2 < 0
    · exact ⟨-102, fun E σ Q hC hQ => s_X9_winters_0 _ _ _ _ _ _ ⟨fun _ => hQ σ KC.rf, fun _ => ⟨fun _ => hQ σ KC.rf, fun _ => ⟨fun _ => hQ σ KC.rf, fun z => absurd h2 z⟩⟩⟩, fun E σ Q hM hQ => s_X10_winters_0 _ _ _ _ _ _ (p_inI (lo := 1) (hi := 60) (by decide) (by decide) (fun _ => b1' ⟨fun _ => hQ σ FM.rf, fun z => absurd h2 z⟩) (fun z => absurd h z))⟩
    · by_cases h3 : InR x3 0 2
      · by_cases h0 : A 0 1 = 0
        · exact ⟨-103, fun E σ Q hC hQ => s_X9_winters_0 _ _ _ _ _ _ ⟨fun z => absurd z (h.ge (by decide)), fun _ => ⟨fun z => absurd z (h.top' (by decide)), fun _ => ⟨fun z => absurd z h2, fun _ => ⟨fun z => absurd z (h3.ge (by decide)), fun _ => ⟨fun _ => p_isThere ok hC.1 (fun z => by omega) (fun _ => b0 (hQ σ KC.rf)), fun z => absurd (h3.top (by decide)) z⟩⟩⟩⟩⟩, fun E σ Q hM hQ => s_X10_winters_0 _ _ _ _ _ _ (p_inI (lo := 1) (hi := 60) (by decide) (by decide) (fun _ => b1' ⟨fun z => absurd z h2, fun _ => p_inI (lo := 0) (hi := 2) (by decide) (by decide) (fun _ => b1 (p_lacks ok hM.1 (fun z => by omega) (fun _ => b1' (hQ σ FM.rf)))) (fun z => absurd h3 z)⟩) (fun z => absurd h z))⟩
        · obtain ⟨N, e1, hN1, hN2, hN3⟩ := h.nat (by decide)
          obtain ⟨s, hs, e2⟩ := nI_of (x := x2) h2
          obtain ⟨w, hw, e3⟩ := InR.le (k := 2) h3
          have hw2 := (hW (by omega)).2
          refine ⟨nI (wa A N s w), fun E σ Q hC hQ => s_X9_winters_0 _ _ _ _ _ _ ⟨fun z => absurd z (h.ge (by decide)), fun _ => ⟨fun z => absurd z (h.top' (by decide)), fun _ => ⟨fun z => absurd z h2, fun _ => ⟨fun z => absurd z (h3.ge (by decide)), fun _ => ⟨fun _ => p_isThere ok hC.1 (fun _ => b1 ?_) (fun z => absurd z h0), fun z => absurd (h3.top (by decide)) z⟩⟩⟩⟩⟩, fun E σ Q hM hQ => s_X10_winters_0 _ _ _ _ _ _ (p_inI (lo := 1) (hi := 60) (by decide) (by decide) (fun _ => b1' ⟨fun z => absurd z h2, fun _ => p_inI (lo := 0) (hi := 2) (by decide) (by decide) (fun _ => b1 (p_lacks ok hM.1 (fun _ => b0' ?_) (fun z => absurd z h0))) (fun z => absurd h3 z)⟩) (fun z => absurd h z))⟩
          · rw [e1, e2]
            refine p_copyFrom_34_14 ok hC.1 (fun τ f1 f2 => p_pass ok h4 (by omega) f2 (by omega) hs (fun ρ k1 k2 k3 k4 => ?_))
            have hk : KC σ ρ := (KC.fr f1 (by decide)).tr (KC.fr k1 (by decide))
            have q := hQ ρ hk
            obtain ⟨w1, w2, w3, w4, w5⟩ := wB_facts A s N
            rw [k3, k4]
            rcases (show w = 0 ∨ w = 1 ∨ w = 2 by omega) with e | e | e <;> rw [e] at q e3 <;> rw [e3]
            · exact ⟨fun z => absurd rfl z, fun _ => q⟩
            · refine ⟨fun _ => ⟨fun z => absurd rfl z, fun _ => p_allWarm34 (wB_OK ok (by omega) s N (by omega)) k2 ?_⟩, fun z => absurd z (by decide)⟩
              rw [w3 1 (by decide) (by decide), show (fun p => wB A s N 2 p) = (fun p => wW A s N p) from funext w4]
              exact q
            · exact ⟨fun _ => ⟨fun _ => q, fun z => absurd z (by decide)⟩, fun z => absurd z (by decide)⟩
          · rw [e1, e2, e3]
            have f0 : FM σ (up σ 63 22 (nI s)) := FM.up (by decide)
            refine p_copy_66_72 (fun τ f1 f2 => ?_)
            have hM1 : HM τ A := (hM.1.fm f0).fm (FM.fr f1 (by decide))
            rw [hM1.1.2.2.2.1]
            refine p_winters69 ok hM1 (by omega) (by omega) hs hw ?_ ?_ (fun ρ g => hQ ρ (f0.tr ((FM.fr f1 (by decide)).tr g)))
            · rw [f1 63 (by decide), up_eq]; exact upd_eq
            · intro p hp
              rw [f2 p (by have := ok.1; omega)]
              exact ((hM.1.fm f0).2.1 p hp).2.1
      · exact ⟨-102, fun E σ Q hC hQ => s_X9_winters_0 _ _ _ _ _ _ ⟨fun _ => hQ σ KC.rf, fun _ => ⟨fun _ => hQ σ KC.rf, fun _ => ⟨fun _ => hQ σ KC.rf, fun _ => ⟨fun _ => hQ σ KC.rf, fun a => ⟨fun b => absurd (InR.of a b (by decide) (by decide)) h3, fun _ => hQ σ KC.rf⟩⟩⟩⟩⟩, fun E σ Q hM hQ => s_X10_winters_0 _ _ _ _ _ _ (p_inI (lo := 1) (hi := 60) (by decide) (by decide) (fun _ => b1' ⟨fun z => absurd z h2, fun _ => p_inI (lo := 0) (hi := 2) (by decide) (by decide) (fun z => absurd z h3) (fun _ => b0 (hQ σ FM.rf))⟩) (fun z => absurd h z))⟩
  · exact ⟨-102, fun E σ Q hC hQ => s_X9_winters_0 _ _ _ _ _ _ ⟨fun _ => hQ σ KC.rf, fun a => ⟨fun _ => hQ σ KC.rf, fun b => absurd (InR.of' a b (by decide) (by decide)) h⟩⟩, fun E σ Q hM hQ => s_X10_winters_0 _ _ _ _ _ _ (p_inI (lo := 1) (hi := 60) (by decide) (by decide) (fun z => absurd z h) (fun _ => b0' (hQ σ FM.rf)))⟩
end QS
section OP
variable {E : EE} {σ : Mm} {n : Nat} {K : Int32 → Int32 → Mm → Prop}
theorem op_person (x1 x2 : Int32) (hI : Iv σ n) (hn : n < 100000) (hK : ∀ r τ, Iv τ (n + 1) → K r r τ) : r_X9_person_0 E x1 x2 σ (fun r τ => r_X10_person_0 E x1 x2 τ (fun r' τ' => K r r' τ')) := by
  obtain ⟨A, pg, L, c, v, Ak, im, hS, hC, hM⟩ := hI
  exact (q_person hS.1 x1 x2).op hn hS hC hM hK
theorem op_as (x1 x2 : Int32) (hI : Iv σ n) (hn : n < 100000) (hK : ∀ r τ, Iv τ (n + 1) → K r r τ) : r_X9_as_0 E x1 x2 σ (fun r τ => r_X10_as_0 E x1 x2 τ (fun r' τ' => K r r' τ')) := by
  obtain ⟨A, pg, L, c, v, Ak, im, hS, hC, hM⟩ := hI
  exact (q_as hS.1 x1 x2).op hn hS hC hM hK
theorem op_wrong (x1 x2 : Int32) (hI : Iv σ n) (hn : n < 100000) (hK : ∀ r τ, Iv τ (n + 1) → K r r τ) : r_X9_wrong_0 E x1 x2 σ (fun r τ => r_X10_wrong_0 E x1 x2 τ (fun r' τ' => K r r' τ')) := by
  obtain ⟨A, pg, L, c, v, Ak, im, hS, hC, hM⟩ := hI
  exact (q_wrong hS.1 x1 x2).op hn hS hC hM hK
theorem op_to (x1 x2 : Int32) (hI : Iv σ n) (hn : n < 100000) (hK : ∀ r τ, Iv τ (n + 1) → K r r τ) : r_X9_to_0 E x1 x2 σ (fun r τ => r_X10_to_0 E x1 x2 τ (fun r' τ' => K r r' τ')) := by
  obtain ⟨A, pg, L, c, v, Ak, im, hS, hC, hM⟩ := hI
  exact (q_to hS.1 x1 x2).op hn hS hC hM hK
theorem op_ring (hI : Iv σ n) (hn : n < 100000) (hK : ∀ r τ, Iv τ (n + 1) → K r r τ) : r_X9_ring_0 E σ (fun r τ => r_X10_ring_0 E τ (fun r' τ' => K r r' τ')) := by
  obtain ⟨A, pg, L, c, v, Ak, im, hS, hC, hM⟩ := hI
  exact (q_ring hS.1).op hn hS hC hM hK
theorem op_peace (x1 : Int32) (hI : Iv σ n) (hn : n < 100000) (hK : ∀ r τ, Iv τ (n + 1) → K r r τ) : r_X9_peace_0 E x1 σ (fun r τ => r_X10_peace_0 E x1 τ (fun r' τ' => K r r' τ')) := by
  obtain ⟨A, pg, L, c, v, Ak, im, hS, hC, hM⟩ := hI
  exact (q_peace hS.1 x1).op hn hS hC hM hK
theorem op_odds (x1 x2 x3 : Int32) (hI : Iv σ n) (hn : n < 100000) (hK : ∀ r τ, Iv τ (n + 1) → K r r τ) : r_X9_odds_0 E x1 x2 x3 σ (fun r τ => r_X10_odds_0 E x1 x2 x3 τ (fun r' τ' => K r r' τ')) := by
  obtain ⟨A, pg, L, c, v, Ak, im, hS, hC, hM⟩ := hI
  exact (q_odds hS.1 x1 x2 x3).op hn hS hC hM hK
theorem op_winters (x1 x2 x3 : Int32) (hI : Iv σ n) (hn : n < 100000) (hK : ∀ r τ, Iv τ (n + 1) → K r r τ) : r_X9_winters_0 E x1 x2 x3 σ (fun r τ => r_X10_winters_0 E x1 x2 x3 τ (fun r' τ' => K r r' τ')) := by
  obtain ⟨A, pg, L, c, v, Ak, im, hS, hC, hM⟩ := hI
  exact (q_winters hS.1 hS.2.1 hS.2.2.1 x1 x2 x3).op hn hS hC hM hK
theorem op_count (x1 : Int32) (hI : Iv σ n) (hn : n < 100000) (hK : ∀ r τ, Iv τ (n + 1) → K r r τ) : r_X9_count_0 E x1 σ (fun r τ => r_X10_count_0 E x1 τ (fun r' τ' => K r r' τ')) := by
  obtain ⟨A, pg, L, c, v, Ak, im, hS, hC, hM⟩ := hI
  exact (q_count hS.1 x1).op hn hS hC hM hK
theorem op_fault (hI : Iv σ n) (hn : n < 100000) (hK : ∀ r τ, Iv τ (n + 1) → K r r τ) : r_X9_fault_0 E σ (fun r τ => r_X10_fault_0 E τ (fun r' τ' => K r r' τ')) := by
  obtain ⟨A, pg, L, c, v, Ak, im, hS, hC, hM⟩ := hI
  refine s_X9_fault_0 _ _ _ (p_firstFault hS.2.2.2.1 hC.2.1 (fun m τ h1 h2 _ => ?_))
  have k : KC σ τ := KC.fr h2 (by decide)
  refine s_X10_fault_0 _ _ _ (p_faultOf hS.2.2.2.1 (hM.kc k).2.1 (fun m' τ' h1' f _ => ?_))
  rw [Ft.uniq h1' h1]
  exact hK _ _ ⟨A, pg, L, c, v, Ak, im, hS.up hn, (hC.kc k).fm f, (hM.kc k).fm f⟩
end OP
