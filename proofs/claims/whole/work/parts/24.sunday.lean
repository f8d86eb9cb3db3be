/-! guilt, seats and Sundays: the reference's side; Sundays: the class's side -/
def nw (w s : Nat) : Nat := if s = 1 then (if w + 2 < 20 then w + 2 else 20) else w - 1
def fz (w s : Nat) : Nat := if nw w s = 0 then 1 else 0
theorem nw_le {w s : Nat} (h : w ≤ 20) : nw w s ≤ 20 := by
  unfold nw
  (repeat' split) <;> omega
theorem fz_le (w s : Nat) : fz w s ≤ 1 := by unfold fz; split <;> omega
def sun (A : Ab) (S : Nat) : Ab := fun r j => if r = 0 ∧ j = 4 then A 0 4 + 1 else if r = 2 then nw (A 2 j) (bt S j) else if r = 3 then A 3 j + fz (A 2 j) (bt S j) else A r j
theorem sun_OK {A : Ab} {S : Nat} (ok : OK A) (h : A 0 4 < 2000) : OK (sun A S) := by
  obtain ⟨h1, h2, h3, h4, h5, h6, h7, h8, h9⟩ := ok
  refine ⟨h1, h2, h3, h4, h, h6, fun p hp => ?_, h8, h9⟩
  obtain ⟨a, b, c⟩ := h7 p hp
  refine ⟨a, nw_le b, ?_⟩
  show A 3 p + fz (A 2 p) (bt S p) ≤ A 0 4 + 1
  have := fz_le (A 2 p) (bt S p)
  omega
section SU
variable {E : EE} {σ : Mm} {A : Ab}
theorem p_guiltBy {F p : Nat} {Q : Int32 → Mm → Prop} (ok : OK A) (hM : HM σ A) (hp : p < A 0 1) (hF : F < 2 ^ 31) (hQ : Q (nI (gu A F p)) σ) : r_X10_guiltBy_0 E (nI p) (nI F) σ Q := by
  have o1 := ok.1
  have o2 := ok.2.1
  have key : ∀ i, i ≤ A 0 2 → r_X10_guiltBy_8 E (nI p) (nI F) (nI (sgW A F p i)) (nI (scW A F p i)) (nI i) σ Q := by
    refine up_to (A 0 2) ?_ ?_
    · have a2 := sgW_le ok F p (Nat.le_refl _)
      have a3 := scW_le ok F p (Nat.le_refl _)
      have a1 := (ok.2.2.2.2.2.2.1 p hp).1
      refine s_X10_guiltBy_8 _ _ _ _ _ _ _ _ (fe hM.1.2.2.1 (Nat.le_refl _) (by omega) ⟨vp_in_nI (by omega) (by omega), ?_⟩)
      rw [nI_clamp (by omega), (hM.2.1 p hp).1]
      unfold gu gk at hQ
      have e : ∀ n : Nat, n < 100 → (nI (A 1 p) = nI n ↔ A 1 p = n) := fun n hn => nI_eq (by omega) (by omega)
      refine ⟨fun q => ?_, fun q => ?_, fun q => ?_, fun q => ?_, fun q1 q2 q3 q4 => ?_⟩
      · rw [if_pos ((e 1 (by omega)).mp q)] at hQ
        rw [show (2 : Int32) = nI 2 from rfl, pk_div (by omega) (by omega) (by omega)]
        exact hQ
      · have := (e 2 (by omega)).mp q
        rw [if_neg (by omega), if_pos this] at hQ
        rw [nI_add]
        exact hQ
      · have := (e 3 (by omega)).mp q
        rw [if_neg (by omega), if_neg (by omega), if_pos this] at hQ
        refine tle (b := 1) (by omega) (by omega) (fun c => ?_) (fun c => ?_)
        · rw [if_neg (by omega)] at hQ; exact hQ
        · rw [if_pos c] at hQ; exact hQ
      · have := (e 4 (by omega)).mp q
        rw [if_neg (by omega), if_neg (by omega), if_neg (by omega), if_pos this] at hQ
        exact hQ
      · have n1 : A 1 p ≠ 1 := fun z => q1 (by rw [z]; rfl)
        have n2 : A 1 p ≠ 2 := fun z => q2 (by rw [z]; rfl)
        have n3 : A 1 p ≠ 3 := fun z => q3 (by rw [z]; rfl)
        have n4 : A 1 p ≠ 4 := fun z => q4 (by rw [z]; rfl)
        rw [if_neg n1, if_neg n2, if_neg n3, if_neg n4] at hQ
        exact hQ
    · intro i hi ih
      obtain ⟨w1, -, w3, w4⟩ := ok.2.2.2.2.2.2.2.1 i hi
      have hb := bt_le F i
      refine s_X10_guiltBy_8 _ _ _ _ _ _ _ _ (fs hM.1.2.2.1 hi (by omega) ⟨vp_in_nI (by omega) (by omega), ?_⟩)
      rw [nI_clamp (by omega), (hM.2.2.1 i hi).1, (hM.2.2.1 i hi).2.2, bitI hF (by omega), nI_1]
      have s1 : sgW A F p (i + 1) = sgW A F p i + if A 4 i = p ∧ bt F i = 0 then A 6 i else 0 := rfl
      have s2 : scW A F p (i + 1) = scW A F p i + if A 4 i = p ∧ bt F i = 1 then 1 else 0 := rfl
      rw [s1, s2] at ih
      rw [show (0 : Int32) = nI 0 from rfl, show (1 : Int32) = nI 1 from rfl]
      simp only [nI_add]
      refine tne (by omega) (by omega) (fun c => ?_) (fun c => tne (by omega) (by omega) (fun c2 => ⟨vp_in_nI (by omega) (by omega), ?_⟩) (fun c2 => ?_))
      · rw [if_neg (fun z => c z.1), if_neg (fun z => c z.1)] at ih
        exact ⟨fun _ => ih, fun _ => ih⟩
      · rw [if_pos (show A 4 i = p ∧ bt F i = 0 by omega), if_neg (by omega)] at ih
        exact ih
      · rw [if_neg (by omega), if_pos ⟨c, c2⟩] at ih
        exact ih
  exact s_X10_guiltBy_0 _ _ _ _ _ (key 0 (Nat.zero_le _))
theorem p_sitsBy {F r : Nat} {Q : Int32 → Mm → Prop} (ok : OK A) (hM : HM σ A) (hr : r ≤ 6) (hF : F < 2 ^ 31) (hQ : ∀ τ, Fr [71] σ τ → Q (nI (sB A F r)) τ) : r_X10_sitsBy_0 E (nI F) (nI r) σ Q := by
  have o1 := ok.1
  have hL : ∀ k ∈ [71], k < 63 ∨ k = 64 ∨ k = 71 ∨ k = 72 ∨ 73 < k := by decide
  have l2 : ∀ τ, Fr [71] σ τ → (∀ p, p < A 0 1 → τ 71 p = nI (gu A F p)) → ∀ i, i ≤ A 0 1 → r_X10_sitsBy_33 E (nI F) (nI r) (nI (bs (st A F r) i)) (nI i) τ Q := by
    intro τ hf h1
    have hM' := hM.fr hf hL
    refine up_to (A 0 1) ?_ ?_
    · exact s_X10_sitsBy_33 _ _ _ _ _ _ _ (fe hM'.1.2.1 (Nat.le_refl _) (by omega) (hQ τ hf))
    · intro i hi ih
      refine s_X10_sitsBy_33 _ _ _ _ _ _ _ (fs hM'.1.2.1 hi (by omega) ?_)
      have gi := gu_le ok F i
      have l3 : ∀ q, q ≤ A 0 1 → r_X10_sitsBy_48 E (nI F) (nI r) (nI (bs (st A F r) i)) (nI i) (nI (ahW A F i q)) (nI q) τ Q := by
        refine up_to (A 0 1) ?_ ?_
        · have hah : ahW A F i (A 0 1) = ah A F i := rfl
          have hle := ahW_le (A := A) F i (A 0 1)
          refine s_X10_sitsBy_48 _ _ _ _ _ _ _ _ _ (fe hM'.1.2.1 (Nat.le_refl _) (by omega) ⟨vp_in_nI (by omega) (by omega), ?_⟩)
          rw [nI_clamp (by omega), h1 i hi, or0, nI_1]
          refine tle (b := 0) (by omega) (by omega) (fun c => ?_) (fun c => tle (by omega) (by omega) (fun c2 => ?_) (fun c2 => ?_))
          · rw [orNo (d := st A F r) (by unfold st; rw [if_neg (by omega)])]; exact ih
          · rw [orNo (d := st A F r) (by unfold st; rw [if_neg (by omega)])]; exact ih
          · rw [orBit (by omega) (fun i _ => st_le A F r i) (by unfold st; rw [if_pos ⟨by omega, by omega⟩])]; exact ih
        · intro q hq ihq
          have gq := gu_le ok F q
          refine s_X10_sitsBy_48 _ _ _ _ _ _ _ _ _ (fs hM'.1.2.1 hq (by omega) ⟨vp_in_nI (by omega) (by omega), vp_in_nI (by omega) (by omega), ?_⟩)
          rw [nI_clamp (by omega), nI_clamp (by omega), h1 i hi, h1 q hq]
          have e : ahW A F i (q + 1) = ahW A F i q + if gu A F i < gu A F q ∨ (gu A F q = gu A F i ∧ q < i) then 1 else 0 := rfl
          rw [e] at ihq
          rw [show (0 : Int32) = nI 0 from rfl, show (1 : Int32) = nI 1 from rfl]
          simp only [nI_add]
          refine tlt (by omega) (by omega) (fun c => ?_) (fun c => ⟨vp_in_nI (by omega) (by omega), vp_in_nI (by omega) (by omega), tne (by omega) (by omega) (fun c2 => ?_) (fun c2 => tle (by omega) (by omega) (fun c3 => ?_) (fun c3 => ?_))⟩)
          · rw [if_pos (Or.inl c)] at ihq; exact ihq
          · rw [if_neg (by omega)] at ihq; exact ihq
          · rw [if_neg (by omega)] at ihq; exact ihq
          · rw [if_pos (Or.inr ⟨c2, c3⟩)] at ihq; exact ihq
      exact l3 0 (Nat.zero_le _)
  have l1 : ∀ i, i ≤ A 0 1 → ∀ τ, Fr [71] σ τ → (∀ p, p < i → τ 71 p = nI (gu A F p)) → r_X10_sitsBy_2 E (nI F) (nI r) (nI i) τ Q := by
    refine up_to (P := fun i => ∀ τ, Fr [71] σ τ → (∀ p, p < i → τ 71 p = nI (gu A F p)) → r_X10_sitsBy_2 E (nI F) (nI r) (nI i) τ Q) (A 0 1) ?_ ?_
    · intro τ hf h1
      exact s_X10_sitsBy_2 _ _ _ _ _ _ (fe (hM.fr hf hL).1.2.1 (Nat.le_refl _) (by omega) (l2 τ hf h1 0 (Nat.zero_le _)))
    · intro i hi ih τ hf h1
      refine s_X10_sitsBy_2 _ _ _ _ _ _ (fs (hM.fr hf hL).1.2.1 hi (by omega) (p_guiltBy ok (hM.fr hf hL) hi hF ⟨vp_in_nI (by omega) (by omega), ?_⟩))
      rw [nI_clamp (by omega), nI_1]
      refine ih _ (hf.tr (Fr.up (by decide))) (fun p hp => ?_)
      rw [up_eq]
      by_cases e : p = i
      · subst e; rw [upd_eq]
      · rw [upd_ne e]; exact h1 p (by omega)
  exact s_X10_sitsBy_0 _ _ _ _ _ (l1 0 (Nat.zero_le _) σ Fr.rf (fun p hp => by omega))
/-- the second row of warmths goes on by a Sunday -/
theorem p_sundayThen {S : Nat} {u : Nat → Nat} {Q : Int32 → Mm → Prop} (ok : OK A) (hM : HM σ A) (hS : S < 2 ^ 31) (hu : ∀ p, p < A 0 1 → σ 72 p = nI (u p) ∧ u p ≤ 20)
    (hQ : ∀ τ, Fr [72] σ τ → (∀ p, p < A 0 1 → τ 72 p = nI (nw (u p) (bt S p))) → Q (nI (bs (fun p => fz (u p) (bt S p)) (A 0 1))) τ) : r_X10_sundayThen_0 E (nI S) σ Q := by
  have o1 := ok.1
  have hL : ∀ k ∈ [72], k < 63 ∨ k = 64 ∨ k = 71 ∨ k = 72 ∨ 73 < k := by decide
  have l1 : ∀ i, i ≤ A 0 1 → ∀ τ, Fr [72] σ τ → (∀ p, p < i → τ 72 p = nI (nw (u p) (bt S p))) → (∀ p, i ≤ p → p < A 0 1 → τ 72 p = nI (u p)) → r_X10_sundayThen_4 E (nI S) (nI (bs (fun p => fz (u p) (bt S p)) i)) (nI i) τ Q := by
    refine up_to (P := fun i => ∀ τ, Fr [72] σ τ → (∀ p, p < i → τ 72 p = nI (nw (u p) (bt S p))) → (∀ p, i ≤ p → p < A 0 1 → τ 72 p = nI (u p)) → r_X10_sundayThen_4 E (nI S) (nI (bs (fun p => fz (u p) (bt S p)) i)) (nI i) τ Q) (A 0 1) ?_ ?_
    · intro τ hf h1 h2
      exact s_X10_sundayThen_4 _ _ _ _ _ _ (fe (hM.fr hf hL).1.2.1 (Nat.le_refl _) (by omega) (hQ τ hf h1))
    · intro i hi ih τ hf h1 h2
      have hb := bt_le S i
      have hui := (hu i hi).2
      have v6 : vp_in (nI i) 6 := vp_in_nI (by omega) (by omega)
      have go : ∀ x y : Int32, x = nI (nw (u i) (bt S i)) → y = nI (bs (fun p => fz (u p) (bt S p)) (i + 1)) → r_X10_sundayThen_4 E (nI S) y (nI (i + 1)) (up τ 72 i x) Q := by
        intro x y ex ey
        subst ey
        refine ih _ (hf.tr (Fr.up (by decide))) (fun p hp => ?_) (fun p hp hp2 => ?_)
        · rw [up_eq]
          by_cases e : p = i
          · subst e; rw [upd_eq, ex]
          · rw [upd_ne e]; exact h1 p (by omega)
        · rw [up_eq, upd_ne (by omega)]; exact h2 p (by omega) hp2
      have y0 : fz (u i) (bt S i) = 0 → nI (bs (fun p => fz (u p) (bt S p)) i) = nI (bs (fun p => fz (u p) (bt S p)) (i + 1)) := fun z => orNo (d := fun p => fz (u p) (bt S p)) z
      have y1 : fz (u i) (bt S i) = 1 → nI (bs (fun p => fz (u p) (bt S p)) i) ||| ((1 : Int32) <<< (nI i &&& 31)) = nI (bs (fun p => fz (u p) (bt S p)) (i + 1)) := fun z => orBit (d := fun p => fz (u p) (bt S p)) (by omega) (fun i _ => fz_le _ _) z
      refine s_X10_sundayThen_4 _ _ _ _ _ _ (fs (hM.fr hf hL).1.2.1 hi (by omega) ?_)
      rw [bitI hS (by omega), nI_clamp (by omega), h2 i (Nat.le_refl _) hi, nI_1, or0]
      rw [show (1 : Int32) = nI 1 from rfl] at y1 ⊢
      refine tne (by omega) (by omega) (fun c => ⟨v6, ?_⟩) (fun c => ⟨v6, ?_⟩)
      · by_cases hz : u i = 0
        · rw [hz]
          refine ⟨fun q => absurd q (by decide), fun _ => ⟨v6, v6, go _ _ ?_ (y1 ?_)⟩⟩
          · unfold nw; rw [if_neg c, hz]; rfl
          · unfold fz nw; rw [if_neg c, hz]; rfl
        · obtain ⟨v, hv⟩ : ∃ v, u i = v + 1 := ⟨u i - 1, by omega⟩
          have en : nw (u i) (bt S i) = v := by unfold nw; rw [if_neg c]; omega
          rw [hv, show nI (v + 1) + -nI 1 = nI v from pk_m1 v]
          refine tle (a := 0) (by omega) (by omega) (fun _ => tle (b := 20) (by omega) (by omega) (fun _ => ⟨v6, v6, tne (b := 0) (by omega) (by omega) (fun c3 => ?_) (fun c3 => ?_)⟩) (fun c3 => by omega)) (fun c3 => by omega)
          · exact go _ _ (by rw [en]) (y0 (by unfold fz; rw [en, if_neg c3]))
          · exact go _ _ (by rw [en]) (y1 (by unfold fz; rw [en, if_pos c3]))
      · rw [show (2 : Int32) = nI 2 from rfl, nI_add]
        have en : nw (u i) (bt S i) = if u i + 2 < 20 then u i + 2 else 20 := by unfold nw; rw [if_pos c]
        refine tle (a := 0) (by omega) (by omega) (fun _ => tle (b := 20) (by omega) (by omega) (fun c2 => ⟨v6, v6, tne (b := 0) (by omega) (by omega) (fun c3 => ?_) (fun c3 => by omega)⟩) (fun c3 => ⟨v6, v6, ?_⟩)) (fun c3 => by omega)
        · refine go _ _ ?_ (y0 ?_)
          · rw [en]; congr 1; split <;> omega
          · unfold fz; rw [en, if_neg (by split <;> omega)]
        · refine go _ _ ?_ (y0 ?_)
          · rw [en, if_neg (by omega)]; rfl
          · unfold fz; rw [en, if_neg (by split <;> omega)]
  exact s_X10_sundayThen_0 _ _ _ _ (l1 0 (Nat.zero_le _) σ Fr.rf (fun p hp => by omega) (fun p _ hp => (hu p hp).1))
theorem p_nextWarm {w s : Nat} {Q : Int32 → Mm → Prop} (hw : w ≤ 20) (hs : s ≤ 1) (hQ : Q (nI (nw w s)) σ) : r_X9_nextWarm_0 E (nI w) (nI s) σ Q := by
  apply s_X9_nextWarm_0
  unfold nw at hQ
  refine teq (b := 0) (by omega) (by omega) (fun c => ?_) (fun c => ?_)
  · rw [if_neg (by omega)] at hQ
    by_cases hz : w = 0
    · subst hz; exact hQ
    · obtain ⟨v, rfl⟩ : ∃ v, w = v + 1 := ⟨w - 1, by omega⟩
      rw [nI_pred]
      by_cases h0 : 0 < v
      · rw [if_pos (show (0 : Int32) < nI v from nI_lt (a := 0) h0 (by omega))]; exact hQ
      · rw [if_neg (show ¬ (0 : Int32) < nI v from nI_nlt (a := 0) (by omega) (by omega))]
        rw [show v + 1 - 1 = 0 by omega] at hQ; exact hQ
  · rw [if_pos (by omega)] at hQ
    rw [show (2 : Int32) = nI 2 from rfl, nI_add]
    by_cases h0 : w + 2 < 20
    · rw [if_pos h0] at hQ
      rw [if_pos (show nI (w + 2) < (20 : Int32) from nI_lt (b := 20) h0 (by omega))]; exact hQ
    · rw [if_neg h0] at hQ
      rw [if_neg (show ¬ nI (w + 2) < (20 : Int32) from nI_nlt (b := 20) (by omega) (by omega))]; exact hQ
theorem p_passSunday14 {S : Nat} {Q : Int32 → Mm → Prop} (ok : OK A) (hA : HC 14 σ A) (hS : S < 2 ^ 31)
    (hQ : ∀ τ, Fr [14, 16, 17] σ τ → HC 14 τ (sun A S) → Q (nI (sm (fun p => fz (A 2 p) (bt S p)) (A 0 1))) τ) : r_X2_passSunday_14_0 E (nI S) σ Q := by
  have o1 := ok.1
  have o4 := ok.2.2.2.2.1
  have l1 : ∀ i, i ≤ A 0 1 → ∀ τ, Fr [14, 16, 17] σ τ → (∀ j, j < 6 → τ 14 j = nI (sun A S 0 j)) → (∀ p, p < i → τ 16 p = nI (sun A S 2 p) ∧ τ 17 p = nI (sun A S 3 p)) → (∀ p, i ≤ p → p < A 0 1 → τ 16 p = nI (A 2 p) ∧ τ 17 p = nI (A 3 p)) → r_X2_passSunday_14_14 E (nI S) (nI (sm (fun p => fz (A 2 p) (bt S p)) i)) (nI i) τ Q := by
    refine up_to (P := fun i => ∀ τ, Fr [14, 16, 17] σ τ → (∀ j, j < 6 → τ 14 j = nI (sun A S 0 j)) → (∀ p, p < i → τ 16 p = nI (sun A S 2 p) ∧ τ 17 p = nI (sun A S 3 p)) → (∀ p, i ≤ p → p < A 0 1 → τ 16 p = nI (A 2 p) ∧ τ 17 p = nI (A 3 p)) → r_X2_passSunday_14_14 E (nI S) (nI (sm (fun p => fz (A 2 p) (bt S p)) i)) (nI i) τ Q) (A 0 1) ?_ ?_
    · intro τ hf h0 h1 h2
      refine s_X2_passSunday_14_14 _ _ _ _ _ _ (fe (show τ 14 1 = nI (A 0 1) from h0 1 (by decide)) (Nat.le_refl _) (by omega) (hQ τ hf ⟨h0, fun p hp => ⟨?_, (h1 p hp).1, (h1 p hp).2⟩, fun w hw => ?_, fun s hs => ?_⟩))
      · show τ 15 p = nI (A 1 p)
        rw [hf 15 (by decide)]; exact (hA.2.1 p hp).1
      · show τ 18 w = nI (A 4 w) ∧ τ 19 w = nI (A 5 w) ∧ τ 20 w = nI (A 6 w)
        rw [hf 18 (by decide), hf 19 (by decide), hf 20 (by decide)]; exact hA.2.2.1 w hw
      · show τ 21 s = nI (A 7 s) ∧ τ 22 s = nI (A 8 s) ∧ τ 23 s = nI (A 9 s)
        rw [hf 21 (by decide), hf 22 (by decide), hf 23 (by decide)]; exact hA.2.2.2 s hs
    · intro i hi ih τ hf h0 h1 h2
      obtain ⟨-, b2, b3⟩ := ok.2.2.2.2.2.2.1 i hi
      have hb := bt_le S i
      have v6 : vp_in (nI i) 6 := vp_in_nI (by omega) (by omega)
      refine s_X2_passSunday_14_14 _ _ _ _ _ _ (fs (show τ 14 1 = nI (A 0 1) from h0 1 (by decide)) hi (by omega) ⟨v6, p_hasBit hS (by omega) ?_⟩)
      rw [nI_clamp (by omega), (h2 i (Nat.le_refl _) hi).1]
      refine p_nextWarm b2 hb ⟨v6, v6, ?_⟩
      rw [(h2 i (Nat.le_refl _) hi).2, nI_1, nI_1, nI_1]
      have e : sm (fun p => fz (A 2 p) (bt S p)) (i + 1) = sm (fun p => fz (A 2 p) (bt S p)) i + fz (A 2 i) (bt S i) := rfl
      have nl := nw_le (s := bt S i) b2
      refine tne (b := 0) (by omega) (by omega) (fun c => ?_) (fun c => ⟨v6, v6, ?_⟩)
      · have z : fz (A 2 i) (bt S i) = 0 := by unfold fz; rw [if_neg c]
        rw [e, z] at ih
        refine ih _ (hf.tr (Fr.up (by decide))) (fun j hj => by rw [up_ne (by decide)]; exact h0 j hj) (fun p hp => ?_) (fun p hp hp2 => ?_)
        · rw [up_eq, up_ne (a := 17) (by decide)]
          by_cases ep : p = i
          · subst ep
            rw [upd_eq]
            refine ⟨rfl, ?_⟩
            show τ 17 p = nI (A 3 p + fz (A 2 p) (bt S p))
            rw [z]; exact (h2 p (Nat.le_refl _) hi).2
          · rw [upd_ne ep]; exact h1 p (by omega)
        · rw [up_eq, up_ne (a := 17) (by decide), upd_ne (by omega)]; exact h2 p (by omega) hp2
      · have z : fz (A 2 i) (bt S i) = 1 := by unfold fz; rw [if_pos c]
        rw [e, z] at ih
        refine ih _ ((hf.tr (Fr.up (by decide))).tr (Fr.up (by decide))) (fun j hj => by rw [up_ne (by decide), up_ne (by decide)]; exact h0 j hj) (fun p hp => ?_) (fun p hp hp2 => ?_)
        · rw [up_ne (a := 16) (by decide), up_eq, up_eq, up_ne (a := 17) (by decide)]
          by_cases ep : p = i
          · subst ep
            rw [upd_eq, upd_eq]
            refine ⟨rfl, ?_⟩
            show nI (A 3 p + 1) = nI (A 3 p + fz (A 2 p) (bt S p))
            rw [z]
          · rw [upd_ne ep, upd_ne ep]; exact h1 p (by omega)
        · rw [up_ne (a := 16) (by decide), up_eq, up_eq, up_ne (a := 17) (by decide), upd_ne (by omega), upd_ne (by omega)]; exact h2 p (by omega) hp2
  refine s_X2_passSunday_14_0 _ _ _ _ (l1 0 (Nat.zero_le _) _ (Fr.up (by decide)) (fun j hj => ?_) (fun p hp => by omega) (fun p _ hp => ?_))
  · rw [up_eq]
    by_cases ej : j = 4
    · subst ej; rw [upd_eq, hA.1 4 (by decide), nI_1]; rfl
    · rw [upd_ne ej, hA.1 j hj]
      show nI (A 0 j) = nI (sun A S 0 j)
      unfold sun
      rw [if_neg (fun z => ej z.2), if_neg (by decide), if_neg (by decide)]
  · rw [up_ne (by decide), up_ne (by decide)]; exact (hA.2.1 p hp).2
theorem p_passSunday34 {S : Nat} {Q : Int32 → Mm → Prop} (ok : OK A) (hA : HC 34 σ A) (hS : S < 2 ^ 31)
    (hQ : ∀ τ, Fr [34, 36, 37] σ τ → HC 34 τ (sun A S) → Q (nI (sm (fun p => fz (A 2 p) (bt S p)) (A 0 1))) τ) : r_X2_passSunday_34_0 E (nI S) σ Q := by
  have o1 := ok.1
  have o4 := ok.2.2.2.2.1
  have l1 : ∀ i, i ≤ A 0 1 → ∀ τ, Fr [34, 36, 37] σ τ → (∀ j, j < 6 → τ 34 j = nI (sun A S 0 j)) → (∀ p, p < i → τ 36 p = nI (sun A S 2 p) ∧ τ 37 p = nI (sun A S 3 p)) → (∀ p, i ≤ p → p < A 0 1 → τ 36 p = nI (A 2 p) ∧ τ 37 p = nI (A 3 p)) → r_X2_passSunday_34_14 E (nI S) (nI (sm (fun p => fz (A 2 p) (bt S p)) i)) (nI i) τ Q := by
    refine up_to (P := fun i => ∀ τ, Fr [34, 36, 37] σ τ → (∀ j, j < 6 → τ 34 j = nI (sun A S 0 j)) → (∀ p, p < i → τ 36 p = nI (sun A S 2 p) ∧ τ 37 p = nI (sun A S 3 p)) → (∀ p, i ≤ p → p < A 0 1 → τ 36 p = nI (A 2 p) ∧ τ 37 p = nI (A 3 p)) → r_X2_passSunday_34_14 E (nI S) (nI (sm (fun p => fz (A 2 p) (bt S p)) i)) (nI i) τ Q) (A 0 1) ?_ ?_
    · intro τ hf h0 h1 h2
      refine s_X2_passSunday_34_14 _ _ _ _ _ _ (fe (show τ 34 1 = nI (A 0 1) from h0 1 (by decide)) (Nat.le_refl _) (by omega) (hQ τ hf ⟨h0, fun p hp => ⟨?_, (h1 p hp).1, (h1 p hp).2⟩, fun w hw => ?_, fun s hs => ?_⟩))
      · show τ 35 p = nI (A 1 p)
        rw [hf 35 (by decide)]; exact (hA.2.1 p hp).1
      · show τ 38 w = nI (A 4 w) ∧ τ 39 w = nI (A 5 w) ∧ τ 40 w = nI (A 6 w)
        rw [hf 38 (by decide), hf 39 (by decide), hf 40 (by decide)]; exact hA.2.2.1 w hw
      · show τ 41 s = nI (A 7 s) ∧ τ 42 s = nI (A 8 s) ∧ τ 43 s = nI (A 9 s)
        rw [hf 41 (by decide), hf 42 (by decide), hf 43 (by decide)]; exact hA.2.2.2 s hs
    · intro i hi ih τ hf h0 h1 h2
      obtain ⟨-, b2, b3⟩ := ok.2.2.2.2.2.2.1 i hi
      have hb := bt_le S i
      have v6 : vp_in (nI i) 6 := vp_in_nI (by omega) (by omega)
      refine s_X2_passSunday_34_14 _ _ _ _ _ _ (fs (show τ 34 1 = nI (A 0 1) from h0 1 (by decide)) hi (by omega) ⟨v6, p_hasBit hS (by omega) ?_⟩)
      rw [nI_clamp (by omega), (h2 i (Nat.le_refl _) hi).1]
      refine p_nextWarm b2 hb ⟨v6, v6, ?_⟩
      rw [(h2 i (Nat.le_refl _) hi).2, nI_1, nI_1, nI_1]
      have e : sm (fun p => fz (A 2 p) (bt S p)) (i + 1) = sm (fun p => fz (A 2 p) (bt S p)) i + fz (A 2 i) (bt S i) := rfl
      have nl := nw_le (s := bt S i) b2
      refine tne (b := 0) (by omega) (by omega) (fun c => ?_) (fun c => ⟨v6, v6, ?_⟩)
      · have z : fz (A 2 i) (bt S i) = 0 := by unfold fz; rw [if_neg c]
        rw [e, z] at ih
        refine ih _ (hf.tr (Fr.up (by decide))) (fun j hj => by rw [up_ne (by decide)]; exact h0 j hj) (fun p hp => ?_) (fun p hp hp2 => ?_)
        · rw [up_eq, up_ne (a := 37) (by decide)]
          by_cases ep : p = i
          · subst ep
            rw [upd_eq]
            refine ⟨rfl, ?_⟩
            show τ 37 p = nI (A 3 p + fz (A 2 p) (bt S p))
            rw [z]; exact (h2 p (Nat.le_refl _) hi).2
          · rw [upd_ne ep]; exact h1 p (by omega)
        · rw [up_eq, up_ne (a := 37) (by decide), upd_ne (by omega)]; exact h2 p (by omega) hp2
      · have z : fz (A 2 i) (bt S i) = 1 := by unfold fz; rw [if_pos c]
        rw [e, z] at ih
        refine ih _ ((hf.tr (Fr.up (by decide))).tr (Fr.up (by decide))) (fun j hj => by rw [up_ne (by decide), up_ne (by decide)]; exact h0 j hj) (fun p hp => ?_) (fun p hp hp2 => ?_)
        · rw [up_ne (a := 36) (by decide), up_eq, up_eq, up_ne (a := 37) (by decide)]
          by_cases ep : p = i
          · subst ep
            rw [upd_eq, upd_eq]
            refine ⟨rfl, ?_⟩
            show nI (A 3 p + 1) = nI (A 3 p + fz (A 2 p) (bt S p))
            rw [z]
          · rw [upd_ne ep, upd_ne ep]; exact h1 p (by omega)
        · rw [up_ne (a := 36) (by decide), up_eq, up_eq, up_ne (a := 37) (by decide), upd_ne (by omega), upd_ne (by omega)]; exact h2 p (by omega) hp2
  refine s_X2_passSunday_34_0 _ _ _ _ (l1 0 (Nat.zero_le _) _ (Fr.up (by decide)) (fun j hj => ?_) (fun p hp => by omega) (fun p _ hp => ?_))
  · rw [up_eq]
    by_cases ej : j = 4
    · subst ej; rw [upd_eq, hA.1 4 (by decide), nI_1]; rfl
    · rw [upd_ne ej, hA.1 j hj]
      show nI (A 0 j) = nI (sun A S 0 j)
      unfold sun
      rw [if_neg (fun z => ej z.2), if_neg (by decide), if_neg (by decide)]
  · rw [up_ne (by decide), up_ne (by decide)]; exact (hA.2.1 p hp).2
end SU
