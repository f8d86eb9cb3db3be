/-! ODDS: both sides -/
section OD
variable {E : EE} {σ : Mm} {A : Ab}
theorem max1 {g : Nat} (h : 1 ≤ g) (hb : g < 2 ^ 31) : (if (1 : Int32) < nI g then nI g else 1) = nI g := by
  by_cases q : 1 < g
  · rw [if_pos (show (1 : Int32) < nI g from nI_lt (a := 1) q hb)]
  · rw [if_neg (show ¬ (1 : Int32) < nI g from nI_nlt (a := 1) (by omega) (by omega)), show g = 1 by omega]; rfl
theorem p_commonPart {x y : Nat} {Q : Int32 → Mm → Prop} (hx1 : 1 ≤ x) (hx : x ≤ 100000000) (hy : y ≤ 100000000) (hQ : Q (nI (Nat.gcd x y)) σ) : r_X1_commonPart_0 E (nI x) (nI y) σ Q := by
  have key : ∀ j a b i, 1 ≤ a → a ≤ 100000000 → b ≤ 100000000 → b < 2 ^ j → i + 2 * j ≤ 64 → Nat.gcd a b = Nat.gcd x y → r_X1_commonPart_7 E (nI x) (nI y) (nI a) (nI b) (nI i) σ Q := by
    intro j
    induction j with
    | zero =>
      intro a b i ha1 ha hb hlt hi hg
      have : b = 0 := by omega
      subst this
      rw [Nat.gcd_zero_right] at hg
      refine s_X1_commonPart_7 _ _ _ _ _ _ _ _ ?_
      rw [max1 ha1 (by omega), hg]
      exact ⟨fun _ => hQ, fun _ => ⟨fun _ => hQ, fun q => absurd (by decide) q⟩⟩
    | succ j ih =>
      intro a b i ha1 ha hb hlt hi hg
      refine s_X1_commonPart_7 _ _ _ _ _ _ _ _ (fs (n := 64) rfl (by omega) (by omega) (tle (b := 0) (by omega) (by omega) (fun c => ?_) (fun c => ⟨fun q => ?_, ?_⟩)))
      · have : b = 0 := by omega
        subst this
        rw [Nat.gcd_zero_right] at hg
        rw [max1 ha1 (by omega), hg]
        exact hQ
      · have := (nI_eq (b := 0) (by omega) (by omega)).mp q
        omega
      · rw [pk_rem (by omega) c (by omega), nI_1]
        have hr := Nat.mod_lt a c
        have hg2 : Nat.gcd b (a % b) = Nat.gcd x y := by rw [← hg, Nat.gcd_comm a b, Nat.gcd_rec b a, Nat.gcd_comm]
        refine s_X1_commonPart_7 _ _ _ _ _ _ _ _ (fs (n := 64) rfl (by omega) (by omega) (tle (b := 0) (by omega) (by omega) (fun c2 => ?_) (fun c2 => ⟨fun q => ?_, ?_⟩)))
        · have e : a % b = 0 := by omega
          rw [e, Nat.gcd_zero_right] at hg2
          rw [max1 (by omega) (by omega), hg2]
          exact hQ
        · have := (nI_eq (b := 0) (by omega) (by omega)).mp q
          omega
        · rw [pk_rem (by omega) c2 (by omega), nI_1]
          have hh := halve c2 hr
          have hg3 : Nat.gcd (a % b) (b % (a % b)) = Nat.gcd x y := by rw [← hg2, Nat.gcd_comm b (a % b), Nat.gcd_rec (a % b) b, Nat.gcd_comm]
          exact ih _ _ _ (by omega) (by omega) (by omega) (by rw [Nat.pow_succ] at hlt; omega) (by omega) hg3
  exact s_X1_commonPart_0 _ _ _ _ _ (key 27 x y 0 hx1 hx hy (Nat.lt_of_le_of_lt hy (by decide)) (by decide) rfl)
def Cf (σ : Mm) (A : Ab) (t : Nat) : Prop := σ 56 3 = nI (ow A) ∧ ∀ p, p < A 0 1 → σ 57 p = nI (od A t p)
theorem gcd_pos {A : Ab} (t p : Nat) : 1 ≤ Nat.gcd (ow A) (od A t p) := Nat.gcd_pos_of_pos_left _ (ow_pos A)
theorem gcd_le {A : Ab} (ok : OK A) (t p : Nat) : Nat.gcd (ow A) (od A t p) ≤ 100000000 := Nat.le_trans (Nat.le_of_dvd (ow_pos A) (Nat.gcd_dvd_left _ _)) (ow_le ok)
theorem p_above {t p : Nat} {Q : Int32 → Mm → Prop} (ok : OK A) (ht : t ≤ 10) (hC : Cf σ A t) (hp : p < A 0 1) (hQ : Q (nI (oa A t p 0)) σ) : r_X1_above_0 E (nI p) σ Q := by
  have o1 := ok.1
  have g1 := gcd_pos (A := A) t p
  have g2 := gcd_le ok t p
  have w1 := ow_pos A
  have w2 := ow_le ok
  have d1 := od_le (A := A) ht p
  refine s_X1_above_0 _ _ _ _ ⟨vp_in_nI (by omega) (by omega), vp_in_nI (by omega) (by omega), ?_⟩
  rw [nI_clamp (by omega), hC.1, hC.2 p hp]
  refine p_commonPart w1 w2 (by omega) ⟨fun q => ?_, ?_⟩
  · have := (nI_eq (b := 0) (by omega) (by omega)).mp q
    omega
  · rw [pk_div (by omega) g1 (by omega)]
    exact hQ
theorem p_below {t p : Nat} {Q : Int32 → Mm → Prop} (ok : OK A) (ht : t ≤ 10) (hC : Cf σ A t) (hp : p < A 0 1) (hQ : Q (nI (oa A t p 1)) σ) : r_X1_below_0 E (nI p) σ Q := by
  have o1 := ok.1
  have g1 := gcd_pos (A := A) t p
  have g2 := gcd_le ok t p
  have w1 := ow_pos A
  have w2 := ow_le ok
  have d1 := od_le (A := A) ht p
  refine s_X1_below_0 _ _ _ _ ⟨vp_in_nI (by omega) (by omega), ?_⟩
  rw [nI_clamp (by omega), hC.1, hC.2 p hp]
  refine p_commonPart w1 w2 (by omega) ⟨fun q => ?_, ?_⟩
  · have := (nI_eq (b := 0) (by omega) (by omega)).mp q
    omega
  · rw [pk_div (by omega) g1 (by omega)]
    exact hQ
theorem parts_gen {r : Int32 → Mm → (Mm → Prop) → Prop} {b t : Nat} (ht : t ≤ 10) (hs : ∀ x σ Q, (9 ≤ x → Q σ) ∧ (¬ 9 ≤ x → vp_in (x - 1) 9 ∧ vp_in x 9 ∧ r (x + 1) (up σ b x.toNatClampNeg (σ b (x - 1).toNatClampNeg * nI t)) Q) → r x σ Q) {Q : Mm → Prop}
    (hQ : ∀ τ, Fr [b] σ τ → (∀ i, i < 9 → τ b i = nI (t ^ i)) → Q τ) : r 1 (up σ b 0 1) Q := by
  have key : ∀ i, i ≤ 9 → 1 ≤ i → ∀ τ, Fr [b] σ τ → (∀ j, j < i → τ b j = nI (t ^ j)) → r (nI i) τ Q := by
    refine up_to (P := fun i => 1 ≤ i → ∀ τ, Fr [b] σ τ → (∀ j, j < i → τ b j = nI (t ^ j)) → r (nI i) τ Q) 9 ?_ ?_
    · intro _ τ hf hv
      exact hs _ _ _ (fe (n := 9) rfl (by omega) (by omega) (hQ τ hf hv))
    · intro i hi ih h1 τ hf hv
      obtain ⟨k, rfl⟩ : ∃ k, i = k + 1 := ⟨i - 1, by omega⟩
      have e1 : nI (k + 1) - 1 = nI k := nI_pred k
      refine hs _ _ _ (fs (n := 9) rfl hi (by omega) ⟨by rw [e1]; exact vp_in_nI (by omega) (by omega), vp_in_nI (by omega) (by omega), ?_⟩)
      rw [e1, nI_clamp (by omega), nI_clamp (by omega), hv k (by omega), pk_mul, nI_1, ← Nat.pow_succ]
      refine ih (by omega) _ (hf.tr (Fr.up (by simp))) (fun j hj => ?_)
      rw [up_eq]
      by_cases e : j = k + 1
      · subst e; rw [upd_eq]
      · rw [upd_ne e]; exact hv j (by omega)
  refine key 1 (by decide) (by decide) _ (Fr.up (by simp)) (fun j hj => ?_)
  rw [show j = 0 by omega, up_eq, upd_eq]
  rfl
theorem p_addTo {S v n : Nat} {f : Nat → Nat} {Q : Mm → Prop} (hS : S < 2 ^ 31) (hn : n ≤ 6) (hf : ∀ p, p < n → σ 57 p = nI (f p)) (hQ : ∀ τ, Fr [57] σ τ → (∀ p, p < n → τ 57 p = nI (f p + if bt S p = 1 then v else 0)) → Q τ) : r_X1_addTo_0 E (nI S) (nI v) (nI n) σ Q := by
  have key : ∀ i, i ≤ n → ∀ τ, Fr [57] σ τ → (∀ p, p < i → τ 57 p = nI (f p + if bt S p = 1 then v else 0)) → (∀ p, i ≤ p → p < n → τ 57 p = nI (f p)) → r_X1_addTo_3 E (nI S) (nI v) (nI n) (nI i) τ Q := by
    refine up_to (P := fun i => ∀ τ, Fr [57] σ τ → (∀ p, p < i → τ 57 p = nI (f p + if bt S p = 1 then v else 0)) → (∀ p, i ≤ p → p < n → τ 57 p = nI (f p)) → r_X1_addTo_3 E (nI S) (nI v) (nI n) (nI i) τ Q) n ?_ ?_
    · intro τ h1 h2 h3
      exact s_X1_addTo_3 _ _ _ _ _ _ _ (fe rfl (Nat.le_refl _) (by omega) (hQ τ h1 h2))
    · intro i hi ih τ h1 h2 h3
      have hb := bt_le S i
      refine s_X1_addTo_3 _ _ _ _ _ _ _ (fs rfl hi (by omega) (p_hasBit hS (by omega) ?_))
      rw [nI_clamp (by omega), h3 i (Nat.le_refl _) hi, nI_1, nI_add]
      refine teq (b := 0) (by omega) (by omega) (fun c => ih τ h1 (fun p hp => ?_) (fun p hp hp2 => h3 p (by omega) hp2)) (fun c => ⟨vp_in_nI (by omega) (by omega), vp_in_nI (by omega) (by omega), ih _ (h1.tr (Fr.up (by decide))) (fun p hp => ?_) (fun p hp hp2 => ?_)⟩)
      · by_cases e : p = i
        · subst e; rw [if_neg (by omega), Nat.add_zero]; exact h3 p (Nat.le_refl _) hi
        · exact h2 p (by omega)
      · rw [up_eq]
        by_cases e : p = i
        · subst e; rw [upd_eq, if_pos (by omega)]
        · rw [upd_ne e]; exact h2 p (by omega)
      · rw [up_eq, upd_ne (by omega)]; exact h3 p (by omega) hp2
  exact s_X1_addTo_0 _ _ _ _ _ _ (key 0 (Nat.zero_le _) σ Fr.rf (fun p hp => by omega) (fun p _ hp => hf p hp))
theorem p_cfill {t : Nat} {Q : Mm → Prop} (ok : OK A) (hA : HC 14 σ A) (ht : t ≤ 10) (hQ : ∀ τ, Fr [44, 45, 46, 56, 57, 58, 59] σ τ → Cf τ A t → Q τ) : r_X1_fill_0 E (nI t) σ Q := by
  have o1 := ok.1
  have o2 := ok.2.1
  have o3 := ok.2.2.1
  have hL : ∀ k ∈ [44, 45, 46, 56, 57, 58, 59], k < 14 ∨ 14 + 9 < k := by decide
  have hpow : 2 ^ A 0 2 ≤ 2 ^ 8 := Nat.pow_le_pow_right (by decide) o2
  have hp0 := Nat.two_pow_pos (A 0 2)
  have hF := p256 ok ok.2.2.2.1
  have hO : opn (A 0 3) (A 0 2) < 2 ^ A 0 2 := opn_lt
  have hk := kO_le (A 0 3) (A 0 2)
  have sub1 : ∀ {L : List Nat} {τ ρ : Mm}, Fr L τ ρ → (∀ k, k ∈ L → k ∈ [44, 45, 46, 56, 57, 58, 59]) → Fr [44, 45, 46, 56, 57, 58, 59] σ τ → Fr [44, 45, 46, 56, 57, 58, 59] σ ρ := fun h hl hf => hf.tr (h.wk hl)
  have l4 : ∀ i, i ≤ 2 ^ A 0 2 → ∀ τ, Fr [44, 45, 46, 56, 57, 58, 59] σ τ → τ 56 3 = nI (ow A) → (∀ j, j < 9 → τ 58 j = nI (t ^ j)) → (∀ j, j < 9 → τ 59 j = nI ((10 - t) ^ j)) → (∀ p, p < A 0 1 → τ 57 p = nI (odW A t p i)) → r_X1_fill_108 E (nI t) (nI (2 ^ A 0 2 - 1)) (nI (opn (A 0 3) (A 0 2))) (nI (kO (A 0 3) (A 0 2))) (nI i) τ Q := by
    refine up_to (P := fun i => ∀ τ, Fr [44, 45, 46, 56, 57, 58, 59] σ τ → τ 56 3 = nI (ow A) → (∀ j, j < 9 → τ 58 j = nI (t ^ j)) → (∀ j, j < 9 → τ 59 j = nI ((10 - t) ^ j)) → (∀ p, p < A 0 1 → τ 57 p = nI (odW A t p i)) → r_X1_fill_108 E (nI t) (nI (2 ^ A 0 2 - 1)) (nI (opn (A 0 3) (A 0 2))) (nI (kO (A 0 3) (A 0 2))) (nI i) τ Q) (2 ^ A 0 2) ?_ ?_
    · intro τ hf h1 h2 h3 h4
      exact s_X1_fill_108 _ _ _ _ _ _ _ _ (tlt (by omega) (by omega) (fun _ => hQ τ hf ⟨h1, h4⟩) (fun c => by omega))
    · intro i hi ih τ hf h1 h2 h3 h4
      have hA' := hA.fr hf hL
      have e : ∀ p, odW A t p (i + 1) = odW A t p i + if st A (A 0 3 ||| i) (A 0 0) p = 1 then wyW t (A 0 3) i (A 0 2) else 0 := fun p => rfl
      refine s_X1_fill_108 _ _ _ _ _ _ _ _ (tlt (by omega) (by omega) (fun c => by omega) (fun _ => ?_))
      rw [notI, andI, nI_1]
      have hand : i &&& nt (opn (A 0 3) (A 0 2)) < 2 ^ 31 := Nat.lt_of_le_of_lt Nat.and_le_left (by omega)
      refine tne (b := 0) hand (by omega) (fun c => ih τ hf h1 h2 h3 (fun p hp => ?_)) (fun c => p_bc (by omega) ?_)
      · rw [e, wy0 (fun z => c ((opn_sub o2 hi).mpr z))]
        rw [show (if st A (A 0 3 ||| i) (A 0 0) p = 1 then 0 else 0) = 0 by split <;> rfl, Nat.add_zero]
        exact h4 p hp
      · have hdis := (opn_sub o2 hi).mp c
        obtain ⟨q1, q2⟩ := pr_pow (t := t) hdis (A 0 2)
        rw [← po_W hi o2] at q1 q2
        have p8 := po_le (n := i) (by omega)
        have hw : wyW t (A 0 3) i (A 0 2) = t ^ po i * (10 - t) ^ (kO (A 0 3) (A 0 2) - po i) := by rw [wy_pr hdis, q2]
        have hwl : wyW t (A 0 3) i (A 0 2) ≤ 100000000 := by rw [wy_pr hdis]; exact Nat.le_trans (pr_le ht _) (ow_le ok)
        rw [pk_sub q1, nI_clamp (by omega), nI_clamp (by omega), h2 _ (by omega), h3 _ (by omega), pk_mul, ← hw]
        refine ⟨vp_in_nI (by omega) (by omega), vp_in_nI (by omega) (by omega), tle (b := 0) (by omega) (by omega) (fun c2 => ih τ hf h1 h2 h3 (fun p hp => ?_)) (fun c2 => ?_)⟩
        · rw [e, show wyW t (A 0 3) i (A 0 2) = 0 by omega]
          rw [show (if st A (A 0 3 ||| i) (A 0 0) p = 1 then 0 else 0) = 0 by split <;> rfl, Nat.add_zero]
          exact h4 p hp
        · rw [show τ 14 3 = nI (A 0 3) from hA'.1 3 (by decide), orI]
          have hor : A 0 3 ||| i < 2 ^ 8 := Nat.or_lt_two_pow (by omega) (by omega)
          refine p_fill14 ok hA' (by omega) (fun ρ g1 g2 g3 => ?_)
          have hf2 := sub1 g1 (by decide) hf
          have hA2 := hA.fr hf2 hL
          rw [show ρ 14 0 = nI (A 0 0) from hA2.1 0 (by decide)]
          refine p_sitters ok ⟨g2, g3⟩ o3 ?_
          rw [show ρ 14 1 = nI (A 0 1) from hA2.1 1 (by decide)]
          have sl := sB_lt ok (A 0 3 ||| i) (A 0 0)
          refine p_addTo (f := fun p => odW A t p i) (by omega) o1 (fun p hp => by rw [g1 57 (by decide)]; exact h4 p hp) (fun ζ z1 z2 => ?_)
          have hf3 := sub1 z1 (by decide) hf2
          refine ih ζ hf3 ?_ (fun j hj => ?_) (fun j hj => ?_) (fun p hp => ?_)
          · rw [z1 56 (by decide), g1 56 (by decide)]; exact h1
          · rw [z1 58 (by decide), g1 58 (by decide)]; exact h2 j hj
          · rw [z1 59 (by decide), g1 59 (by decide)]; exact h3 j hj
          · rw [z2 p hp, bt_sB hp, e]
  have l3 : ∀ i, i ≤ A 0 1 → ∀ τ, Fr [44, 45, 46, 56, 57, 58, 59] σ τ → τ 56 3 = nI (ow A) → (∀ j, j < 9 → τ 58 j = nI (t ^ j)) → (∀ j, j < 9 → τ 59 j = nI ((10 - t) ^ j)) → (∀ p, p < i → τ 57 p = 0) → r_X1_fill_82 E (nI t) (nI (2 ^ A 0 2 - 1)) (nI (opn (A 0 3) (A 0 2))) (nI (kO (A 0 3) (A 0 2))) (nI i) τ Q := by
    refine up_to (P := fun i => ∀ τ, Fr [44, 45, 46, 56, 57, 58, 59] σ τ → τ 56 3 = nI (ow A) → (∀ j, j < 9 → τ 58 j = nI (t ^ j)) → (∀ j, j < 9 → τ 59 j = nI ((10 - t) ^ j)) → (∀ p, p < i → τ 57 p = 0) → r_X1_fill_82 E (nI t) (nI (2 ^ A 0 2 - 1)) (nI (opn (A 0 3) (A 0 2))) (nI (kO (A 0 3) (A 0 2))) (nI i) τ Q) (A 0 1) ?_ ?_
    · intro τ hf h1 h2 h3 h4
      exact s_X1_fill_82 _ _ _ _ _ _ _ _ (fe ((hA.fr hf hL).1 1 (by decide)) (Nat.le_refl _) (by omega) (l4 0 (Nat.zero_le _) τ hf h1 h2 h3 h4))
    · intro i hi ih τ hf h1 h2 h3 h4
      refine s_X1_fill_82 _ _ _ _ _ _ _ _ (fs ((hA.fr hf hL).1 1 (by decide)) hi (by omega) ⟨vp_in_nI (by omega) (by omega), ?_⟩)
      rw [nI_clamp (by omega), nI_1]
      refine ih _ (hf.tr (Fr.up (by decide))) (by rw [up_ne (by decide)]; exact h1) (fun j hj => by rw [up_ne (by decide)]; exact h2 j hj) (fun j hj => by rw [up_ne (by decide)]; exact h3 j hj) (fun p hp => ?_)
      rw [up_eq]
      by_cases e : p = i
      · subst e; rw [upd_eq]
      · rw [upd_ne e]; exact h4 p (by omega)
  have l2 : ∀ i, i ≤ kO (A 0 3) (A 0 2) → ∀ τ, Fr [44, 45, 46, 56, 57, 58, 59] σ τ → τ 56 3 = nI (10 ^ i) → r_X1_fill_36 E (nI t) (nI (2 ^ A 0 2 - 1)) (nI (opn (A 0 3) (A 0 2))) (nI (kO (A 0 3) (A 0 2))) (nI i) τ Q := by
    refine up_to (P := fun i => ∀ τ, Fr [44, 45, 46, 56, 57, 58, 59] σ τ → τ 56 3 = nI (10 ^ i) → r_X1_fill_36 E (nI t) (nI (2 ^ A 0 2 - 1)) (nI (opn (A 0 3) (A 0 2))) (nI (kO (A 0 3) (A 0 2))) (nI i) τ Q) (kO (A 0 3) (A 0 2)) ?_ ?_
    · intro τ hf h1
      refine s_X1_fill_36 _ _ _ _ _ _ _ _ (fe rfl (Nat.le_refl _) (by omega) ?_)
      refine s_X1_fillParts_58_0 _ _ _ _ (parts_gen (r := r_X1_fillParts_58_6 E (nI t)) ht (fun x σ Q h => s_X1_fillParts_58_6 E _ x σ Q h) (fun ρ g1 g2 => ?_))
      rw [show (10 : Int32) = nI 10 from rfl, pk_sub ht]
      refine s_X1_fillParts_59_0 _ _ _ _ (parts_gen (r := r_X1_fillParts_59_6 E (nI (10 - t))) (by omega) (fun x σ Q h => s_X1_fillParts_59_6 E _ x σ Q h) (fun ζ z1 z2 => ?_))
      refine l3 0 (Nat.zero_le _) ζ (sub1 z1 (by decide) (sub1 g1 (by decide) hf)) ?_ (fun j hj => ?_) z2 (fun p hp => by omega)
      · rw [z1 56 (by decide), g1 56 (by decide)]; exact h1
      · rw [z1 58 (by decide)]; exact g2 j hj
    · intro i hi ih τ hf h1
      refine s_X1_fill_36 _ _ _ _ _ _ _ _ (fs rfl hi (by omega) ?_)
      rw [h1, show (10 : Int32) = nI 10 from rfl, pk_mul, ← Nat.pow_succ, nI_1]
      exact ih _ (hf.tr (Fr.up (by decide))) (by rw [up_eq, upd_eq])
  refine s_X1_fill_0 _ _ _ _ ?_
  rw [show σ 14 2 = nI (A 0 2) from hA.1 2 (by decide), show σ 14 3 = nI (A 0 3) from hA.1 3 (by decide), shlI (by omega), notI, show (1 : Int32) = nI 1 from rfl, pk_sub hp0, andI]
  refine p_bc (show opn (A 0 3) (A 0 2) < 256 by omega) ?_
  rw [show po ((2 ^ A 0 2 - 1) &&& nt (A 0 3)) = kO (A 0 3) (A 0 2) from po_opn o2]
  exact l2 0 (Nat.zero_le _) _ (Fr.up (by decide)) (by rw [up_eq, upd_eq])
/-- the reference's side -/
theorem p_oddsOf {t p w : Nat} {Q : Int32 → Mm → Prop} (ok : OK A) (hM : HM σ A) (ht : t ≤ 10) (hp : p < A 0 1) (hw : w ≤ 1) (hQ : ∀ τ, Fr [71] σ τ → Q (nI (oa A t p w)) τ) : r_X10_oddsOf_0 E (nI p) (nI t) (nI w) σ Q := by
  have o1 := ok.1
  have o2 := ok.2.1
  have o3 := ok.2.2.1
  have hL : ∀ k ∈ [71], k < 63 ∨ k = 64 ∨ k = 71 ∨ k = 72 ∨ 73 < k := by decide
  have hpow : 2 ^ A 0 2 ≤ 2 ^ 8 := Nat.pow_le_pow_right (by decide) o2
  have hF := p256 ok ok.2.2.2.1
  have w1 := ow_pos A
  have w2 := ow_le ok
  have d1 := od_le (A := A) ht p
  have gc : ∀ b a τ, Fr [71] σ τ → 1 ≤ a → a ≤ 100000000 → b ≤ 100000000 → Nat.gcd a b = Nat.gcd (ow A) (od A t p) → r_X10_oddsOf_146 E (nI p) (nI t) (nI w) (nI (od A t p)) (nI (ow A)) (nI a) (nI b) τ Q := by
    intro b
    induction b using Nat.strongRecOn with
    | _ b ih =>
      intro a τ hf ha1 ha hb hg
      refine s_X10_oddsOf_146 _ _ _ _ _ _ _ _ _ _ (tle (b := 0) (by omega) (by omega) (fun c => ?_) (fun c => ⟨fun q => ?_, ?_⟩))
      · have : b = 0 := by omega
        subst this
        rw [Nat.gcd_zero_right] at hg
        have hq := hQ τ hf
        unfold oa at hq
        rw [← hg] at hq
        have hne : ¬ nI a = 0 := fun z => by
          have := (nI_eq (b := 0) (by omega) (by omega)).mp z
          omega
        refine tne (b := 0) (by omega) (by omega) (fun c2 => ⟨hne, ?_⟩) (fun c2 => ⟨hne, ?_⟩)
        · rw [if_neg c2] at hq
          rw [pk_div (by omega) (by omega) (by omega)]; exact hq
        · rw [if_pos c2] at hq
          rw [pk_div (by omega) (by omega) (by omega)]; exact hq
      · have := (nI_eq (b := 0) (by omega) (by omega)).mp q
        omega
      · rw [pk_rem (by omega) c (by omega)]
        have hr := Nat.mod_lt a c
        exact ih _ hr b τ hf (by omega) (by omega) (by omega) (by rw [← hg, Nat.gcd_comm a b, Nat.gcd_rec b a, Nat.gcd_comm])
  have l1 : ∀ i, i ≤ 2 ^ A 0 2 → ∀ τ, Fr [71] σ τ → r_X10_oddsOf_9 E (nI p) (nI t) (nI w) (nI (odW A t p i)) (nI (sm (fun s => wyW t (A 0 3) s (A 0 2)) i)) (nI i) τ Q := by
    refine up_to (P := fun i => ∀ τ, Fr [71] σ τ → r_X10_oddsOf_9 E (nI p) (nI t) (nI w) (nI (odW A t p i)) (nI (sm (fun s => wyW t (A 0 3) s (A 0 2)) i)) (nI i) τ Q) (2 ^ A 0 2) ?_ ?_
    · intro τ hf
      have hM' := hM.fr hf hL
      refine s_X10_oddsOf_9 _ _ _ _ _ _ _ _ _ (fe (n := 2 ^ A 0 2) (by rw [hM'.1.2.2.1, shlI (by omega)]) (Nat.le_refl _) (by omega) ?_)
      rw [wy_sum ht]
      exact gc (od A t p) (ow A) τ hf w1 w2 (by omega) rfl
    · intro i hi ih τ hf
      have hM' := hM.fr hf hL
      have e1 : odW A t p (i + 1) = odW A t p i + if st A (A 0 3 ||| i) (A 0 0) p = 1 then wyW t (A 0 3) i (A 0 2) else 0 := rfl
      have e2 : sm (fun s => wyW t (A 0 3) s (A 0 2)) (i + 1) = sm (fun s => wyW t (A 0 3) s (A 0 2)) i + wyW t (A 0 3) i (A 0 2) := rfl
      rw [e1, e2] at ih
      have hor : A 0 3 ||| i < 2 ^ 8 := Nat.or_lt_two_pow (by omega) (by omega)
      have l2 : ∀ j, j ≤ A 0 2 → r_X10_oddsOf_40 E (nI p) (nI t) (nI w) (nI (odW A t p i)) (nI (sm (fun s => wyW t (A 0 3) s (A 0 2)) i)) (nI i) (nI (wyW t (A 0 3) i j)) (nI j) τ Q := by
        refine up_to (A 0 2) ?_ ?_
        · refine s_X10_oddsOf_40 _ _ _ _ _ _ _ _ _ _ _ (fe hM'.1.2.2.1 (Nat.le_refl _) (by omega) ?_)
          rw [hM'.1.2.2.2.1, hM'.1.1, orI]
          refine p_sitsBy ok hM' o3 (by omega) (fun ρ g1 => ?_)
          have sl := sB_lt ok (A 0 3 ||| i) (A 0 0)
          have sle := st_le A (A 0 3 ||| i) (A 0 0) p
          have ih2 := ih ρ (hf.tr g1)
          rw [bitI (by omega) (by omega), bt_sB hp, nI_1, show (0 : Int32) = nI 0 from rfl]
          simp only [nI_add]
          refine tne (b := 1) (by omega) (by omega) (fun c => ?_) (fun c => ?_)
          · rw [if_neg c] at ih2; exact ih2
          · rw [if_pos c] at ih2; exact ih2
        · intro j hj ih2
          have hb := bt_le (A 0 3) j
          have hb2 := bt_le i j
          refine s_X10_oddsOf_40 _ _ _ _ _ _ _ _ _ _ _ (fs hM'.1.2.2.1 hj (by omega) ?_)
          have e3 : wyW t (A 0 3) i (j + 1) = if bt (A 0 3) j = 0 then wyW t (A 0 3) i j * (if bt i j = 1 then t else 10 - t) else wyW t (A 0 3) i j := rfl
          rw [e3] at ih2
          rw [hM'.1.2.2.2.1, bitI (by omega) (by omega), bitI (by omega) (by omega), nI_1, show (10 : Int32) = nI 10 from rfl, pk_sub ht, pk_mul, pk_mul]
          refine tne (b := 0) (by omega) (by omega) (fun c => ?_) (fun c => tne (b := 1) (by omega) (by omega) (fun c2 => ?_) (fun c2 => ?_))
          · rw [if_neg c] at ih2; exact ih2
          · rw [if_pos c, if_neg c2] at ih2; exact ih2
          · rw [if_pos c, if_pos c2] at ih2; exact ih2
      refine s_X10_oddsOf_9 _ _ _ _ _ _ _ _ _ (fs (n := 2 ^ A 0 2) (by rw [hM'.1.2.2.1, shlI (by omega)]) hi (by omega) ?_)
      have l20 := l2 0 (Nat.zero_le _)
      have e0 : wyW t (A 0 3) i 0 = if i &&& A 0 3 = 0 then 1 else 0 := rfl
      rw [e0] at l20
      rw [hM'.1.2.2.2.1, andI]
      have hand : i &&& A 0 3 < 2 ^ 31 := Nat.lt_of_le_of_lt Nat.and_le_left (by omega)
      refine tne (b := 0) hand (by omega) (fun c => ?_) (fun c => ?_)
      · rw [if_neg c] at l20; exact l20
      · rw [if_pos c] at l20; exact l20
  exact s_X10_oddsOf_0 _ _ _ _ _ _ (l1 0 (Nat.zero_le _) σ Fr.rf)
end OD
