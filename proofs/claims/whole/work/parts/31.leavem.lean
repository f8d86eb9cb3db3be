/-! LEAVE: the reference's side -/
/-- what the reference reckons with: nothing that is told -/
def FM (σ τ : Mm) : Prop := (∀ k, k ≠ 63 → k ≠ 71 → k ≠ 72 → τ k = σ k) ∧ ∀ j, j ≠ 2 → j ≠ 18 → j ≠ 19 → j ≠ 22 → j ≠ 33 → j ≠ 1033 → τ 63 j = σ 63 j
theorem FM.rf {σ : Mm} : FM σ σ := ⟨fun _ _ _ _ => rfl, fun _ _ _ _ _ _ _ => rfl⟩
theorem FM.tr {σ τ ρ : Mm} (h1 : FM σ τ) (h2 : FM τ ρ) : FM σ ρ := ⟨fun k a b c => (h2.1 k a b c).trans (h1.1 k a b c), fun j a b c d e f => (h2.2 j a b c d e f).trans (h1.2 j a b c d e f)⟩
theorem FM.fr {L : List Nat} {σ τ : Mm} (h : Fr L σ τ) (hL : ∀ k ∈ L, k = 71 ∨ k = 72) : FM σ τ :=
  ⟨fun k _ b c => h k (fun q => by have := hL k q; omega), fun j _ _ _ _ _ _ => by rw [h 63 (fun q => by have := hL 63 q; omega)]⟩
theorem FM.up {σ : Mm} {j : Nat} {x : Int32} (hj : j = 2 ∨ j = 18 ∨ j = 19 ∨ j = 22 ∨ j = 33 ∨ j = 1033) : FM σ (up σ 63 j x) :=
  ⟨fun k a _ _ => up_ne a, fun i a b c d e f => by rw [up_eq, upd_ne (by omega)]⟩
theorem HM.fm {σ τ : Mm} {A : Ab} (h : HM σ A) (hf : FM σ τ) : HM τ A :=
  h.of (fun j hj => by
    simp only [List.mem_cons, List.not_mem_nil, or_false] at hj
    exact hf.2 j (by omega) (by omega) (by omega) (by omega) (by omega) (by omega)) (fun k hk => by
    simp only [List.mem_cons, List.not_mem_nil, or_false] at hk
    exact hf.1 k (by omega) (by omega) (by omega))
section LM
variable {E : EE} {σ : Mm} {A : Ab}
theorem p_goSundays {F N : Nat} {Q : Mm → Prop} (ok : OK A) (hM : HM σ A) (hF : F < 2 ^ 31) (hN : N ≤ 6)
    (hQ : ∀ τ, FM σ τ → τ 63 18 = nI (sm (fun p => cn (A 2 p) (st A F (A 0 0) p) N) (A 0 1)) → τ 63 19 = nI (mn (fun p => wn (A 2 p) (st A F (A 0 0) p) N) 99 (A 0 1)) → Q τ) : r_X10_goSundays_0 E (nI F) (nI N) σ Q := by
  have o1 := ok.1
  have o3 := ok.2.2.1
  have sl := sB_lt ok F (A 0 0)
  have l2 : ∀ i, i ≤ A 0 1 → ∀ τ, FM σ τ → τ 63 18 = nI (sm (fun p => cn (A 2 p) (st A F (A 0 0) p) N) (A 0 1)) → (∀ p, p < A 0 1 → τ 72 p = nI (wn (A 2 p) (st A F (A 0 0) p) N)) → τ 63 19 = nI (mn (fun p => wn (A 2 p) (st A F (A 0 0) p) N) 99 i) → r_X10_goSundays_67 E (nI F) (nI N) (nI (sB A F (A 0 0))) (nI i) τ Q := by
    refine up_to (P := fun i => ∀ τ, FM σ τ → τ 63 18 = nI (sm (fun p => cn (A 2 p) (st A F (A 0 0) p) N) (A 0 1)) → (∀ p, p < A 0 1 → τ 72 p = nI (wn (A 2 p) (st A F (A 0 0) p) N)) → τ 63 19 = nI (mn (fun p => wn (A 2 p) (st A F (A 0 0) p) N) 99 i) → r_X10_goSundays_67 E (nI F) (nI N) (nI (sB A F (A 0 0))) (nI i) τ Q) (A 0 1) ?_ ?_
    · intro τ hf h1 h2 h3
      exact s_X10_goSundays_67 _ _ _ _ _ _ _ (fe (hM.fm hf).1.2.1 (Nat.le_refl _) (by omega) (hQ τ hf h1 h3))
    · intro i hi ih τ hf h1 h2 h3
      have v6 : vp_in (nI i) 6 := vp_in_nI (by omega) (by omega)
      have ml := mn_le (f := fun p => wn (A 2 p) (st A F (A 0 0) p) N) (a := 99) i
      have wl := wn_le (s := st A F (A 0 0) i) (ok.2.2.2.2.2.2.1 i hi).2.1 N
      have e : mn (fun p => wn (A 2 p) (st A F (A 0 0) p) N) 99 (i + 1) = if wn (A 2 i) (st A F (A 0 0) i) N < mn (fun p => wn (A 2 p) (st A F (A 0 0) p) N) 99 i then wn (A 2 i) (st A F (A 0 0) i) N else mn (fun p => wn (A 2 p) (st A F (A 0 0) p) N) 99 i := rfl
      have go : ∀ x : Int32, x = nI (mn (fun p => wn (A 2 p) (st A F (A 0 0) p) N) 99 (i + 1)) → r_X10_goSundays_67 E (nI F) (nI N) (nI (sB A F (A 0 0))) (nI (i + 1)) (up τ 63 19 x) Q := by
        intro x hx
        refine ih _ (hf.tr (FM.up (by omega))) ?_ (fun p hp => ?_) ?_
        · rw [up_eq, upd_ne (by decide)]; exact h1
        · rw [up_ne (by decide)]; exact h2 p hp
        · rw [up_eq, upd_eq]; exact hx
      refine s_X10_goSundays_67 _ _ _ _ _ _ _ (fs (hM.fm hf).1.2.1 hi (by omega) ⟨v6, ?_⟩)
      rw [nI_clamp (by omega), h3, h2 i hi, nI_1]
      refine tle (by omega) (by omega) (fun c => go _ ?_) (fun c => ⟨v6, go _ ?_⟩)
      · rw [e, if_neg (by omega)]
      · rw [e, if_pos c]
  have l1 : ∀ n, n ≤ N → ∀ τ, FM σ τ → τ 63 18 = nI (sm (fun p => cn (A 2 p) (st A F (A 0 0) p) n) (A 0 1)) → (∀ p, p < A 0 1 → τ 72 p = nI (wn (A 2 p) (st A F (A 0 0) p) n)) → τ 63 19 = 99 → r_X10_goSundays_35 E (nI F) (nI N) (nI (sB A F (A 0 0))) (nI n) τ Q := by
    refine up_to (P := fun n => ∀ τ, FM σ τ → τ 63 18 = nI (sm (fun p => cn (A 2 p) (st A F (A 0 0) p) n) (A 0 1)) → (∀ p, p < A 0 1 → τ 72 p = nI (wn (A 2 p) (st A F (A 0 0) p) n)) → τ 63 19 = 99 → r_X10_goSundays_35 E (nI F) (nI N) (nI (sB A F (A 0 0))) (nI n) τ Q) N ?_ ?_
    · intro τ hf h1 h2 h3
      exact s_X10_goSundays_35 _ _ _ _ _ _ _ (fe rfl (Nat.le_refl _) (by omega) (l2 0 (Nat.zero_le _) τ hf h1 h2 h3))
    · intro n hn ih τ hf h1 h2 h3
      refine s_X10_goSundays_35 _ _ _ _ _ _ _ (fs rfl hn (by omega) ?_)
      refine p_sundayThen (u := fun p => wn (A 2 p) (st A F (A 0 0) p) n) ok (hM.fm hf) (by omega) (fun p hp => ⟨h2 p hp, wn_le (ok.2.2.2.2.2.2.1 p hp).2.1 n⟩) (fun ρ g1 g2 => ?_)
      have bl : bs (fun p => fz (wn (A 2 p) (st A F (A 0 0) p) n) (bt (sB A F (A 0 0)) p)) (A 0 1) < 64 := p64 ok (bs_lt (fun i _ => fz_le _ _))
      refine p_ones (by omega) ?_
      rw [po_bs (by omega) (fun i _ => fz_le _ _), h1, nI_add, nI_1, ← sm_fadd]
      refine ih _ ((hf.tr (FM.fr g1 (by decide))).tr (FM.up (by omega))) ?_ (fun p hp => ?_) ?_
      · rw [up_eq, upd_eq]
        congr 1
        refine sm_congr (fun p hp => ?_)
        show cn (A 2 p) (st A F (A 0 0) p) n + fz (wn (A 2 p) (st A F (A 0 0) p) n) (bt (sB A F (A 0 0)) p) = cn (A 2 p) (st A F (A 0 0) p) n + fz (wn (A 2 p) (st A F (A 0 0) p) n) (st A F (A 0 0) p)
        rw [bt_sB hp]
      · rw [up_ne (by decide), g2 p hp, bt_sB hp]; rfl
      · rw [up_eq, upd_ne (by decide), g1 63 (by decide)]; exact h3
  refine s_X10_goSundays_0 _ _ _ _ _ (p_copy_66_72 (fun τ1 a1 a2 => ?_))
  have f1 : FM σ τ1 := FM.fr a1 (by decide)
  rw [(hM.fm f1).1.1]
  have f2 : FM σ (up (up τ1 63 18 0) 63 19 99) := (f1.tr (FM.up (by omega))).tr (FM.up (by omega))
  refine p_sitsBy ok (hM.fm f2) o3 hF (fun τ2 b1 => ?_)
  refine l1 0 (Nat.zero_le _) τ2 (f2.tr (FM.fr b1 (by decide))) ?_ (fun p hp => ?_) ?_
  · rw [b1 63 (by decide), up_eq, upd_ne (by decide), up_eq, upd_eq]
    have z : sm (fun p => cn (A 2 p) (st A F (A 0 0) p) 0) (A 0 1) = sm (fun p => cn (A 2 p) (st A F (A 0 0) p) 0) 0 := sm_tail (a := 0) (Nat.zero_le _) (fun _ _ _ => rfl)
    rw [z]
    rfl
  · rw [b1 72 (by decide), up_ne (by decide), up_ne (by decide), a2 p (by omega)]; exact (hM.2.1 p hp).2.1
  · rw [b1 63 (by decide), up_eq, upd_eq]
def la (A : Ab) (N w : Nat) : Nat := if w = 0 then lf1 A N (lb A N) else if w = 1 then lf2 A N (lb A N) else lb A N
theorem p_leaveOf {N w : Nat} {Q : Int32 → Mm → Prop} (ok : OK A) (hM : HM σ A) (hP : 0 < A 0 1) (hN : N ≤ 6) (hw : w ≤ 2) (hQ : ∀ τ, FM σ τ → Q (nI (la A N w)) τ) : r_X10_leaveOf_0 E (nI N) (nI w) σ Q := by
  have o1 := ok.1
  have o2 := ok.2.1
  have hpow : 2 ^ A 0 2 ≤ 2 ^ 8 := Nat.pow_le_pow_right (by decide) o2
  have hp0 := Nat.two_pow_pos (A 0 2)
  have wt : ∀ c, c < 256 → lwt A N c < 1000000 ∧ lf1 A N c ≤ 36 ∧ lf2 A N c ≤ 20 ∧ po c ≤ 8 := fun c hc => by
    have h1 := lf1_le ok hN c
    have h2 := lf2_le (A := A) (N := N) c
    have h3 := po_le hc
    refine ⟨?_, h1, h2, h3⟩
    unfold lwt
    omega
  have key : ∀ i, i ≤ 2 ^ A 0 2 → ∀ τ, FM σ τ → r_X10_leaveOf_18 E (nI N) (nI w) (nI (2 ^ A 0 2 - 1)) (nI (lbW A N i)) (if i = 0 then -1 else nI (lwt A N (lbW A N i))) (nI i) τ Q := by
    refine up_to (P := fun i => ∀ τ, FM σ τ → r_X10_leaveOf_18 E (nI N) (nI w) (nI (2 ^ A 0 2 - 1)) (nI (lbW A N i)) (if i = 0 then -1 else nI (lwt A N (lbW A N i))) (nI i) τ Q) (2 ^ A 0 2) ?_ ?_
    · intro τ hf
      rw [if_neg (by omega)]
      have hb : lb A N < 256 := by have := lbW_le (A := A) (N := N) (2 ^ A 0 2); unfold lb; omega
      obtain ⟨h1, h2, h3, h4⟩ := wt _ hb
      have hq := hQ τ hf
      unfold la at hq
      refine s_X10_leaveOf_18 _ _ _ _ _ _ _ _ _ (tlt (by omega) (by omega) (fun _ => ?_) (fun c => by omega))
      change (¬ nI w = 0 → (¬ nI w = 1 → Q (nI (lb A N)) τ) ∧ (nI w = 1 → Q (nI (lwt A N (lb A N)) / 100 - nI (lwt A N (lb A N)) / 100 / 100 * 100) τ)) ∧ (nI w = 0 → Q (50 - nI (lwt A N (lb A N)) / 10000) τ)
      refine tne (b := 0) (by omega) (by omega) (fun c => tne (b := 1) (by omega) (by omega) (fun c2 => ?_) (fun c2 => ?_)) (fun c => ?_)
      · rw [if_neg c, if_neg c2] at hq; exact hq
      · rw [if_neg c, if_pos c2] at hq
        rw [show (100 : Int32) = nI 100 from rfl, pk_div (by omega) (by omega) (by omega), pk_rem (by omega) (by omega) (by omega)]
        rw [show lwt A N (lb A N) / 100 % 100 = lf2 A N (lb A N) by unfold lwt; omega]
        exact hq
      · rw [if_pos c] at hq
        rw [show (10000 : Int32) = nI 10000 from rfl, pk_div (by omega) (by omega) (by omega), show (50 : Int32) = nI 50 from rfl, show lwt A N (lb A N) / 10000 = 50 - lf1 A N (lb A N) by unfold lwt; omega, pk_sub (by omega), show 50 - (50 - lf1 A N (lb A N)) = lf1 A N (lb A N) by omega]
        exact hq
    · intro i hi ih τ hf
      obtain ⟨h1, h2, h3, h4⟩ := wt i (by omega)
      have hbl := lbW_le (A := A) (N := N) i
      obtain ⟨k1, k2, k3, k4⟩ := wt (lbW A N i) (by omega)
      refine s_X10_leaveOf_18 _ _ _ _ _ _ _ _ _ (tlt (by omega) (by omega) (fun c => by omega) (fun _ => ?_))
      rw [pk_sub (by omega)]
      refine p_goSundays (F := cF A i) ok (hM.fm hf) (by unfold cF; omega) hN (fun ρ g1 g2 g3 => p_ones (by omega) ?_)
      have e99 : mn (fun p => wn (A 2 p) (st A (cF A i) (A 0 0) p) N) 99 (A 0 1) = lf2 A N i := by
        obtain ⟨P, hPe⟩ : ∃ P, A 0 1 = P + 1 := ⟨A 0 1 - 1, by omega⟩
        unfold lf2
        rw [hPe]
        exact mn_eq P (fun j hj => wn_le (ok.2.2.2.2.2.2.1 j (by omega)).2.1 N)
      rw [e99] at g3
      have g2' : ρ 63 18 = nI (lf1 A N i) := g2
      have worth : ((10000 * (50 - ρ 63 18) + 100 * ρ 63 19 + 10) - nI (po i) : Int32) = nI (lwt A N i) := by
        rw [g2', g3, show (50 : Int32) = nI 50 from rfl, pk_sub (by omega), show (10000 : Int32) = nI 10000 from rfl, pk_mul, show (100 : Int32) = nI 100 from rfl, pk_mul, nI_add, show (10 : Int32) = nI 10 from rfl, nI_add, pk_sub (by omega)]
        congr 1
        unfold lwt
        omega
      rw [worth, nI_1]
      have hf2 := hf.tr g1
      have ih2 := ih ρ hf2
      rw [if_neg (by omega)] at ih2
      have e : lbW A N (i + 1) = if i = 0 then 0 else if lwt A N (lbW A N i) < lwt A N i then i else lbW A N i := rfl
      by_cases q : i = 0
      · rw [if_pos q]
        have hm1 : ¬ nI (lwt A N i) ≤ (-1 : Int32) := by
          rw [Int32.le_iff_toInt_le, toInt_nI (by omega), show (-1 : Int32).toInt = -1 by decide]
          omega
        rw [e, if_pos q] at ih2
        refine ⟨fun z => absurd z hm1, fun _ => ⟨fun z => absurd z hm1, fun _ => ?_⟩⟩
        rw [q] at ih2 ⊢
        exact ih2
      · rw [if_neg q]
        rw [e, if_neg q] at ih2
        refine tle (by omega) (by omega) (fun c => ⟨fun _ => ?_, fun z => absurd (nI_le c (by omega)) z⟩) (fun c => ⟨fun z => absurd z (nI_ge c (by omega)), fun _ => ?_⟩)
        · rw [if_neg (by omega)] at ih2; exact ih2
        · rw [if_pos c] at ih2; exact ih2
  refine s_X10_leaveOf_0 _ _ _ _ _ ?_
  rw [hM.1.2.2.1, shlI (by omega), show (1 : Int32) = nI 1 from rfl, pk_sub hp0]
  exact key 0 (Nat.zero_le _) σ FM.rf
end LM
