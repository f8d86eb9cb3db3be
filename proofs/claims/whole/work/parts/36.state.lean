/-! the state of both sides, and the calls that only ask -/
def HMk (σ : Mm) (A : Ab) : Prop := (σ 63 24 = nI (A 0 0) ∧ σ 63 25 = nI (A 0 3) ∧ σ 63 26 = nI (A 0 4) ∧ σ 63 27 = nI (A 0 5)) ∧ (∀ p, p < A 0 1 → σ 74 p = nI (A 1 p) ∧ σ 75 p = nI (A 2 p) ∧ σ 76 p = nI (A 3 p)) ∧ (∀ w, w < A 0 2 → σ 77 w = nI (A 6 w)) ∧ (∀ s, s < A 0 5 → σ 78 (3 * s) = nI (A 7 s) ∧ σ 78 (3 * s + 1) = nI (A 8 s) ∧ σ 78 (3 * s + 2) = nI (A 9 s))
def Sok (A : Ab) (pg : Nat → Nat) (L c v : Nat) (Ak : Ab) (im n : Nat) : Prop := OK A ∧ A 0 4 ≤ 999 ∧ (0 < A 0 1 → 2 ≤ A 0 1 ∧ 1 ≤ A 0 2) ∧ Pok pg L ∧ c ≤ n ∧ v ≤ 20 ∧ im ≤ 1 ∧ (im = 1 → OK Ak ∧ Ak 0 4 ≤ 999 ∧ 0 < A 0 1 ∧ Ak 0 1 = A 0 1 ∧ Ak 0 2 = A 0 2 ∧ ∀ w, w < A 0 2 → Ak 4 w = A 4 w ∧ Ak 5 w = A 5 w) ∧ n ≤ 100000
def CS (σ : Mm) (A : Ab) (pg : Nat → Nat) (L c v : Nat) (Ak : Ab) (im : Nat) : Prop := HC 14 σ A ∧ PgC σ pg L ∧ σ 0 12 = nI c ∧ σ 0 13 = nI v ∧ σ 0 11 = nI im ∧ (im = 1 → HC 24 σ Ak)
def MS (σ : Mm) (A : Ab) (pg : Nat → Nat) (L c v : Nat) (Ak : Ab) (im : Nat) : Prop := HM σ A ∧ PgM σ pg L ∧ σ 63 8 = nI c ∧ σ 63 17 = nI v ∧ ((im = 0 ∧ (σ 63 23 = -1 ∨ ∃ kc, kc < c ∧ σ 63 23 = nI kc)) ∨ (im = 1 ∧ σ 63 23 = nI c ∧ HMk σ Ak))
/-- what the class reckons with -/
def KC (σ τ : Mm) : Prop := ∀ k, (k ≤ 2 ∨ (14 ≤ k ∧ k ≤ 33) ∨ 63 ≤ k) → τ k = σ k
theorem KC.rf {σ : Mm} : KC σ σ := fun _ _ => rfl
theorem KC.tr {σ τ ρ : Mm} (h1 : KC σ τ) (h2 : KC τ ρ) : KC σ ρ := fun k hk => (h2 k hk).trans (h1 k hk)
theorem KC.fr {L : List Nat} {σ τ : Mm} (h : Fr L σ τ) (hL : ∀ k ∈ L, (3 ≤ k ∧ k ≤ 13) ∨ (34 ≤ k ∧ k ≤ 62)) : KC σ τ := fun k hk => h k (fun q => by have := hL k q; omega)
theorem CS.kc {σ τ : Mm} {A : Ab} {pg : Nat → Nat} {L c v : Nat} {Ak : Ab} {im : Nat} (h : CS σ A pg L c v Ak im) (hk : KC σ τ) : CS τ A pg L c v Ak im := by
  obtain ⟨h1, h2, h3, h4, h5, h6⟩ := h
  refine ⟨h1.of (fun r hr => hk _ (by omega)), ⟨by rw [hk 1 (by omega)]; exact h2.1, fun i hi => by rw [hk 2 (by omega)]; exact h2.2 i hi⟩, ?_, ?_, ?_, fun z => (h6 z).of (fun r hr => hk _ (by omega))⟩
  · rw [hk 0 (by omega)]; exact h3
  · rw [hk 0 (by omega)]; exact h4
  · rw [hk 0 (by omega)]; exact h5
theorem HMk.of {σ τ : Mm} {A : Ab} (h : HMk σ A) (h1 : ∀ j, 24 ≤ j → j ≤ 27 → τ 63 j = σ 63 j) (h2 : ∀ k, 74 ≤ k → k ≤ 78 → τ k = σ k) : HMk τ A := by
  obtain ⟨⟨a1, a2, a3, a4⟩, b, c, d⟩ := h
  refine ⟨⟨?_, ?_, ?_, ?_⟩, fun p hp => ?_, fun w hw => ?_, fun s hs => ?_⟩
  · rw [h1 24 (by omega) (by omega)]; exact a1
  · rw [h1 25 (by omega) (by omega)]; exact a2
  · rw [h1 26 (by omega) (by omega)]; exact a3
  · rw [h1 27 (by omega) (by omega)]; exact a4
  · rw [h2 74 (by omega) (by omega), h2 75 (by omega) (by omega), h2 76 (by omega) (by omega)]; exact b p hp
  · rw [h2 77 (by omega) (by omega)]; exact c w hw
  · rw [h2 78 (by omega) (by omega)]; exact d s hs
theorem MS.of {σ τ : Mm} {A : Ab} {pg : Nat → Nat} {L c v : Nat} {Ak : Ab} {im : Nat} (h : MS σ A pg L c v Ak im) (hM : HM σ A → HM τ A) (h1 : ∀ j, j = 1 ∨ j = 8 ∨ j = 17 ∨ (23 ≤ j ∧ j ≤ 27) → τ 63 j = σ 63 j) (h2 : ∀ k, k = 64 ∨ (74 ≤ k ∧ k ≤ 78) → τ k = σ k) : MS τ A pg L c v Ak im := by
  obtain ⟨a1, a2, a3, a4, a5⟩ := h
  refine ⟨hM a1, ⟨by rw [h1 1 (by omega)]; exact a2.1, fun i hi => by rw [h2 64 (by omega)]; exact a2.2 i hi⟩, by rw [h1 8 (by omega)]; exact a3, by rw [h1 17 (by omega)]; exact a4, ?_⟩
  rw [h1 23 (by omega)]
  rcases a5 with a5 | ⟨b1, b2, b3⟩
  · exact Or.inl a5
  · exact Or.inr ⟨b1, b2, b3.of (fun j q1 q2 => h1 j (by omega)) (fun k q1 q2 => h2 k (by omega))⟩
theorem MS.kc {σ τ : Mm} {A : Ab} {pg : Nat → Nat} {L c v : Nat} {Ak : Ab} {im : Nat} (h : MS σ A pg L c v Ak im) (hk : KC σ τ) : MS τ A pg L c v Ak im :=
  h.of (fun m => m.of (fun j _ => by rw [hk 63 (by omega)]) (fun k hk2 => hk k (by simp only [List.mem_cons, List.not_mem_nil, or_false] at hk2; omega))) (fun j _ => by rw [hk 63 (by omega)]) (fun k hk2 => hk k (by omega))
theorem MS.fm {σ τ : Mm} {A : Ab} {pg : Nat → Nat} {L c v : Nat} {Ak : Ab} {im : Nat} (h : MS σ A pg L c v Ak im) (hk : FM σ τ) : MS τ A pg L c v Ak im :=
  h.of (fun m => m.fm hk) (fun j hj => hk.2 j (by omega) (by omega) (by omega) (by omega) (by omega) (by omega)) (fun k hk2 => hk.1 k (by omega) (by omega) (by omega))
theorem CS.lo {σ τ : Mm} {A : Ab} {pg : Nat → Nat} {L c v : Nat} {Ak : Ab} {im : Nat} (h : CS σ A pg L c v Ak im) (hk : ∀ k, k < 63 → τ k = σ k) : CS τ A pg L c v Ak im := by
  obtain ⟨h1, h2, h3, h4, h5, h6⟩ := h
  refine ⟨h1.of (fun r hr => hk _ (by omega)), ⟨by rw [hk 1 (by omega)]; exact h2.1, fun i hi => by rw [hk 2 (by omega)]; exact h2.2 i hi⟩, ?_, ?_, ?_, fun z => (h6 z).of (fun r hr => hk _ (by omega))⟩
  · rw [hk 0 (by omega)]; exact h3
  · rw [hk 0 (by omega)]; exact h4
  · rw [hk 0 (by omega)]; exact h5
theorem CS.fm {σ τ : Mm} {A : Ab} {pg : Nat → Nat} {L c v : Nat} {Ak : Ab} {im : Nat} (h : CS σ A pg L c v Ak im) (hk : FM σ τ) : CS τ A pg L c v Ak im := h.lo (fun k q => hk.1 k (by omega) (by omega) (by omega))
theorem MS.hi {σ τ : Mm} {A : Ab} {pg : Nat → Nat} {L c v : Nat} {Ak : Ab} {im : Nat} (h : MS σ A pg L c v Ak im) (hk : ∀ k, 63 ≤ k → τ k = σ k) : MS τ A pg L c v Ak im :=
  h.of (fun m => m.of (fun j _ => by rw [hk 63 (by omega)]) (fun k hk2 => hk k (by simp only [List.mem_cons, List.not_mem_nil, or_false] at hk2; omega))) (fun j _ => by rw [hk 63 (by omega)]) (fun k hk2 => hk k (by omega))
/-- both sides, and all that holds of them -/
def Iv (σ : Mm) (n : Nat) : Prop := ∃ A pg L c v Ak im, Sok A pg L c v Ak im n ∧ CS σ A pg L c v Ak im ∧ MS σ A pg L c v Ak im
theorem Sok.up {A : Ab} {pg : Nat → Nat} {L c v : Nat} {Ak : Ab} {im n : Nat} (h : Sok A pg L c v Ak im n) (hn : n < 100000) : Sok A pg L c v Ak im (n + 1) := by
  obtain ⟨a1, a2, a3, a4, a5, a6, a7, a8, a9⟩ := h
  exact ⟨a1, a2, a3, a4, by omega, a6, a7, a8, by omega⟩
/-- a call that only asks -/
def QQ (A : Ab) (pg : Nat → Nat) (L c v : Nat) (Ak : Ab) (im : Nat) (fC fM : EE → Mm → (Int32 → Mm → Prop) → Prop) : Prop :=
  ∃ r : Int32, (∀ E σ Q, CS σ A pg L c v Ak im → (∀ τ, KC σ τ → Q r τ) → fC E σ Q) ∧ (∀ E σ Q, MS σ A pg L c v Ak im → (∀ τ, FM σ τ → Q r τ) → fM E σ Q)
theorem QQ.op {A : Ab} {pg : Nat → Nat} {L c v : Nat} {Ak : Ab} {im n : Nat} {fC fM : EE → Mm → (Int32 → Mm → Prop) → Prop} {E : EE} {σ : Mm} {K : Int32 → Int32 → Mm → Prop} (h : QQ A pg L c v Ak im fC fM) (hn : n < 100000) (hS : Sok A pg L c v Ak im n) (hC : CS σ A pg L c v Ak im) (hM : MS σ A pg L c v Ak im)
    (hK : ∀ r τ, Iv τ (n + 1) → K r r τ) : fC E σ (fun r τ => fM E τ (fun r' τ' => K r r' τ')) := by
  obtain ⟨r, h1, h2⟩ := h
  refine h1 E σ _ hC (fun τ k => h2 E τ _ (hM.kc k) (fun τ' f => hK r τ' ⟨A, pg, L, c, v, Ak, im, hS.up hn, (hC.kc k).fm f, (hM.kc k).fm f⟩))
section AS
variable {E : EE} {σ : Mm} {A : Ab}
theorem i64 (x : Int32) : x.toInt64.toInt = x.toInt := Int32.toInt_toInt64 x
theorem p_inI {x : Int32} {y z : Int64} {lo hi : Int} {Q : Int32 → Mm → Prop} (hy : y.toInt = lo) (hz : z.toInt = hi) (h1 : InR x lo hi → Q 1 σ) (h0 : ¬ InR x lo hi → Q 0 σ) : r_X10_in_0 E x.toInt64 y z σ Q :=
  p_in (fun a b => h1 ⟨by rw [hy, i64] at a; exact a, by rw [hz, i64] at b; exact b⟩) (fun a => h0 (fun z2 => a (by rw [hy, hz, i64]; exact z2)))
theorem p_isPerson {x : Int32} {Q : Int32 → Mm → Prop} (ok : OK A) (hM : HM σ A) (h1 : InR x 0 (A 0 1 - 1) → Q 1 σ) (h0 : ¬ InR x 0 (A 0 1 - 1) → Q 0 σ) : r_X10_isPerson_0 E x σ Q := by
  have o1 := ok.1
  refine s_X10_isPerson_0 _ _ _ _ (p_inI (lo := 0) (hi := (A 0 1 : Int) - 1) (by decide) ?_ (fun a => ⟨Or.inr rfl, h1 a⟩) (fun a => ⟨Or.inl rfl, h0 a⟩))
  rw [i64, hM.1.2.1]
  have : ∀ n : Fin 7, (nI n.1 - 1).toInt = (n.1 : Int) - 1 := by decide
  exact this ⟨A 0 1, by omega⟩
theorem p_isWrong {x : Int32} {Q : Int32 → Mm → Prop} (ok : OK A) (hM : HM σ A) (h1 : InR x 0 (A 0 2 - 1) → Q 1 σ) (h0 : ¬ InR x 0 (A 0 2 - 1) → Q 0 σ) : r_X10_isWrong_0 E x σ Q := by
  have o2 := ok.2.1
  refine s_X10_isWrong_0 _ _ _ _ (p_inI (lo := 0) (hi := (A 0 2 : Int) - 1) (by decide) ?_ (fun a => ⟨Or.inr rfl, h1 a⟩) (fun a => ⟨Or.inl rfl, h0 a⟩))
  rw [i64, hM.1.2.2.1]
  have : ∀ n : Fin 9, (nI n.1 - 1).toInt = (n.1 : Int) - 1 := by decide
  exact this ⟨A 0 2, by omega⟩
theorem p_hasWrong {x : Int32} {Q : Int32 → Mm → Prop} (ok : OK A) (hA : HC 14 σ A) (h1 : InR x 0 (A 0 2 - 1) → Q 1 σ) (h0 : ¬ InR x 0 (A 0 2 - 1) → Q 0 σ) : r_X2_hasWrong_0 E x σ Q := by
  have o2 := ok.2.1
  apply s_X2_hasWrong_0
  rw [hA.1 2 (by decide)]
  have e := toInt_nI (n := A 0 2) (by omega)
  simp only [Int32.lt_iff_toInt_lt, Int32.le_iff_toInt_le, Int32.reduceToInt, InR, e] at *
  refine ⟨fun h => h0 (by omega), fun h => ⟨fun h2 => h0 (by omega), fun h2 => h1 (by omega)⟩⟩
theorem b1 {X Y : Prop} (h : X) : (¬ (1 : Int32) = 0 → X) ∧ ((1 : Int32) = 0 → Y) := ⟨fun _ => h, fun q => absurd q (by decide)⟩
theorem b0 {X Y : Prop} (h : Y) : (¬ (0 : Int32) = 0 → X) ∧ ((0 : Int32) = 0 → Y) := ⟨fun q => absurd rfl q, fun _ => h⟩
theorem b1' {X Y : Prop} (h : X) : ((1 : Int32) = 0 → Y) ∧ (¬ (1 : Int32) = 0 → X) := ⟨fun q => absurd q (by decide), fun _ => h⟩
theorem b0' {X Y : Prop} (h : Y) : ((0 : Int32) = 0 → Y) ∧ (¬ (0 : Int32) = 0 → X) := ⟨fun _ => h, fun q => absurd rfl q⟩
theorem InR.lt {x : Int32} {P : Nat} (h : InR x 0 (P - 1)) : ∃ p : Nat, p < P ∧ x = nI p := by
  obtain ⟨n, e, h1, h2, h3⟩ := h.nat (Int.le_refl 0)
  exact ⟨n, by omega, e⟩
theorem InR.le {x : Int32} {k : Nat} (h : InR x 0 k) : ∃ p : Nat, p ≤ k ∧ x = nI p := by
  obtain ⟨n, e, h1, h2, h3⟩ := h.nat (Int.le_refl 0)
  exact ⟨n, by omega, e⟩
theorem p_guiltOf {p : Nat} {Q : Int32 → Mm → Prop} (ok : OK A) (hA : HC 14 σ A) (hp : p < A 0 1) (hQ : ∀ τ, Fr [44, 45, 46] σ τ → Q (nI (gu A (A 0 3) p)) τ) : r_X9_guiltOf_0 E (nI p) σ Q := by
  have o1 := ok.1
  have hF := p256 ok ok.2.2.2.1
  refine s_X9_guiltOf_0 _ _ _ _ ?_
  rw [show σ 14 3 = nI (A 0 3) from hA.1 3 (by decide)]
  refine p_fill14 ok hA (by omega) (fun τ g1 g2 g3 => ⟨vp_in_nI (by omega) (by omega), ?_⟩)
  rw [nI_clamp (by omega), g3 p hp]
  exact hQ τ g1
theorem p_sittersNow {Q : Int32 → Mm → Prop} (ok : OK A) (hA : HC 14 σ A) (hQ : ∀ τ, Fr [44, 45, 46] σ τ → Q (nI (sB A (A 0 3) (A 0 0))) τ) : r_X9_sittersNow_0 E σ Q := by
  have hF := p256 ok ok.2.2.2.1
  refine s_X9_sittersNow_0 _ _ _ ?_
  rw [show σ 14 3 = nI (A 0 3) from hA.1 3 (by decide)]
  refine p_fill14 ok hA (by omega) (fun τ g1 g2 g3 => ?_)
  rw [show τ 14 0 = nI (A 0 0) from (hA.fr g1 (by decide)).1 0 (by decide)]
  exact p_sitters ok ⟨g2, g3⟩ ok.2.2.1 (hQ τ g1)
theorem p_sitsNow {Q : Int32 → Mm → Prop} (ok : OK A) (hM : HM σ A) (hQ : ∀ τ, Fr [71] σ τ → Q (nI (sB A (A 0 3) (A 0 0))) τ) : r_X10_sitsNow_0 E σ Q := by
  have hF := p256 ok ok.2.2.2.1
  refine s_X10_sitsNow_0 _ _ _ ?_
  rw [hM.1.2.2.2.1, hM.1.1]
  exact p_sitsBy ok hM ok.2.2.1 (by omega) hQ
def pv (A : Ab) (p w : Nat) : Int32 := if w = 0 then nI (A 1 p) else if w = 1 then nI (A 2 p) else if w = 2 then nI (gu A (A 0 3) p) else if w = 3 then nI (st A (A 0 3) (A 0 0) p) else if w = 4 then nI (A 3 p) else if w = 5 then nI (ld A (A 0 3) p) else -102
theorem ne_of_nI {w k : Nat} (h : ¬ nI w = nI k) : w ≠ k := fun z => h (by rw [z])
theorem c_person {p w : Nat} {Q : Int32 → Mm → Prop} (ok : OK A) (hA : HC 14 σ A) (hp : p < A 0 1) (hw : w < 2 ^ 31) (hQ : ∀ τ, Fr [44, 45, 46, 47, 48] σ τ → Q (pv A p w) τ) : r_X9_person_0 E (nI p) (nI w) σ Q := by
  have o1 := ok.1
  have hF := p256 ok ok.2.2.2.1
  have v6 : vp_in (nI p) 6 := vp_in_nI (by omega) (by omega)
  refine s_X9_person_0 _ _ _ _ _ (p_hasPerson14 (hA.1 1 (by decide)) o1 (fun _ => b1 ?_) (fun z => absurd ((InR_nI (by omega)).mpr (by omega)) z))
  have e : ∀ k : Nat, k < 100 → nI w = nI k → w = k := fun k hk q => (nI_eq hw (by omega)).mp q
  rw [nI_clamp (by omega)]
  refine ⟨fun q => ?_, fun q => ?_, fun q => ?_, fun q => ?_, fun q => ?_, fun q => ?_, fun q0 q1 q2 q3 q4 q5 => ?_⟩
  · rw [e 0 (by decide) q] at hQ; rw [show σ 15 p = nI (A 1 p) from (hA.2.1 p hp).1]; exact ⟨v6, hQ σ Fr.rf⟩
  · rw [e 1 (by decide) q] at hQ; rw [show σ 16 p = nI (A 2 p) from (hA.2.1 p hp).2.1]; exact ⟨v6, hQ σ Fr.rf⟩
  · rw [e 2 (by decide) q] at hQ; exact p_guiltOf ok hA hp (fun τ g => hQ τ (g.wk (by decide)))
  · rw [e 3 (by decide) q] at hQ
    have sl := sB_lt ok (A 0 3) (A 0 0)
    refine p_sittersNow ok hA (fun τ g => p_hasBit (by omega) (by omega) ?_)
    rw [bt_sB hp]
    have hq := hQ τ (g.wk (by decide))
    have s1 := st_le A (A 0 3) (A 0 0) p
    change Q (nI (st A (A 0 3) (A 0 0) p)) τ at hq
    rcases (show st A (A 0 3) (A 0 0) p = 0 ∨ st A (A 0 3) (A 0 0) p = 1 by omega) with z | z <;> rw [z] at hq ⊢
    · exact b0' hq
    · exact b1' hq
  · rw [e 4 (by decide) q] at hQ; rw [show σ 17 p = nI (A 3 p) from (hA.2.1 p hp).2.2]; exact ⟨v6, hQ σ Fr.rf⟩
  · rw [e 5 (by decide) q] at hQ
    rw [show σ 14 3 = nI (A 0 3) from hA.1 3 (by decide)]
    refine p_gfill ok hA (by omega) (fun τ g1 g2 => ⟨v6, ?_⟩)
    rw [g2.2 p hp]
    exact hQ τ (g1.wk (by decide))
  · unfold pv at hQ
    rw [if_neg (ne_of_nI q0), if_neg (ne_of_nI q1), if_neg (ne_of_nI q2), if_neg (ne_of_nI q3), if_neg (ne_of_nI q4), if_neg (ne_of_nI q5)] at hQ
    exact hQ σ Fr.rf
theorem m_tellPerson {p w : Nat} {Q : Int32 → Mm → Prop} (ok : OK A) (hM : HM σ A) (hp : p < A 0 1) (hw : w < 2 ^ 31) (hQ : ∀ τ, Fr [71, 72] σ τ → Q (pv A p w) τ) : r_X10_tellPerson_0 E (nI p) (nI w) σ Q := by
  have o1 := ok.1
  have hF := p256 ok ok.2.2.2.1
  have v6 : vp_in (nI p) 6 := vp_in_nI (by omega) (by omega)
  have e : ∀ k : Nat, k < 100 → nI w = nI k → w = k := fun k hk q => (nI_eq hw (by omega)).mp q
  refine s_X10_tellPerson_0 _ _ _ _ _ ?_
  rw [nI_clamp (by omega), hM.1.2.2.2.1]
  refine ⟨fun q => ?_, fun q => ?_, fun q => ?_, fun q => ?_, fun q => ?_, fun q => ?_, fun q0 q1 q2 q3 q4 q5 => ?_⟩
  · rw [e 0 (by decide) q] at hQ; rw [(hM.2.1 p hp).1]; exact ⟨v6, hQ σ Fr.rf⟩
  · rw [e 1 (by decide) q] at hQ; rw [(hM.2.1 p hp).2.1]; exact ⟨v6, hQ σ Fr.rf⟩
  · rw [e 2 (by decide) q] at hQ; exact p_guiltBy ok hM hp (by omega) (hQ σ Fr.rf)
  · rw [e 3 (by decide) q] at hQ
    have sl := sB_lt ok (A 0 3) (A 0 0)
    refine p_sitsNow ok hM (fun τ g => ?_)
    rw [bitI (by omega) (by omega), bt_sB hp]
    exact hQ τ (g.wk (by decide))
  · rw [e 4 (by decide) q] at hQ; rw [(hM.2.1 p hp).2.2]; exact ⟨v6, hQ σ Fr.rf⟩
  · rw [e 5 (by decide) q] at hQ; exact p_grudgesOf ok hM hp (by omega) (hQ σ Fr.rf)
  · unfold pv at hQ
    rw [if_neg (ne_of_nI q0), if_neg (ne_of_nI q1), if_neg (ne_of_nI q2), if_neg (ne_of_nI q3), if_neg (ne_of_nI q4), if_neg (ne_of_nI q5)] at hQ
    exact hQ σ Fr.rf
theorem neg_ne {x : Int32} (h : x < 0) (k : Nat) (hk : k < 2 ^ 31) : ¬ x = nI k := fun z => by
  rw [z] at h
  exact nI_pos hk h
/-- a wrong told -/
def wv (A : Ab) (w q : Nat) : Int32 := if q = 0 then nI (A 4 w) else if q = 1 then nI (A 5 w) else if q = 2 then nI (A 6 w) else if q = 3 then nI (bt (A 0 3) w) else if q = 4 then nI (gb A w) else if q = 5 then lk A w else -102
theorem p_isForgiven {w : Nat} {Q : Int32 → Mm → Prop} (ok : OK A) (hA : HC 14 σ A) (hw : w < 8) (hQ : Q (nI (bt (A 0 3) w)) σ) : r_X2_isForgiven_0 E (nI w) σ Q := by
  have hF := p256 ok ok.2.2.2.1
  have hb := bt_le (A 0 3) w
  refine s_X2_isForgiven_0 _ _ _ _ ?_
  rw [show σ 14 3 = nI (A 0 3) from hA.1 3 (by decide)]
  refine p_hasBit (by omega) (by omega) ⟨?_, hQ⟩
  rcases (show bt (A 0 3) w = 0 ∨ bt (A 0 3) w = 1 by omega) with z | z <;> rw [z]
  · exact Or.inl rfl
  · exact Or.inr rfl
theorem c_wrong {w q : Nat} {Q : Int32 → Mm → Prop} (ok : OK A) (hA : HC 14 σ A) (hw : w < A 0 2) (hq : q < 2 ^ 31) (hQ : ∀ τ, KC σ τ → Q (wv A w q) τ) : r_X9_wrong_0 E (nI w) (nI q) σ Q := by
  have o2 := ok.2.1
  have v8 : vp_in (nI w) 8 := vp_in_nI (by omega) (by omega)
  refine s_X9_wrong_0 _ _ _ _ _ (p_hasWrong ok hA (fun _ => b1 ?_) (fun z => absurd ((InR_nI (by omega)).mpr (by omega)) z))
  have e : ∀ k : Nat, k < 100 → nI q = nI k → q = k := fun k hk z => (nI_eq hq (by omega)).mp z
  rw [nI_clamp (by omega)]
  refine ⟨fun z => ?_, fun z => ?_, fun z => ?_, fun z => ?_, fun z => ?_, fun z => ?_, fun q0 q1 q2 q3 q4 q5 => ?_⟩
  · rw [e 0 (by decide) z] at hQ; rw [show σ 18 w = nI (A 4 w) from (hA.2.2.1 w hw).1]; exact ⟨v8, hQ σ KC.rf⟩
  · rw [e 1 (by decide) z] at hQ; rw [show σ 19 w = nI (A 5 w) from (hA.2.2.1 w hw).2.1]; exact ⟨v8, hQ σ KC.rf⟩
  · rw [e 2 (by decide) z] at hQ; rw [show σ 20 w = nI (A 6 w) from (hA.2.2.1 w hw).2.2]; exact ⟨v8, hQ σ KC.rf⟩
  · rw [e 3 (by decide) z] at hQ
    have hb := bt_le (A 0 3) w
    refine p_isForgiven ok hA (by omega) ?_
    have h3 := hQ σ KC.rf
    change Q (nI (bt (A 0 3) w)) σ at h3
    rcases (show bt (A 0 3) w = 0 ∨ bt (A 0 3) w = 1 by omega) with y | y <;> rw [y] at h3 ⊢
    · exact b0' h3
    · exact b1' h3
  · rw [e 4 (by decide) z] at hQ
    refine p_gvfill ok hA hw (fun τ g1 g2 => ?_)
    rw [g2.1]
    exact hQ τ (KC.fr g1 (by decide))
  · rw [e 5 (by decide) z] at hQ
    exact p_gvfill ok hA hw (fun τ g1 g2 => p_bestRoom g2 (hQ τ (KC.fr g1 (by decide))))
  · unfold wv at hQ
    rw [if_neg (ne_of_nI q0), if_neg (ne_of_nI q1), if_neg (ne_of_nI q2), if_neg (ne_of_nI q3), if_neg (ne_of_nI q4), if_neg (ne_of_nI q5)] at hQ
    exact hQ σ KC.rf
theorem m_tellWrong {w q : Nat} {Q : Int32 → Mm → Prop} (ok : OK A) (hM : HM σ A) (hw : w < A 0 2) (hq : q < 2 ^ 31) (hQ : ∀ τ, Fr [71, 72] σ τ → Q (wv A w q) τ) : r_X10_tellWrong_0 E (nI w) (nI q) σ Q := by
  have o2 := ok.2.1
  have hF := p256 ok ok.2.2.2.1
  have v8 : vp_in (nI w) 8 := vp_in_nI (by omega) (by omega)
  have e : ∀ k : Nat, k < 100 → nI q = nI k → q = k := fun k hk z => (nI_eq hq (by omega)).mp z
  refine s_X10_tellWrong_0 _ _ _ _ _ ?_
  rw [nI_clamp (by omega), hM.1.2.2.2.1, bitI (by omega) (by omega)]
  refine ⟨fun z => ?_, fun z => ?_, fun z => ?_, fun z => ?_, fun z => ?_, fun z => ?_, fun q0 q1 q2 q3 q4 q5 => ?_⟩
  · rw [e 0 (by decide) z] at hQ; rw [(hM.2.2.1 w hw).1]; exact ⟨v8, hQ σ Fr.rf⟩
  · rw [e 1 (by decide) z] at hQ; rw [(hM.2.2.1 w hw).2.1]; exact ⟨v8, hQ σ Fr.rf⟩
  · rw [e 2 (by decide) z] at hQ; rw [(hM.2.2.1 w hw).2.2]; exact ⟨v8, hQ σ Fr.rf⟩
  · rw [e 3 (by decide) z] at hQ; exact hQ σ Fr.rf
  · rw [e 4 (by decide) z] at hQ; exact p_gravesOf ok hM hw (fun τ g => hQ τ (g.wk (by decide)))
  · rw [e 5 (by decide) z] at hQ; exact p_lookOf ok hM hw (fun τ g => hQ τ (g.wk (by decide)))
  · unfold wv at hQ
    rw [if_neg (ne_of_nI q0), if_neg (ne_of_nI q1), if_neg (ne_of_nI q2), if_neg (ne_of_nI q3), if_neg (ne_of_nI q4), if_neg (ne_of_nI q5)] at hQ
    exact hQ σ Fr.rf
/-- counts -/
def cv (A : Ab) (L c v w : Nat) : Int32 := if w = 0 then nI (A 0 1) else if w = 1 then nI (A 0 2) else if w = 2 then nI (A 0 0) else if w = 3 then nI (po (sB A (A 0 3) (A 0 0))) else if w = 4 then nI (sm (fun p => A 2 p) (A 0 1)) else if w = 5 then nI (sm (fun p => gu A (A 0 3) p) (A 0 1)) else if w = 6 then nI (po (A 0 3)) else if w = 7 then nI (A 0 4) else if w = 8 then nI (sm (fun p => A 3 p) (A 0 1)) else if w = 9 then nI (A 0 5) else if w = 10 then nI L else if w = 11 then nI c else if w = 12 then nI v else -102
theorem c_count {pg : Nat → Nat} {L c v w : Nat} {Ak : Ab} {im : Nat} {Q : Int32 → Mm → Prop} (ok : OK A) (hC : CS σ A pg L c v Ak im) (hw : w < 2 ^ 31) (hQ : ∀ τ, KC σ τ → Q (cv A L c v w) τ) : r_X9_count_0 E (nI w) σ Q := by
  have hF := p256 ok ok.2.2.2.1
  have hA := hC.1
  have sl := sB_lt ok (A 0 3) (A 0 0)
  have e : ∀ k : Nat, k < 100 → nI w = nI k → w = k := fun k hk z => (nI_eq hw (by omega)).mp z
  refine s_X9_count_0 _ _ _ _ ⟨fun z => ?_, fun z => ?_, fun z => ?_, fun z => ?_, fun z => ?_, fun z => ?_, fun z => ?_, fun z => ?_, fun z => ?_, fun z => ?_, fun z => ?_, fun z => ?_, fun z => ?_, fun q0 q1 q2 q3 q4 q5 q6 q7 q8 q9 q10 q11 q12 => ?_⟩
  · rw [e 0 (by decide) z] at hQ; rw [hA.1 1 (by decide)]; exact hQ σ KC.rf
  · rw [e 1 (by decide) z] at hQ; rw [hA.1 2 (by decide)]; exact hQ σ KC.rf
  · rw [e 2 (by decide) z] at hQ; rw [hA.1 0 (by decide)]; exact hQ σ KC.rf
  · rw [e 3 (by decide) z] at hQ; exact p_sittersNow ok hA (fun τ g => p_bc (by omega) (hQ τ (KC.fr g (by decide))))
  · rw [e 4 (by decide) z] at hQ; exact p_allWarm14 ok hA (hQ σ KC.rf)
  · rw [e 5 (by decide) z] at hQ
    rw [show σ 14 3 = nI (A 0 3) from hA.1 3 (by decide)]
    exact p_fill14 ok hA (by omega) (fun τ g1 g2 g3 => p_allGuilt ok ⟨g2, g3⟩ (hQ τ (KC.fr g1 (by decide))))
  · rw [e 6 (by decide) z] at hQ; rw [show σ 14 3 = nI (A 0 3) from hA.1 3 (by decide)]; exact p_bc hF (hQ σ KC.rf)
  · rw [e 7 (by decide) z] at hQ; rw [hA.1 4 (by decide)]; exact hQ σ KC.rf
  · rw [e 8 (by decide) z] at hQ; exact p_allFroze ok hA (hQ σ KC.rf)
  · rw [e 9 (by decide) z] at hQ; rw [hA.1 5 (by decide)]; exact hQ σ KC.rf
  · rw [e 10 (by decide) z] at hQ; rw [hC.2.1.1]; exact hQ σ KC.rf
  · rw [e 11 (by decide) z] at hQ; rw [hC.2.2.1]; exact hQ σ KC.rf
  · rw [e 12 (by decide) z] at hQ; rw [hC.2.2.2.1]; exact hQ σ KC.rf
  · unfold cv at hQ
    rw [if_neg (ne_of_nI q0), if_neg (ne_of_nI q1), if_neg (ne_of_nI q2), if_neg (ne_of_nI q3), if_neg (ne_of_nI q4), if_neg (ne_of_nI q5), if_neg (ne_of_nI q6), if_neg (ne_of_nI q7), if_neg (ne_of_nI q8), if_neg (ne_of_nI q9), if_neg (ne_of_nI q10), if_neg (ne_of_nI q11), if_neg (ne_of_nI q12)] at hQ
    exact hQ σ KC.rf
theorem m_countOf {pg : Nat → Nat} {L c v w : Nat} {Ak : Ab} {im : Nat} {Q : Int32 → Mm → Prop} (ok : OK A) (hC : MS σ A pg L c v Ak im) (hw : w < 2 ^ 31) (hQ : ∀ τ, Fr [71, 72] σ τ → Q (cv A L c v w) τ) : r_X10_countOf_0 E (nI w) σ Q := by
  have hF := p256 ok ok.2.2.2.1
  have hM := hC.1
  have sl := sB_lt ok (A 0 3) (A 0 0)
  have e : ∀ k : Nat, k < 100 → nI w = nI k → w = k := fun k hk z => (nI_eq hw (by omega)).mp z
  refine s_X10_countOf_0 _ _ _ _ ⟨fun z => ?_, fun z => ?_, fun z => ?_, fun z => ?_, fun z => ?_, fun z => ?_, fun z => ?_, fun z => ?_, fun z => ?_, fun z => ?_, fun z => ?_, fun z => ?_, fun z => ?_, fun q0 q1 q2 q3 q4 q5 q6 q7 q8 q9 q10 q11 q12 => ?_⟩
  · rw [e 0 (by decide) z] at hQ; rw [hM.1.2.1]; exact hQ σ Fr.rf
  · rw [e 1 (by decide) z] at hQ; rw [hM.1.2.2.1]; exact hQ σ Fr.rf
  · rw [e 2 (by decide) z] at hQ; rw [hM.1.1]; exact hQ σ Fr.rf
  · rw [e 3 (by decide) z] at hQ; exact p_sitsNow ok hM (fun τ g => p_ones (by omega) (hQ τ (g.wk (by decide))))
  · rw [e 4 (by decide) z] at hQ; exact p_warmAll_66 ok hM (fun p hp => (hM.2.1 p hp).2.1) (hQ σ Fr.rf)
  · rw [e 5 (by decide) z] at hQ; exact p_guiltAll ok hM (hQ σ Fr.rf)
  · rw [e 6 (by decide) z] at hQ; rw [hM.1.2.2.2.1]; exact p_ones (by omega) (hQ σ Fr.rf)
  · rw [e 7 (by decide) z] at hQ; rw [hM.1.2.2.2.2.1]; exact hQ σ Fr.rf
  · rw [e 8 (by decide) z] at hQ; exact p_warmAll_67 ok hM (fun p hp => (hM.2.1 p hp).2.2) (hQ σ Fr.rf)
  · rw [e 9 (by decide) z] at hQ; rw [hM.1.2.2.2.2.2]; exact hQ σ Fr.rf
  · rw [e 10 (by decide) z] at hQ; rw [hC.2.1.1]; exact hQ σ Fr.rf
  · rw [e 11 (by decide) z] at hQ; rw [hC.2.2.1]; exact hQ σ Fr.rf
  · rw [e 12 (by decide) z] at hQ; rw [hC.2.2.2.1]; exact hQ σ Fr.rf
  · unfold cv at hQ
    rw [if_neg (ne_of_nI q0), if_neg (ne_of_nI q1), if_neg (ne_of_nI q2), if_neg (ne_of_nI q3), if_neg (ne_of_nI q4), if_neg (ne_of_nI q5), if_neg (ne_of_nI q6), if_neg (ne_of_nI q7), if_neg (ne_of_nI q8), if_neg (ne_of_nI q9), if_neg (ne_of_nI q10), if_neg (ne_of_nI q11), if_neg (ne_of_nI q12)] at hQ
    exact hQ σ Fr.rf
end AS
