/-! THE PAGE: what a chapel's letters are (pure), and both readers -/
def kb (c : Nat) : Nat := if c = 112 then 0 else if c = 103 then 1 else if c = 104 then 2 else if c = 98 then 3 else if c = 115 then 4 else 9
/-- where the people end: the place of the second semicolon; 0: not yet -/
def es (pg : Nat → Nat) : Nat → Nat
  | 0 => 0
  | i + 1 => if es pg i = 0 ∧ 2 ≤ i ∧ (i - 2) % 3 = 2 ∧ pg i = 59 then i else es pg i
def gd (pg : Nat → Nat) (e i : Nat) : Prop :=
  if i = 0 then 49 ≤ pg 0 ∧ pg 0 ≤ 54
  else if i = 1 then pg 1 = 59
  else if e = 0 then (if (i - 2) % 3 = 0 then kb (pg i) ≤ 4 else if (i - 2) % 3 = 1 then 48 ≤ pg i ∧ pg i ≤ 57 else (pg i = 59 ∧ 2 < i - 2) ∨ (pg i = 44 ∧ i - 2 < 17))
  else (if (i - e - 1) % 4 = 0 then 48 ≤ pg i ∧ pg i < 48 + (e - 1) / 3 else if (i - e - 1) % 4 = 1 then (48 ≤ pg i ∧ pg i < 48 + (e - 1) / 3) ∧ pg i ≠ pg (i - 1) else if (i - e - 1) % 4 = 2 then 49 ≤ pg i ∧ pg i ≤ 57 else pg i = 44 ∧ i - e - 1 < 31)
def gA (pg : Nat → Nat) (i : Nat) : Prop := gd pg (es pg i) i
def Ft (pg : Nat → Nat) (L n : Nat) : Prop := n ≤ L ∧ (∀ i, i < n → gA pg i) ∧ (n = L ∨ ¬ gA pg n)
theorem Ft.uniq {pg : Nat → Nat} {L n m : Nat} (h1 : Ft pg L n) (h2 : Ft pg L m) : n = m := by
  obtain ⟨a1, a2, a3⟩ := h1
  obtain ⟨b1, b2, b3⟩ := h2
  rcases Nat.lt_trichotomy n m with q | q | q
  · rcases a3 with a3 | a3
    · omega
    · exact absurd (b2 n q) a3
  · exact q
  · rcases b3 with b3 | b3
    · omega
    · exact absurd (a2 m q) b3
def eF (e i : Nat) : Prop := (e = 0 ∧ i ≤ 19) ∨ (7 ≤ e ∧ e ≤ 19 ∧ e % 3 = 1 ∧ e < i ∧ i ≤ e + 32)
theorem es_F {pg : Nat → Nat} : ∀ n, (∀ i, i < n → gA pg i) → eF (es pg n) n
  | 0, _ => Or.inl ⟨rfl, by omega⟩
  | i + 1, h => by
    have ih := es_F (pg := pg) i (fun j hj => h j (by omega))
    have hg := h i (by omega)
    unfold gA gd at hg
    show eF (if es pg i = 0 ∧ 2 ≤ i ∧ (i - 2) % 3 = 2 ∧ pg i = 59 then i else es pg i) (i + 1)
    generalize es pg i = e at ih hg ⊢
    rcases ih with ⟨h1, h2⟩ | ⟨h1, h2, h3, h4, h5⟩
    · by_cases c : e = 0 ∧ 2 ≤ i ∧ (i - 2) % 3 = 2 ∧ pg i = 59
      · rw [if_pos c]
        obtain ⟨-, c2, c3, c4⟩ := c
        rw [if_neg (by omega), if_neg (by omega), if_pos h1, if_neg (by omega), if_neg (by omega)] at hg
        unfold eF
        omega
      · rw [if_neg c]
        refine Or.inl ⟨h1, ?_⟩
        by_cases q : i = 19
        · exfalso
          subst q
          rw [if_neg (by decide), if_neg (by decide), if_pos h1, if_neg (by decide), if_neg (by decide)] at hg
          apply c
          omega
        · omega
    · rw [if_neg (by omega)]
      refine Or.inr ⟨h1, h2, h3, by omega, ?_⟩
      by_cases q : i = e + 32
      · exfalso
        rw [if_neg (by omega), if_neg (by omega), if_neg (by omega), if_neg (by omega), if_neg (by omega), if_neg (by omega)] at hg
        omega
      · omega
theorem es_keep {pg : Nat → Nat} {i : Nat} (h : es pg i ≠ 0) : ∀ j, i ≤ j → es pg j = es pg i := by
  intro j
  induction j with
  | zero => intro hj; rw [show i = 0 by omega]
  | succ j ih =>
    intro hj
    by_cases e : i = j + 1
    · rw [e]
    · have := ih (by omega)
      show (if es pg j = 0 ∧ 2 ≤ j ∧ (j - 2) % 3 = 2 ∧ pg j = 59 then j else es pg j) = es pg i
      rw [if_neg (by omega)]
      exact this
theorem es_back {pg : Nat → Nat} : ∀ n, es pg n ≠ 0 → (∀ j, j ≤ es pg n → es pg j = 0) ∧ ∀ j, es pg n < j → j ≤ n → es pg j = es pg n
  | 0, h => absurd rfl h
  | i + 1, h => by
    by_cases c : es pg i = 0 ∧ 2 ≤ i ∧ (i - 2) % 3 = 2 ∧ pg i = 59
    · have e : es pg (i + 1) = i := if_pos c
      rw [e]
      refine ⟨fun j hj => ?_, fun j h1 h2 => ?_⟩
      · apply Classical.byContradiction
        intro hne
        have := es_keep hne i hj
        omega
      · rw [show j = i + 1 by omega]; exact e
    · have e : es pg (i + 1) = es pg i := if_neg c
      rw [e] at h ⊢
      obtain ⟨h1, h2⟩ := es_back i h
      refine ⟨h1, fun j a b => ?_⟩
      by_cases q : j = i + 1
      · rw [q]; exact e
      · exact h2 j a (by omega)
/-- the chapel that a page is -/
def Ap (pg : Nat → Nat) (L : Nat) : Ab := fun r j =>
  if r = 0 then (if j = 0 then pg 0 - 48 else if j = 1 then (es pg L - 1) / 3 else if j = 2 then (L - es pg L) / 4 else 0)
  else if r = 1 then kb (pg (2 + 3 * j))
  else if r = 2 then pg (3 + 3 * j) - 48
  else if r = 4 then pg (es pg L + 1 + 4 * j) - 48
  else if r = 5 then pg (es pg L + 2 + 4 * j) - 48
  else if r = 6 then pg (es pg L + 3 + 4 * j) - 48
  else 0
theorem Ap_OK {pg : Nat → Nat} {L : Nat} (hg : ∀ i, i < L → gA pg i) (he : es pg L ≠ 0) (h4 : (L - es pg L) % 4 = 0) : OK (Ap pg L) ∧ 2 ≤ Ap pg L 0 1 ∧ 1 ≤ Ap pg L 0 2 ∧ 1 ≤ Ap pg L 0 0 := by
  have hF := es_F L hg
  obtain ⟨b1, b2⟩ := es_back L he
  have p0 := hg 0 (by unfold eF at hF; omega)
  unfold gA gd at p0
  rw [if_pos rfl] at p0
  have key : ∀ i, i < L → gd pg (es pg i) i := fun i hi => hg i hi
  generalize hee : es pg L = e at hF he h4 b1 b2
  have a1 : Ap pg L 0 1 = (e - 1) / 3 := by rw [← hee]; rfl
  have a2 : Ap pg L 0 2 = (L - e) / 4 := by rw [← hee]; rfl
  have a0 : Ap pg L 0 0 = pg 0 - 48 := rfl
  have hF2 : 7 ≤ e ∧ e ≤ 19 ∧ e % 3 = 1 ∧ e < L ∧ L ≤ e + 32 := by
    rcases hF with ⟨z, -⟩ | hF
    · exact absurd z he
    · exact hF
  obtain ⟨f1, f2, f3, f4, f5⟩ := hF2
  refine ⟨⟨by omega, by omega, by omega, ?_, ?_, ?_, fun p hp => ?_, fun w hw => ?_, fun s hs => ?_⟩, by omega, by omega, by omega⟩
  · show 0 < 2 ^ Ap pg L 0 2; exact Nat.two_pow_pos _
  · show 0 ≤ 2000; omega
  · show 0 ≤ 6; omega
  · have k1 := key (2 + 3 * p) (by omega)
    have k2 := key (3 + 3 * p) (by omega)
    rw [b1 _ (by omega)] at k1 k2
    unfold gd at k1 k2
    rw [if_neg (by omega), if_neg (by omega), if_pos rfl, if_pos (by omega)] at k1
    rw [if_neg (by omega), if_neg (by omega), if_pos rfl, if_neg (by omega), if_pos (by omega)] at k2
    refine ⟨k1, ?_, Nat.zero_le _⟩
    show pg (3 + 3 * p) - 48 ≤ 20
    omega
  · have k1 := key (e + 1 + 4 * w) (by omega)
    have k2 := key (e + 2 + 4 * w) (by omega)
    have k3 := key (e + 3 + 4 * w) (by omega)
    rw [b2 _ (by omega) (by omega)] at k1 k2 k3
    unfold gd at k1 k2 k3
    rw [if_neg (by omega), if_neg (by omega), if_neg (by omega), if_pos (by omega)] at k1
    rw [if_neg (by omega), if_neg (by omega), if_neg (by omega), if_neg (by omega), if_pos (by omega)] at k2
    rw [if_neg (by omega), if_neg (by omega), if_neg (by omega), if_neg (by omega), if_neg (by omega), if_pos (by omega)] at k3
    rw [a1]
    have r4 : Ap pg L 4 w = pg (e + 1 + 4 * w) - 48 := by rw [← hee]; rfl
    have r5 : Ap pg L 5 w = pg (e + 2 + 4 * w) - 48 := by rw [← hee]; rfl
    have r6 : Ap pg L 6 w = pg (e + 3 + 4 * w) - 48 := by rw [← hee]; rfl
    rw [r4, r5, r6]
    omega
  · have : Ap pg L 0 5 = 0 := rfl
    omega
def nxt (e i : Nat) : Nat := if e = 0 then (if i = 0 then 0 else if i = 1 then 1 else if (i - 2) % 3 = 0 then 2 else if (i - 2) % 3 = 1 then 3 else 4) else (if (i - e - 1) % 4 = 0 then 5 else if (i - e - 1) % 4 = 1 then 6 else if (i - e - 1) % 4 = 2 then 7 else 8)
def pcn (e i : Nat) : Nat := if e = 0 then (i - 1) / 3 else (e - 1) / 3
def wcn (e i : Nat) : Nat := if e = 0 then 0 else (i - e) / 4
/-- the draft -/
def Dr (σ : Mm) (pg : Nat → Nat) (e i : Nat) : Prop :=
  σ 3 1 = nI (nxt e i) ∧ σ 4 1 = nI (pcn e i) ∧ σ 4 2 = nI (wcn e i) ∧ (1 ≤ i → σ 4 0 = nI (pg 0 - 48)) ∧ (σ 4 3 = 0 ∧ σ 4 4 = 0 ∧ σ 4 5 = 0) ∧
  (∀ p, 2 + 3 * p < i → (e = 0 ∨ 2 + 3 * p < e) → σ 5 p = nI (kb (pg (2 + 3 * p)))) ∧
  (∀ p, 3 + 3 * p < i → (e = 0 ∨ 3 + 3 * p < e) → σ 6 p = nI (pg (3 + 3 * p) - 48) ∧ σ 7 p = 0) ∧
  (∀ w, e ≠ 0 → e + 1 + 4 * w < i → σ 8 w = nI (pg (e + 1 + 4 * w) - 48)) ∧
  (∀ w, e ≠ 0 → e + 2 + 4 * w < i → σ 9 w = nI (pg (e + 2 + 4 * w) - 48)) ∧
  (∀ w, e ≠ 0 → e + 3 + 4 * w < i → σ 10 w = nI (pg (e + 3 + 4 * w) - 48))
section PG
variable {E : EE} {σ : Mm} {pg : Nat → Nat}
theorem p_digitOf {c : Nat} {Q : Int32 → Mm → Prop} (hc : c < 2 ^ 31) (h1 : 48 ≤ c → c ≤ 57 → Q (nI (c - 48)) σ) (h0 : ¬ (48 ≤ c ∧ c ≤ 57) → Q (-1) σ) : r_X9_digitOf_0 E (nI c) σ Q := by
  refine s_X9_digitOf_0 _ _ _ _ (tlt (b := 48) hc (by omega) (fun a => h0 (by omega)) (fun a => tlt (a := 57) (by omega) hc (fun b => h0 (by omega)) (fun b => ?_)))
  rw [show (48 : Int32) = nI 48 from rfl, pk_sub a]
  exact h1 a b
theorem p_goesOn0 {v : Int32} {Q : Int32 → Mm → Prop} (h : Q 0 σ) : r_X7_goesOn_0 E 0 v σ Q := s_X7_goesOn_0 _ _ _ _ _ ⟨fun _ => ⟨Or.inl rfl, h⟩, fun q => absurd rfl q⟩
theorem p_goesOn1 {v : Int32} {Q : Int32 → Mm → Prop} (h : Q 1 (up σ 3 1 v)) : r_X7_goesOn_0 E 1 v σ Q := s_X7_goesOn_0 _ _ _ _ _ ⟨fun q => absurd q (by decide), fun _ => ⟨Or.inr rfl, h⟩⟩
def kI (c : Nat) : Int32 := if kb c = 9 then -1 else nI (kb c)
theorem i8_all : ∀ c : Fin 128, (nI c.1).toInt8.toInt32 = nI c.1 := by decide +kernel
theorem p_indexOf {c : Nat} {Q : Int32 → Mm → Prop} (hc : c < 127) (h : Q (kI c) σ) : r_J0_indexOf_0f7a4_0 E (nI c) σ Q := by
  refine s_J0_indexOf_0f7a4_0 _ _ _ _ (s_J0_indexOf_7cf53_0 _ _ _ _ _ (s_J0_isLatin1_aae02_0 _ _ _ ⟨fun q => absurd q (by decide), fun _ => s_J0_length_8abf5_0 _ _ _ (s_J0_coder_7d493_0 _ _ _ ?_)⟩))
  rw [show (5 : Int32) >>> ((0 : Int32) &&& 31) = nI 5 by decide]
  refine s_J1_indexOf_4cfef_0 _ _ _ _ _ _ (s_J1_canEncode_9a6ad_0 _ _ _ _ (tlt (b := 0) (by omega) (by omega) (fun q => by omega) (fun _ => tlt (a := 255) (by omega) (by omega) (fun q => by omega) (fun _ => ⟨fun _ => ?_, fun q => absurd q (by decide)⟩))))
  rw [show (if (0 : Int32) < 0 then (0 : Int32) else 0) = nI 0 by decide, show (if (5 : Int32) < nI 5 then (5 : Int32) else nI 5) = nI 5 by decide]
  refine ⟨fun _ => s_J1_indexOfChar_4cfef_0 _ _ _ _ _ _ ?_, fun q => absurd (by decide) q⟩
  rw [i8_all ⟨c, by omega⟩]
  have stp : ∀ i, i < 5 → (∀ v : Nat, byK i = nI v → v < 200 → (v ≠ c → r_J1_indexOfChar_4cfef_7 E (nI c) (nI 0) (nI 5) (nI c) (nI (i + 1)) σ Q) ∧ (v = c → Q (nI i) σ) → r_J1_indexOfChar_4cfef_7 E (nI c) (nI 0) (nI 5) (nI c) (nI i) σ Q) := by
    intro i hi v hv hv2 hk
    refine s_J1_indexOfChar_4cfef_7 _ _ _ _ _ _ _ _ (fs (n := 5) rfl hi (by omega) ⟨vp_in_nI hi (by omega), ?_⟩)
    rw [nI_clamp (by omega), hv, nI_1]
    exact tne (by omega) (by omega) hk.1 hk.2
  unfold kI kb at h
  refine stp 0 (by decide) 112 rfl (by decide) ⟨fun n0 => stp 1 (by decide) 103 rfl (by decide) ⟨fun n1 => stp 2 (by decide) 104 rfl (by decide) ⟨fun n2 => stp 3 (by decide) 98 rfl (by decide) ⟨fun n3 => stp 4 (by decide) 115 rfl (by decide) ⟨fun n4 => ?_, fun z => ?_⟩, fun z => ?_⟩, fun z => ?_⟩, fun z => ?_⟩, fun z => ?_⟩
  · refine s_J1_indexOfChar_4cfef_7 _ _ _ _ _ _ _ _ (fe (n := 5) rfl (by omega) (by omega) ?_)
    rw [if_neg (Ne.symm n0), if_neg (Ne.symm n1), if_neg (Ne.symm n2), if_neg (Ne.symm n3), if_neg (Ne.symm n4)] at h
    exact h
  · subst z; exact h
  · subst z; exact h
  · subst z; exact h
  · subst z; exact h
  · subst z; exact h
theorem kb_cases (c : Nat) : kb c ≤ 4 ∨ kb c = 9 := by unfold kb; (repeat' split) <;> omega
theorem p_kindBy {c : Nat} {Q : Int32 → Mm → Prop} (hc : c < 2 ^ 31) (h : Q (kI c) σ) : r_X10_kindBy_0 E (nI c) σ Q := by
  have e : ∀ n : Nat, n < 200 → (nI c = nI n ↔ c = n) := fun n hn => nI_eq hc (by omega)
  refine s_X10_kindBy_0 _ _ _ _ ⟨fun q => ?_, fun q => ?_, fun q => ?_, fun q => ?_, fun q => ?_, fun q1 q2 q3 q4 q5 => ?_⟩
  · rw [(e 98 (by decide)).mp q] at h; exact h
  · rw [(e 103 (by decide)).mp q] at h; exact h
  · rw [(e 104 (by decide)).mp q] at h; exact h
  · rw [(e 112 (by decide)).mp q] at h; exact h
  · rw [(e 115 (by decide)).mp q] at h; exact h
  · unfold kI kb at h
    have n1 : c ≠ 98 := fun z => q1 (by rw [z]; rfl)
    have n2 : c ≠ 103 := fun z => q2 (by rw [z]; rfl)
    have n3 : c ≠ 104 := fun z => q3 (by rw [z]; rfl)
    have n4 : c ≠ 112 := fun z => q4 (by rw [z]; rfl)
    have n5 : c ≠ 115 := fun z => q5 (by rw [z]; rfl)
    rw [if_neg n4, if_neg n2, if_neg n3, if_neg n1, if_neg n5] at h
    exact h
theorem p_hasPerson4 {P : Nat} {x : Int32} {Q : Int32 → Mm → Prop} (hP : σ 4 1 = nI P) (hb : P ≤ 6) (h1 : InR x 0 (P - 1) → Q 1 σ) (h0 : ¬ InR x 0 (P - 1) → Q 0 σ) : r_X2_hasPerson_4_0 E x σ Q := by
  apply s_X2_hasPerson_4_0
  rw [hP]
  have e := toInt_nI (n := P) (by omega)
  simp only [Int32.lt_iff_toInt_lt, Int32.le_iff_toInt_le, Int32.reduceToInt, InR, e] at *
  refine ⟨fun h => h0 (by omega), fun h => ⟨fun h2 => h0 (by omega), fun h2 => h1 (by omega)⟩⟩
theorem i2c_nI {c : Nat} (h : c < 127) : ((nI c).toUInt32 % 65536).toInt32 = nI c := by
  rw [pk_char, pk_tn (by omega), Nat.mod_eq_of_lt (by omega)]
theorem m1_InR {a : Int} : ¬ InR (-1) 0 a := fun h => by
  have := h.1
  rw [show (-1 : Int32).toInt = -1 by decide] at this
  omega
theorem m1_lt0 : (-1 : Int32) < 0 := by decide
/-- a letter is taken, or not -/
theorem p_takes {e i : Nat} {Q : Int32 → Mm → Prop} (hc1 : 1 ≤ pg i) (hc2 : pg i ≤ 126) (hprev : ∀ j, j < i → gd pg (if j ≤ e ∨ e = 0 then 0 else e) j) (hF : eF e i) (hD : Dr σ pg e i)
    (hok : gd pg e i → ∀ τ, Fr [3, 4, 5, 6, 7, 8, 9, 10] σ τ → Dr τ pg (if e = 0 ∧ 2 ≤ i ∧ (i - 2) % 3 = 2 ∧ pg i = 59 then i else e) (i + 1) → Q 1 τ) (hno : ¬ gd pg e i → ∀ τ, Fr [3, 4, 5, 6, 7, 8, 9, 10] σ τ → Q 0 τ) : r_X7_takes_0 E (nI (pg i)) σ Q := by
  obtain ⟨d1, d2, d3, d4, ⟨d50, d51, d52⟩, d6, d7, d8, d9, d10⟩ := hD
  refine s_X7_takes_0 _ _ _ _ ?_
  rw [d1]
  by_cases he : e = 0
  · subst he
    have hi19 : i ≤ 19 := by unfold eF at hF; omega
    have e2 : σ 4 2 = 0 := d3
    by_cases i0 : i = 0
    · subst i0
      rw [show nxt 0 0 = 0 from rfl]
      refine ⟨fun _ => ?_, fun q => absurd q (by decide), fun q => absurd q (by decide), fun q => absurd q (by decide), fun q => absurd q (by decide), fun q => absurd q (by decide), fun q => absurd q (by decide), fun q => absurd q (by decide), fun q => absurd rfl q⟩
      have g0 : gd pg 0 0 ↔ 49 ≤ pg 0 ∧ pg 0 ≤ 54 := by unfold gd; rw [if_pos rfl]
      refine p_digitOf (by omega) (fun a b => ?_) (fun a => ?_)
      · refine s_X7_takesRoom_0 _ _ _ _ (p_isRoom (fun r => p_goesOn1 ⟨Or.inr rfl, Or.inr rfl, ?_⟩) (fun r => p_goesOn0 ⟨Or.inl rfl, Or.inl rfl, ?_⟩))
        · rw [InR_nI (by omega)] at r
          refine hok (g0.mpr (by omega)) _ ((Fr.up (by decide)).tr (Fr.up (by decide))) ?_
          rw [if_neg (by omega)]
          refine ⟨rfl, d2, d3, fun _ => rfl, ⟨d50, d51, d52⟩, fun p hp => by omega, fun p hp => by omega, fun w z => absurd rfl z, fun w z => absurd rfl z, fun w z => absurd rfl z⟩
        · rw [InR_nI (by omega)] at r
          exact hno (fun z => by have := g0.mp z; omega) _ (Fr.up (by decide))
      · refine s_X7_takesRoom_0 _ _ _ _ (p_isRoom (fun r => ?_) (fun r => p_goesOn0 ⟨Or.inl rfl, Or.inl rfl, ?_⟩))
        · exfalso
          have := r.1
          rw [show (-1 : Int32).toInt = -1 by decide] at this
          omega
        · exact hno (fun z => by have := g0.mp z; omega) _ (Fr.up (by decide))
    · by_cases i1 : i = 1
      · subst i1
        rw [show nxt 0 1 = 1 from rfl]
        have g1 : gd pg 0 1 ↔ pg 1 = 59 := by unfold gd; rw [if_neg (by decide), if_pos rfl]
        refine ⟨fun q => absurd q (by decide), fun _ => ?_, fun q => absurd q (by decide), fun q => absurd q (by decide), fun q => absurd q (by decide), fun q => absurd q (by decide), fun q => absurd q (by decide), fun q => absurd q (by decide), fun _ q => absurd rfl q⟩
        refine tne (b := 59) (by omega) (by omega) (fun c => p_goesOn0 ⟨Or.inl rfl, hno (fun z => c (g1.mp z)) _ Fr.rf⟩) (fun c => p_goesOn1 ⟨Or.inr rfl, hok (g1.mpr c) _ (Fr.up (by decide)) ?_⟩)
        rw [if_neg (by omega)]
        refine ⟨rfl, d2, d3, fun _ => d4 (by omega), ⟨d50, d51, d52⟩, fun p hp => by omega, fun p hp => by omega, fun w z => absurd rfl z, fun w z => absurd rfl z, fun w z => absurd rfl z⟩
      · have hi2 : 2 ≤ i := by omega
        have ep : pcn 0 i = (i - 1) / 3 := rfl
        rcases (show (i - 2) % 3 = 0 ∨ (i - 2) % 3 = 1 ∨ (i - 2) % 3 = 2 by omega) with c | c | c
        · -- a kind
          have en : nxt 0 i = 2 := by unfold nxt; rw [if_pos rfl, if_neg i0, if_neg i1, if_pos c]
          have g2 : gd pg 0 i ↔ kb (pg i) ≤ 4 := by unfold gd; rw [if_neg i0, if_neg i1, if_pos rfl, if_pos c]
          rw [en]
          refine ⟨fun q => absurd q (by decide), fun q => absurd q (by decide), fun _ => ?_, fun q => absurd q (by decide), fun q => absurd q (by decide), fun q => absurd q (by decide), fun q => absurd q (by decide), fun q => absurd q (by decide), fun _ _ q => absurd rfl q⟩
          rw [i2c_nI (by omega)]
          refine p_indexOf (by omega) (s_X7_takesKind_0 _ _ _ _ ?_)
          rcases kb_cases (pg i) with k | k
          · rw [show kI (pg i) = nI (kb (pg i)) by unfold kI; rw [if_neg (by omega)], d2]
            refine tlt (b := 0) (by omega) (by omega) (fun z => by omega) (fun _ => tlt (b := 6) (by rw [ep]; omega) (by omega) (fun z => ⟨vp_in_nI (by omega) (by omega), Or.inr rfl, ?_⟩) (fun z => by rw [ep] at z; omega))
            refine hok (g2.mpr k) _ ((Fr.up (by decide)).tr (Fr.up (by decide))) ?_
            rw [if_neg (by omega), nI_clamp (by rw [ep]; omega)]
            refine ⟨?_, ?_, d3, fun _ => d4 (by omega), ⟨d50, d51, d52⟩, fun p hp _ => ?_, fun p hp h2 => d7 p (by omega) h2, fun w z => absurd rfl z, fun w z => absurd rfl z, fun w z => absurd rfl z⟩
            · have : nxt 0 (i + 1) = 3 := by unfold nxt; rw [if_pos rfl, if_neg (by omega), if_neg (by omega), if_neg (by omega), if_pos (by omega)]
              rw [this]; rfl
            · have : pcn 0 (i + 1) = pcn 0 i := by show (i + 1 - 1) / 3 = (i - 1) / 3; omega
              rw [this]; exact d2
            · show (if p = pcn 0 i then nI (kb (pg i)) else σ 5 p) = _
              by_cases q : p = pcn 0 i
              · rw [if_pos q, show 2 + 3 * p = i by rw [q, ep]; omega]
              · rw [if_neg q]; exact d6 p (by rw [ep] at q; omega) (Or.inl rfl)
          · rw [show kI (pg i) = -1 by unfold kI; rw [if_pos k]]
            exact ⟨fun _ => ⟨Or.inl rfl, hno (fun z => by have := g2.mp z; omega) _ Fr.rf⟩, fun z => absurd m1_lt0 z⟩
        · -- a digit
          have en : nxt 0 i = 3 := by unfold nxt; rw [if_pos rfl, if_neg i0, if_neg i1, if_neg (by omega), if_pos c]
          have g2 : gd pg 0 i ↔ 48 ≤ pg i ∧ pg i ≤ 57 := by unfold gd; rw [if_neg i0, if_neg i1, if_pos rfl, if_neg (by omega), if_pos c]
          rw [en]
          refine ⟨fun q => absurd q (by decide), fun q => absurd q (by decide), fun q => absurd q (by decide), fun _ => ?_, fun q => absurd q (by decide), fun q => absurd q (by decide), fun q => absurd q (by decide), fun q => absurd q (by decide), fun _ _ _ q => absurd rfl q⟩
          refine p_digitOf (by omega) (fun a b => s_X7_takesWarm_0 _ _ _ _ ?_) (fun a => s_X7_takesWarm_0 _ _ _ _ ⟨fun _ => ⟨Or.inl rfl, hno (fun z => a (g2.mp z)) _ Fr.rf⟩, fun z => absurd m1_lt0 z⟩)
          rw [d2]
          refine tlt (b := 0) (by omega) (by omega) (fun z => by omega) (fun _ => tlt (b := 6) (by rw [ep]; omega) (by omega) (fun z => ⟨vp_in_nI (by omega) (by omega), vp_in_nI (by omega) (by omega), Or.inr rfl, ?_⟩) (fun z => by rw [ep] at z; omega))
          refine hok (g2.mpr ⟨a, b⟩) _ ((((Fr.up (by decide)).tr (Fr.up (by decide))).tr (Fr.up (by decide))).tr (Fr.up (by decide))) ?_
          rw [if_neg (by omega), nI_clamp (by rw [ep]; omega), nI_1]
          refine ⟨?_, ?_, d3, fun _ => d4 (by omega), ⟨d50, d51, d52⟩, fun p hp h2 => d6 p (by omega) h2, fun p hp h2 => ?_, fun w z => absurd rfl z, fun w z => absurd rfl z, fun w z => absurd rfl z⟩
          · have : nxt 0 (i + 1) = 4 := by unfold nxt; rw [if_pos rfl, if_neg (by omega), if_neg (by omega), if_neg (by omega), if_neg (by omega)]
            rw [this]; rfl
          · have : pcn 0 (i + 1) = pcn 0 i + 1 := by show (i + 1 - 1) / 3 = (i - 1) / 3 + 1; omega
            rw [this]; rfl
          · show (if p = pcn 0 i then nI (pg i - 48) else σ 6 p) = _ ∧ (if p = pcn 0 i then 0 else σ 7 p) = 0
            by_cases q : p = pcn 0 i
            · rw [if_pos q, if_pos q, show 3 + 3 * p = i by rw [q, ep]; omega]; exact ⟨rfl, rfl⟩
            · rw [if_neg q, if_neg q]; exact d7 p (by rw [ep] at q; omega) (Or.inl rfl)
        · -- a mark
          have en : nxt 0 i = 4 := by unfold nxt; rw [if_pos rfl, if_neg i0, if_neg i1, if_neg (by omega), if_neg (by omega)]
          have g2 : gd pg 0 i ↔ (pg i = 59 ∧ 2 < i - 2) ∨ (pg i = 44 ∧ i - 2 < 17) := by unfold gd; rw [if_neg i0, if_neg i1, if_pos rfl, if_neg (by omega), if_neg (by omega)]
          rw [en]
          refine ⟨fun q => absurd q (by decide), fun q => absurd q (by decide), fun q => absurd q (by decide), fun q => absurd q (by decide), fun _ => ?_, fun q => absurd q (by decide), fun q => absurd q (by decide), fun q => absurd q (by decide), fun _ _ _ _ q => absurd rfl q⟩
          refine s_X7_takesMark_0 _ _ _ _ ?_
          rw [d2]
          have stay : Dr (up σ 3 1 2) pg 0 (i + 1) := by
            refine ⟨?_, ?_, d3, fun _ => d4 (by omega), ⟨d50, d51, d52⟩, fun p hp h2 => d6 p (by omega) h2, fun p hp h2 => d7 p (by omega) h2, fun w z => absurd rfl z, fun w z => absurd rfl z, fun w z => absurd rfl z⟩
            · have : nxt 0 (i + 1) = 2 := by unfold nxt; rw [if_pos rfl, if_neg (by omega), if_neg (by omega), if_pos (by omega)]
              rw [this]; rfl
            · have : pcn 0 (i + 1) = pcn 0 i := by show (i + 1 - 1) / 3 = (i - 1) / 3; omega
              rw [this]; exact d2
          refine tne (b := 44) (by omega) (by omega) (fun c1 => tne (b := 59) (by omega) (by omega) (fun c2 => p_goesOn0 ⟨Or.inl rfl, Or.inl rfl, hno (fun z => by have := g2.mp z; omega) _ Fr.rf⟩) (fun c2 => tlt (b := 2) (by rw [ep]; omega) (by omega) (fun c3 => p_goesOn0 ⟨Or.inl rfl, Or.inl rfl, hno (fun z => by have := g2.mp z; rw [ep] at c3; omega) _ Fr.rf⟩) (fun c3 => p_goesOn1 ⟨Or.inr rfl, Or.inr rfl, hok (g2.mpr (by rw [ep] at c3; omega)) _ (Fr.up (by decide)) ?_⟩))) (fun c1 => tle (a := 6) (by omega) (by rw [ep]; omega) (fun c3 => p_goesOn0 ⟨Or.inl rfl, Or.inl rfl, hno (fun z => by have := g2.mp z; rw [ep] at c3; omega) _ Fr.rf⟩) (fun c3 => p_goesOn1 ⟨Or.inr rfl, Or.inr rfl, hok (g2.mpr (by rw [ep] at c3; omega)) _ (Fr.up (by decide)) ?_⟩))
          · rw [if_pos ⟨rfl, hi2, c, c2⟩]
            refine ⟨?_, ?_, ?_, fun _ => d4 (by omega), ⟨d50, d51, d52⟩, fun p hp h2 => d6 p (by omega) (Or.inl rfl), fun p hp h2 => d7 p (by omega) (Or.inl rfl), fun w _ hw => by omega, fun w _ hw => by omega, fun w _ hw => by omega⟩
            · have : nxt i (i + 1) = 5 := by unfold nxt; rw [if_neg (by omega), if_pos (by omega)]
              rw [this]; rfl
            · have : pcn i (i + 1) = pcn 0 i := by unfold pcn; rw [if_neg (by omega), if_pos rfl]
              rw [this]; exact d2
            · have : wcn i (i + 1) = 0 := by unfold wcn; rw [if_neg (by omega)]; omega
              rw [this]; exact e2
          · rw [if_neg (by omega)]; exact stay
  · -- the wrongs
    have hF2 : 7 ≤ e ∧ e ≤ 19 ∧ e % 3 = 1 ∧ e < i ∧ i ≤ e + 32 := by unfold eF at hF; omega
    obtain ⟨f1, f2, f3, f4, f5⟩ := hF2
    have ep : pcn e i = (e - 1) / 3 := by unfold pcn; rw [if_neg he]
    have ew : wcn e i = (i - e) / 4 := by unfold wcn; rw [if_neg he]
    have ep1 : pcn e (i + 1) = pcn e i := by unfold pcn; rw [if_neg he, if_neg he]
    have hne : ¬ (e = 0 ∧ 2 ≤ i ∧ (i - 2) % 3 = 2 ∧ pg i = 59) := fun z => he z.1
    rw [if_neg hne] at hok
    have d2' : σ 4 1 = nI ((e - 1) / 3) := by rw [← ep]; exact d2
    have d3' : σ 4 2 = nI ((i - e) / 4) := by rw [← ew]; exact d3
    rcases (show (i - e - 1) % 4 = 0 ∨ (i - e - 1) % 4 = 1 ∨ (i - e - 1) % 4 = 2 ∨ (i - e - 1) % 4 = 3 by omega) with c | c | c | c
    · have en : nxt e i = 5 := by unfold nxt; rw [if_neg he, if_pos c]
      have g2 : gd pg e i ↔ 48 ≤ pg i ∧ pg i < 48 + (e - 1) / 3 := by unfold gd; rw [if_neg (by omega), if_neg (by omega), if_neg he, if_pos c]
      rw [en]
      refine ⟨fun q => absurd q (by decide), fun q => absurd q (by decide), fun q => absurd q (by decide), fun q => absurd q (by decide), fun q => absurd q (by decide), fun _ => ?_, fun q => absurd q (by decide), fun q => absurd q (by decide), fun _ _ _ _ _ q => absurd rfl q⟩
      refine p_digitOf (by omega) (fun a b => s_X7_takesDid_0 _ _ _ _ (p_hasPerson4 d2' (by omega) (fun r => ?_) (fun r => ⟨fun _ => ⟨Or.inl rfl, hno (fun z => r ?_) _ Fr.rf⟩, fun q => absurd rfl q⟩))) (fun a => s_X7_takesDid_0 _ _ _ _ (p_hasPerson4 d2' (by omega) (fun r => absurd r m1_InR) (fun r => ⟨fun _ => ⟨Or.inl rfl, hno (fun z => a (by have := g2.mp z; omega)) _ Fr.rf⟩, fun q => absurd rfl q⟩)))
      · rw [InR_nI (by omega)] at r
        refine ⟨fun q => absurd q (by decide), fun _ => ?_⟩
        rw [d3']
        refine tlt (b := 8) (by omega) (by omega) (fun z => ⟨vp_in_nI (by omega) (by omega), Or.inr rfl, ?_⟩) (fun z => by omega)
        refine hok (g2.mpr (by omega)) _ ((Fr.up (by decide)).tr (Fr.up (by decide))) ?_
        rw [nI_clamp (by omega)]
        refine ⟨?_, by rw [ep1]; exact d2, ?_, fun _ => d4 (by omega), ⟨d50, d51, d52⟩, fun p hp h2 => d6 p (by omega) h2, fun p hp h2 => d7 p (by omega) h2, fun w h1 hw => ?_, fun w h1 hw => d9 w h1 (by omega), fun w h1 hw => d10 w h1 (by omega)⟩
        · have : nxt e (i + 1) = 6 := by unfold nxt; rw [if_neg he, if_neg (by omega), if_pos (by omega)]
          rw [this]; rfl
        · have : wcn e (i + 1) = wcn e i := by unfold wcn; rw [if_neg he, if_neg he]; omega
          rw [this]; exact d3
        · show (if w = (i - e) / 4 then nI (pg i - 48) else σ 8 w) = _
          by_cases q : w = (i - e) / 4
          · rw [if_pos q, show e + 1 + 4 * w = i by omega]
          · rw [if_neg q]; exact d8 w h1 (by omega)
      · rw [InR_nI (by omega)]
        have := g2.mp z
        omega
    · have en : nxt e i = 6 := by unfold nxt; rw [if_neg he, if_neg (by omega), if_pos c]
      have g2 : gd pg e i ↔ (48 ≤ pg i ∧ pg i < 48 + (e - 1) / 3) ∧ pg i ≠ pg (i - 1) := by unfold gd; rw [if_neg (by omega), if_neg (by omega), if_neg he, if_neg (by omega), if_pos c]
      have hp := hprev (i - 1) (by omega)
      rw [if_neg (by omega)] at hp
      unfold gd at hp
      rw [if_neg (by omega), if_neg (by omega), if_neg he, if_pos (by omega)] at hp
      rw [en]
      refine ⟨fun q => absurd q (by decide), fun q => absurd q (by decide), fun q => absurd q (by decide), fun q => absurd q (by decide), fun q => absurd q (by decide), fun q => absurd q (by decide), fun _ => ?_, fun q => absurd q (by decide), fun _ _ _ _ _ _ q => absurd rfl q⟩
      refine p_digitOf (by omega) (fun a b => s_X7_takesWhom_0 _ _ _ _ (p_hasPerson4 d2' (by omega) (fun r => ?_) (fun r => ⟨fun _ => ⟨Or.inl rfl, hno (fun z => r ?_) _ Fr.rf⟩, fun q => absurd rfl q⟩))) (fun a => s_X7_takesWhom_0 _ _ _ _ (p_hasPerson4 d2' (by omega) (fun r => absurd r m1_InR) (fun r => ⟨fun _ => ⟨Or.inl rfl, hno (fun z => a (by have := g2.mp z; omega)) _ Fr.rf⟩, fun q => absurd rfl q⟩)))
      · rw [InR_nI (by omega)] at r
        refine ⟨fun q => absurd q (by decide), fun _ => ?_⟩
        have e8 : σ 8 ((i - e) / 4) = nI (pg (i - 1) - 48) := by
          rw [d8 ((i - e) / 4) he (by omega), show e + 1 + 4 * ((i - e) / 4) = i - 1 by omega]
        rw [d3', nI_clamp (by omega), e8]
        refine tle (a := 8) (by omega) (by omega) (fun z => by omega) (fun z => ⟨vp_in_nI (by omega) (by omega), tne (by omega) (by omega) (fun z2 => ⟨vp_in_nI (by omega) (by omega), Or.inr rfl, ?_⟩) (fun z2 => ⟨Or.inl rfl, hno (fun y => by have := g2.mp y; omega) _ Fr.rf⟩)⟩)
        refine hok (g2.mpr (by omega)) _ ((Fr.up (by decide)).tr (Fr.up (by decide))) ?_
        refine ⟨?_, by rw [ep1]; exact d2, ?_, fun _ => d4 (by omega), ⟨d50, d51, d52⟩, fun p hp h2 => d6 p (by omega) h2, fun p hp h2 => d7 p (by omega) h2, fun w h1 hw => d8 w h1 (by omega), fun w h1 hw => ?_, fun w h1 hw => d10 w h1 (by omega)⟩
        · have : nxt e (i + 1) = 7 := by unfold nxt; rw [if_neg he, if_neg (by omega), if_neg (by omega), if_pos (by omega)]
          rw [this]; rfl
        · have : wcn e (i + 1) = wcn e i := by unfold wcn; rw [if_neg he, if_neg he]; omega
          rw [this]; exact d3
        · show (if w = (i - e) / 4 then nI (pg i - 48) else σ 9 w) = _
          by_cases q : w = (i - e) / 4
          · rw [if_pos q, show e + 2 + 4 * w = i by omega]
          · rw [if_neg q]; exact d9 w h1 (by omega)
      · rw [InR_nI (by omega)]
        have := g2.mp z
        omega
    · have en : nxt e i = 7 := by unfold nxt; rw [if_neg he, if_neg (by omega), if_neg (by omega), if_pos c]
      have g2 : gd pg e i ↔ 49 ≤ pg i ∧ pg i ≤ 57 := by unfold gd; rw [if_neg (by omega), if_neg (by omega), if_neg he, if_neg (by omega), if_neg (by omega), if_pos c]
      rw [en]
      refine ⟨fun q => absurd q (by decide), fun q => absurd q (by decide), fun q => absurd q (by decide), fun q => absurd q (by decide), fun q => absurd q (by decide), fun q => absurd q (by decide), fun q => absurd q (by decide), fun _ => ?_, fun _ _ _ _ _ _ _ q => absurd rfl q⟩
      refine p_digitOf (by omega) (fun a b => s_X7_takesGrave_0 _ _ _ _ (tlt (b := 1) (by omega) (by omega) (fun z => ⟨Or.inl rfl, hno (fun y => by have := g2.mp y; omega) _ Fr.rf⟩) (fun z => ?_))) (fun a => s_X7_takesGrave_0 _ _ _ _ ⟨fun _ => ⟨Or.inl rfl, hno (fun z => a (by have := g2.mp z; omega)) _ Fr.rf⟩, fun z => absurd (by decide) z⟩)
      rw [d3']
      refine tlt (b := 8) (by omega) (by omega) (fun z => ⟨vp_in_nI (by omega) (by omega), Or.inr rfl, ?_⟩) (fun z => by omega)
      refine hok (g2.mpr (by omega)) _ (((Fr.up (by decide)).tr (Fr.up (by decide))).tr (Fr.up (by decide))) ?_
      rw [nI_clamp (by omega), nI_1]
      refine ⟨?_, by rw [ep1]; exact d2, ?_, fun _ => d4 (by omega), ⟨d50, d51, d52⟩, fun p hp h2 => d6 p (by omega) h2, fun p hp h2 => d7 p (by omega) h2, fun w h1 hw => d8 w h1 (by omega), fun w h1 hw => d9 w h1 (by omega), fun w h1 hw => ?_⟩
      · have : nxt e (i + 1) = 8 := by unfold nxt; rw [if_neg he, if_neg (by omega), if_neg (by omega), if_neg (by omega)]
        rw [this]; rfl
      · have : wcn e (i + 1) = (i - e) / 4 + 1 := by unfold wcn; rw [if_neg he]; omega
        rw [this]; rfl
      · show (if w = (i - e) / 4 then nI (pg i - 48) else σ 10 w) = _
        by_cases q : w = (i - e) / 4
        · rw [if_pos q, show e + 3 + 4 * w = i by omega]
        · rw [if_neg q]; exact d10 w h1 (by omega)
    · have en : nxt e i = 8 := by unfold nxt; rw [if_neg he, if_neg (by omega), if_neg (by omega), if_neg (by omega)]
      have g2 : gd pg e i ↔ pg i = 44 ∧ i - e - 1 < 31 := by unfold gd; rw [if_neg (by omega), if_neg (by omega), if_neg he, if_neg (by omega), if_neg (by omega), if_neg (by omega)]
      rw [en]
      refine ⟨fun q => absurd q (by decide), fun q => absurd q (by decide), fun q => absurd q (by decide), fun q => absurd q (by decide), fun q => absurd q (by decide), fun q => absurd q (by decide), fun q => absurd q (by decide), fun q => absurd q (by decide), fun _ _ _ _ _ _ _ _ => ?_⟩
      rw [d3']
      refine tne (b := 44) (by omega) (by omega) (fun c1 => p_goesOn0 ⟨Or.inl rfl, hno (fun z => c1 (g2.mp z).1) _ Fr.rf⟩) (fun c1 => tle (a := 8) (by omega) (by omega) (fun c2 => p_goesOn0 ⟨Or.inl rfl, hno (fun z => by have := g2.mp z; omega) _ Fr.rf⟩) (fun c2 => p_goesOn1 ⟨Or.inr rfl, hok (g2.mpr (by omega)) _ (Fr.up (by decide)) ?_⟩))
      refine ⟨?_, by rw [ep1]; exact d2, ?_, fun _ => d4 (by omega), ⟨d50, d51, d52⟩, fun p hp h2 => d6 p (by omega) h2, fun p hp h2 => d7 p (by omega) h2, fun w h1 hw => d8 w h1 (by omega), fun w h1 hw => d9 w h1 (by omega), fun w h1 hw => d10 w h1 (by omega)⟩
      · have : nxt e (i + 1) = 5 := by unfold nxt; rw [if_neg he, if_pos (by omega)]
        rw [this]; rfl
      · have : wcn e (i + 1) = wcn e i := by unfold wcn; rw [if_neg he, if_neg he]; omega
        rw [this]; exact d3
end PG
