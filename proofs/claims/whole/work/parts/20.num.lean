/-! numbers -/
theorem up_to {P : Nat → Prop} (n : Nat) (h0 : P n) (hs : ∀ i, i < n → P (i + 1) → P i) : ∀ i, i ≤ n → P i := by
  intro i hi
  have key : ∀ d i, i + d = n → P i := by
    intro d
    induction d with
    | zero => intro i h; rw [show i = n by omega]; exact h0
    | succ d ih => intro i h; exact hs i (by omega) (ih (i + 1) (by omega))
  exact key (n - i) i (by omega)
/-- nothing but these cells has changed -/
def Fr (L : List Nat) (σ τ : Mm) : Prop := ∀ k, k ∉ L → τ k = σ k
theorem Fr.rf {L : List Nat} {σ : Mm} : Fr L σ σ := fun _ _ => rfl
theorem Fr.tr {L : List Nat} {σ τ ρ : Mm} (h1 : Fr L σ τ) (h2 : Fr L τ ρ) : Fr L σ ρ := fun k hk => (h2 k hk).trans (h1 k hk)
theorem Fr.wk {L L' : List Nat} {σ τ : Mm} (h : Fr L σ τ) (hl : ∀ k, k ∈ L → k ∈ L') : Fr L' σ τ := fun k hk => h k (fun q => hk (hl k q))
theorem Fr.up {L : List Nat} {σ : Mm} {k j : Nat} {x : Int32} (hk : k ∈ L) : Fr L σ (up σ k j x) := fun a ha => up_ne (fun e => ha (e ▸ hk))
theorem Fr.put {L : List Nat} {σ τ : Mm} {k j : Nat} {x : Int32} (h : Fr L σ τ) (hk : k ∈ L) : Fr L σ (_root_.Jvm.Pilot.CLastBenchLaw_law_r8758_57d3ed.up τ k j x) := h.tr (Fr.up hk)
/-- bit i of F -/
def bt (F i : Nat) : Nat := F / 2 ^ i % 2
theorem bt_le (F i : Nat) : bt F i ≤ 1 := by unfold bt; omega
theorem i31 {i : Nat} (h : i < 32) : nI i &&& 31 = nI i := by
  rw [pk_andN (by omega) 5 (by decide), Nat.mod_eq_of_lt (by omega)]
theorem smod_nI {i : Nat} (h : i < 32) : ((nI i).toBitVec.smod 32).toNat = i := by
  have : ∀ i : Fin 32, ((nI i.1).toBitVec.smod 32).toNat = i.1 := by decide
  exact this ⟨i, h⟩
theorem shrI {F i : Nat} (hF : F < 2 ^ 31) (hi : i < 32) : nI F >>> (nI i &&& 31) = nI (F / 2 ^ i) := by
  rw [i31 hi, pk_shrN hF _ i (smod_nI hi)]
theorem bitI {F i : Nat} (hF : F < 2 ^ 31) (hi : i < 32) : (nI F >>> (nI i &&& 31)) &&& 1 = nI (bt F i) := by
  rw [shrI hF hi, pk_andN (Nat.lt_of_le_of_lt (Nat.div_le_self _ _) (by omega)) 1 (by decide)]
  rfl
theorem shlI {i : Nat} (hi : i < 31) : (1 : Int32) <<< (nI i &&& 31) = nI (2 ^ i) := by
  have h : 1 * 2 ^ i < 2 ^ 32 := by rw [Nat.one_mul]; exact Nat.pow_lt_pow_right (by decide) (by omega)
  have := pk_shlN (n := 1) (nI i) i (smod_nI (by omega)) h
  rw [i31 (by omega)]
  rw [Nat.one_mul] at this
  exact this
theorem toInt_nI {n : Nat} (h : n < 2 ^ 31) : (nI n).toInt = (n : Int) := nI_toInt h
/-- any number against a bound: below 0, or a natural number -/
theorem nIcase (x : Int32) : x < 0 ∨ ∃ n : Nat, n < 2 ^ 31 ∧ x = nI n := by
  by_cases h : x < 0
  · exact Or.inl h
  · exact Or.inr (nI_of h)
theorem lgc_lt {x y : Int64} : lg_cmp x y < 0 ↔ x.toInt < y.toInt := by
  unfold lg_cmp
  simp only [gt_iff_lt, Int64.lt_iff_toInt_lt, ← Int64.toInt_inj]
  repeat' split
  all_goals (constructor <;> intro hh <;> first | omega | decide | exact absurd hh (by decide))
theorem lgc_gt {x y : Int64} : 0 < lg_cmp x y ↔ y.toInt < x.toInt := by
  unfold lg_cmp
  simp only [gt_iff_lt, Int64.lt_iff_toInt_lt, ← Int64.toInt_inj]
  repeat' split
  all_goals (constructor <;> intro hh <;> first | omega | decide | exact absurd hh (by decide))
def InR (x : Int32) (a b : Int) : Prop := a ≤ x.toInt ∧ x.toInt ≤ b
theorem InR.nat {x : Int32} {a b : Int} (h : InR x a b) (ha : 0 ≤ a) : ∃ n : Nat, x = nI n ∧ a ≤ n ∧ (n : Int) ≤ b ∧ n < 2 ^ 31 := by
  obtain ⟨h1, h2⟩ := h
  obtain ⟨n, hn, rfl⟩ := nI_of (x := x) (by rw [Int32.lt_iff_toInt_lt]; show ¬ x.toInt < 0; omega)
  rw [toInt_nI hn] at h1 h2
  exact ⟨n, rfl, h1, h2, hn⟩
theorem InR_nI {n : Nat} {a b : Int} (hn : n < 2 ^ 31) : InR (nI n) a b ↔ a ≤ n ∧ (n : Int) ≤ b := by
  unfold InR
  rw [toInt_nI hn]
