/-! THE CORE: the fixed heap as a table of numbers σ (cell, place); 'Rn': from here the method comes to its end with Q -/
abbrev Mm : Type := Nat → Nat → Int32
def kd (k : Nat) : Nat := kdL.getD k 0
def ln (k : Nat) : Nat := lnL.getD k 0
def fk (c j : Nat) : Nat := (fkL.getD c []).getD j 0
def rf (k j : Nat) : Nat := (rfL.getD k []).getD j 0
def jn (lo hi : Int32) : Int64 := Int64.ofBitVec (hi.toBitVec ++ lo.toBitVec)
def jlo (x : Int64) : Int32 := Int32.ofBitVec (x.toBitVec.extractLsb' 0 32)
def jhi (x : Int64) : Int32 := Int32.ofBitVec (x.toBitVec.extractLsb' 32 32)
theorem jn_eq (x : Int64) : jn (jlo x) (jhi x) = x := by
  have h : x.toBitVec.extractLsb' 32 32 ++ x.toBitVec.extractLsb' 0 32 = x.toBitVec := by
    apply BitVec.eq_of_getLsbD_eq
    intro i hi
    rw [BitVec.getLsbD_append]
    split
    · rename_i h
      simp [BitVec.getLsbD_extractLsb', h]
    · rename_i h
      have h2 : i - 32 < 32 := by omega
      have h3 : 32 + (i - 32) = i := by omega
      simp only [BitVec.getLsbD_extractLsb', h2, h3, decide_true, Bool.true_and]
  show Int64.ofBitVec (x.toBitVec.extractLsb' 32 32 ++ x.toBitVec.extractLsb' 0 32) = x
  rw [h]
  rfl
def up (σ : Mm) (k j : Nat) (x : Int32) : Mm := fun a => if a = k then upd (σ a) j x else σ a
theorem up_eq {σ : Mm} {k j : Nat} {x : Int32} : up σ k j x k = upd (σ k) j x := if_pos rfl
theorem up_ne {σ : Mm} {k j a : Nat} {x : Int32} (h : a ≠ k) : up σ k j x a = σ a := if_neg h
theorem upd_eq {f : Nat → Int32} {j : Nat} {x : Int32} : upd f j x j = x := pk_us
theorem upd_ne {f : Nat → Int32} {j i : Nat} {x : Int32} (h : i ≠ j) : upd f j x i = f i := pk_un h
abbrev EE : Type := Launch × (Nat → Nat) × va_G × (ClassId × ClassId × ClassId) × (Nat → Nat) × (Nat → Nat)
def eL (E : EE) : Launch := E.1
def Ad (E : EE) : Nat → Nat := E.2.1
def eD (E : EE) : va_G := E.2.2.1
def cI (E : EE) : ClassId := E.2.2.2.1.1
def cZ (E : EE) : ClassId := E.2.2.2.1.2.1
def cII (E : EE) : ClassId := E.2.2.2.1.2.2
def sK (E : EE) : Nat → Nat := E.2.2.2.2.1
def sV (E : EE) : Nat → Nat := E.2.2.2.2.2
abbrev tysE (E : EE) : List (ClassId × FieldType) := [(cI E, .int), (cZ E, .boolean), (cII E, .array .int)]
def fv (E : EE) (k : Nat) (f : Nat → Int32) (j : Nat) : Value := if fk (kd k) j = 2 then .ref (Ad E (rf k j)) else if fk (kd k) j = 1 then .long (jn (f j) (f (j + 1000))) else .int (f j)
def fo (E : EE) (k : Nat) (f : Nat → Int32) : List Value := (List.range (ln k)).map (fv E k f)
def ce (E : EE) (k : Nat) (f : Nat → Int32) : va_E := if kd k = 100 then .inl (cI E, ln k, .inl f) else if kd k = 101 then .inl (cZ E, ln k, .inl f) else if kd k = 102 then .inl (cII E, ln k, .inr (.inr (.inr (.inr (fun i => if i < ln k then some (Ad E (rf k i)) else none))))) else .inr (kd k, fo E k f)
def wl (E : EE) (σ : Mm) : va_W := (List.range 79).map (fun k => (Ad E k, ce E k (σ k)))
def Aw (E : EE) : Nat → Prop := fun q => ∃ k, k < 79 ∧ q = Ad E k
theorem wl_at {E : EE} {σ : Mm} {k : Nat} (hk : k < 79) : (wl E σ)[k]? = some (Ad E k, ce E k (σ k)) := by
  unfold wl
  rw [List.getElem?_map, List.getElem?_range hk]
  rfl
theorem wl_len {E : EE} {σ : Mm} : (wl E σ).length = 79 := by
  unfold wl
  rw [List.length_map, List.length_range]
theorem wl_no {E : EE} {σ : Mm} {k : Nat} (hk : ¬ k < 79) : (wl E σ)[k]? = none := List.getElem?_eq_none (by rw [wl_len]; omega)
theorem wl_set {E : EE} {σ τ : Mm} {k : Nat} (hk : k < 79) (h : ∀ a, a ≠ k → τ a = σ a) : (wl E σ).set k (Ad E k, ce E k (τ k)) = wl E τ := by
  apply List.ext_getElem?
  intro i
  by_cases hi : i = k
  · subst hi
    rw [List.getElem?_set_self (by rw [wl_len]; exact hk), wl_at hk]
  · rw [List.getElem?_set_ne (Ne.symm hi)]
    by_cases hl : i < 79
    · rw [wl_at hl, wl_at hl, h i hi]
    · rw [wl_no hl, wl_no hl]
theorem wl_D {E : EE} {σ : Mm} (h : ∀ i j, i < 79 → j < 79 → Ad E i = Ad E j → i = j) : va_D (Aw E) (wl E σ) := by
  have key : ∀ (k : Nat) (q : Nat × va_E), (wl E σ)[k]? = some q → k < 79 ∧ q.1 = Ad E k := by
    intro k q hq
    by_cases hk : k < 79
    · rw [wl_at hk] at hq
      cases hq
      exact ⟨hk, rfl⟩
    · rw [wl_no hk] at hq
      cases hq
  refine ⟨fun i j x y hi hj hxy => ?_, fun k q hk => ?_⟩
  · obtain ⟨a1, a2⟩ := key i x hi
    obtain ⟨b1, b2⟩ := key j y hj
    exact h i j a1 b1 (by rw [← a2, ← b2, hxy])
  · obtain ⟨a1, a2⟩ := key k q hk
    exact ⟨k, a1, a2⟩
/-- an object's cell, and a field of it -/
def Fdd (k j ci : Nat) (C : String) (T : u_T) (N : Nat) (t : Nat) : Prop := k < 79 ∧ kd k = ci ∧ vwCl[ci]? = some (C, T, N) ∧ ln k = N ∧ j < N ∧ fk ci j = t ∧ ci < 100 ∧ N < 1000
def Ar (k t n : Nat) : Prop := k < 79 ∧ kd k = t ∧ ln k = n
theorem ce_obj {E : EE} {k : Nat} {f : Nat → Int32} {ci : Nat} (h : kd k = ci) (hc : ci < 100) : ce E k f = .inr (ci, fo E k f) := by
  unfold ce
  rw [if_neg (by omega), if_neg (by omega), if_neg (by omega), h]
theorem fo_at {E : EE} {k j : Nat} {f : Nat → Int32} (hj : j < ln k) : (fo E k f)[j]? = some (fv E k f j) := by
  unfold fo
  rw [List.getElem?_map, List.getElem?_range hj]
  rfl
theorem fo_len {E : EE} {k : Nat} {f : Nat → Int32} : (fo E k f).length = ln k := by
  unfold fo
  rw [List.length_map, List.length_range]
theorem fo_set {E : EE} {k j : Nat} {f f' : Nat → Int32} {v : Value} (hj : j < ln k) (hv : fv E k f' j = v) (h : ∀ i, i < ln k → i ≠ j → fv E k f' i = fv E k f i) : (fo E k f).set j v = fo E k f' := by
  apply List.ext_getElem?
  intro i
  by_cases hi : i = j
  · subst hi
    rw [List.getElem?_set_self (by rw [fo_len]; exact hj), fo_at hj, hv]
  · rw [List.getElem?_set_ne (Ne.symm hi)]
    by_cases hl : i < ln k
    · rw [fo_at hl, fo_at hl, h i hl hi]
    · rw [List.getElem?_eq_none (by rw [fo_len]; omega), List.getElem?_eq_none (by rw [fo_len]; omega)]
theorem fv_i {E : EE} {k j : Nat} {f : Nat → Int32} (h : fk (kd k) j = 0) : fv E k f j = .int (f j) := by
  unfold fv
  rw [if_neg (by omega), if_neg (by omega)]
theorem fv_l {E : EE} {k j : Nat} {f : Nat → Int32} (h : fk (kd k) j = 1) : fv E k f j = .long (jn (f j) (f (j + 1000))) := by
  unfold fv
  rw [if_neg (by omega), if_pos h]
theorem fv_r {E : EE} {k j : Nat} {f : Nat → Int32} (h : fk (kd k) j = 2) : fv E k f j = .ref (Ad E (rf k j)) := by
  unfold fv
  rw [if_pos h]
theorem fv_ne {E : EE} {k j : Nat} {f f' : Nat → Int32} (h1 : f' j = f j) (h2 : f' (j + 1000) = f (j + 1000)) : fv E k f' j = fv E k f j := by
  unfold fv
  rw [h1, h2]
/-- the good words of the tables: they go from caller to callee -/
def TB : List Cond := lw_tbl.filter goodWord
theorem in_TB {w : Cond} (i : Nat) (h : lw_tbl[i]? = some w) (g : goodWord w = true) : w ∈ TB := List.mem_filter.mpr ⟨List.mem_of_getElem? h, g⟩
theorem gd_TB {ws : List Cond} (h : ∀ w ∈ ws, w ∈ TB) : GoodIn TB ws := fun w hw => ⟨h w hw, good_of_word (List.mem_filter.mp (h w hw)).2⟩
/-- what stays as it is: the tables, the nest words, the one String, a static -/
def Fx (E : EE) (U : State) (H : Heap) : Prop := va_K (eD E) vwCl (tysE E) U ∧ (∀ q ∈ NS, va_Nw (.methodLinkNest q.1 q.2.1 q.2.2.1 q.2.2.2) U) ∧ vk_R RX7 49 "pghbs" (sK E 0) U ∧ vk_S 1 [5] [[112, 103, 104, 98, 115]] (sK E) (sV E) (Aw E) U H ∧ va_Z "java/lang/String" "COMPACT_STRINGS" "Z" (.int 1) (Aw E) U H ∧ (∀ i j, i < 79 → j < 79 → Ad E i = Ad E j → i = j)
theorem Fx.moved {E : EE} {s U : State} {H : Heap} (hW : s.WarmedH U.vm) (h : Fx E s H) : Fx E U H :=
  ⟨va_K.moved hW.alike h.1, fun q hq => va_Nw.warmM hW (h.2.1 q hq), vk_R.warm hW h.2.2.1, vk_S.moved hW.alike h.2.2.2.1, va_Z.moved hW.alike h.2.2.2.2.1, h.2.2.2.2.2⟩
theorem Fx.kept {E : EE} {U : State} {H0 H : Heap} {locs : List Loc} (hS : va_S (Aw E) H0 H locs) (h : Fx E U H0) : Fx E U H :=
  ⟨h.1, h.2.1, h.2.2.1, h.2.2.2.1.kept (fun a h1 h2 => hS.2.1 a h1 h2), h.2.2.2.2.1.kept (fun a h1 h2 => hS.2.1 a h1 h2), h.2.2.2.2.2⟩
theorem Fx.calling {E : EE} {U : State} (a : Array Value) (g : JFrame) (mk : MethodId) (h : Fx E U U.heap) : Fx E (U.calling g mk a) (U.calling g mk a).heap :=
  ⟨va_K.moved (u := U) (U := U.calling g mk a) (Vm.Alike.refl U.vm) h.1, fun q hq => va_Nw.same (u := U) rfl rfl (h.2.1 q hq), vk_R.same (u := U) rfl h.2.2.1, vk_S.moved (u := U) (U := U.calling g mk a) (Vm.Alike.refl U.vm) h.2.2.2.1, va_Z.moved (u := U) (U := U.calling g mk a) (Vm.Alike.refl U.vm) h.2.2.2.2.1, h.2.2.2.2.2⟩
/-- a method: its class, code, locals, answer's type, frames, locals' room, name -/
abbrev Md : Type := String × ByteArray × Nat × Option FieldType × Nat × Nat × MethodName
abbrev mOwn (M : Md) : String := M.1
abbrev mCode (M : Md) : ByteArray := M.2.1
abbrev mLoc (M : Md) : Nat := M.2.2.1
abbrev mRet (M : Md) : Option FieldType := M.2.2.2.1
abbrev mFr (M : Md) : Nat := M.2.2.2.2.1
abbrev mRm (M : Md) : Nat := M.2.2.2.2.2.1
abbrev mNm (M : Md) : MethodName := M.2.2.2.2.2.2
def Cx (E : EE) (M : Md) (p : Program) (R : Room) (s : State) (m : MethodId) (args : Array Value) (c : Code) (cells slots : Nat) : Prop :=
  p.tables.exec = Jvm.exec ∧ c.code = mCode M ∧ c.maxLocals = mLoc M ∧ s.vm.findClass (mOwn M) = some m.cls ∧ (∀ w ∈ TB, w.before args s = true) ∧ Fx E s s.heap ∧ (mFr M ≤ R.frames ∧ mRm M ≤ R.locals ∧ cells ≤ R.cells ∧ slots ≤ R.slots)
def Hd (E : EE) (σ : Mm) (s : State) (H : Heap) (locs : List Loc) : Prop := va_P (eD E) vwCl (wl E σ) H ∧ va_S (Aw E) s.heap H locs
def RetI (M : Md) (pc : Nat) (r : Option Value) : Prop := match r with
  | none => decode (mCode M) pc = .ok (.return_, 1) ∧ mRet M = none
  | some (.int x) => decode (mCode M) pc = .ok (.ireturn, 1) ∧ ∃ ty, mRet M = some ty ∧ narrow ty (.int x) = .int x
  | some (.long _) => decode (mCode M) pc = .ok (.lreturn, 1) ∧ mRet M = some .long
  | _ => False
def Rn (E : EE) (M : Md) (pc : Nat) (lv : List (Nat × Value)) (st : List Value) (σ : Mm) (Q : Option Value → Mm → Prop) : Prop :=
  ∀ (p : Program) (e : Env) (R : Room) (s : State) (m : MethodId) (args : Array Value) (below : List Frame) (meth : Method) (c : Code) (Z : State → Prop) (cells slots : Nat) (H : Heap) (locs : List Loc) (ls : Array Slot),
    Cx E M p R s m args c cells slots → Hd E σ s H locs → lv_has ls (mLoc M) lv →
    (∀ (r : Option Value) (σ' : Mm) (H' : Heap) (locs' : List Loc) (ls' : Array Slot) (pc' : Nat), Q r σ' → Hd E σ' s H' locs' → RetI M pc' r → W p (eL E) e R s m args below meth c H' locs' cells slots Z (F0 m pc' ls' r.toList)) →
    W p (eL E) e R s m args below meth c H locs cells slots Z (F0 m pc ls st)
theorem Rn.mono {E : EE} {M : Md} {pc : Nat} {lv : List (Nat × Value)} {st : List Value} {σ : Mm} {Q Q' : Option Value → Mm → Prop} (h : Rn E M pc lv st σ Q) (hq : ∀ r σ', Q r σ' → Q' r σ') : Rn E M pc lv st σ Q' :=
  fun p e R s m args below meth c Z cells slots H locs ls C hH hl hr => h p e R s m args below meth c Z cells slots H locs ls C hH hl (fun r σ' H' locs' ls' pc' q => hr r σ' H' locs' ls' pc' (hq r σ' q))
def qi (Q : Int32 → Mm → Prop) : Option Value → Mm → Prop := fun r σ => ∃ x : Int32, r = some (.int x) ∧ Q x σ
def ql (Q : Int64 → Mm → Prop) : Option Value → Mm → Prop := fun r σ => ∃ x : Int64, r = some (.long x) ∧ Q x σ
def qv (Q : Mm → Prop) : Option Value → Mm → Prop := fun r σ => r = none ∧ Q σ
def PcE (E : EE) (σ : Mm) (vs : List Value) : Array Value → State → Prop := va_Pc vs (fun U => va_P (eD E) vwCl (wl E σ) U.heap ∧ Fx E U U.heap)
def QcE (E : EE) (Q : Option Value → Mm → Prop) : Array Value → State → Outcome → State → Prop := fun _ st oc t => (∃ (r : Option Value) (σ' : Mm), oc = .returned r ∧ Q r σ' ∧ va_P (eD E) vwCl (wl E σ') t.heap) ∧ va_F (Aw E) st t
abbrev mWs (M : Md) : List Cond := Cond.code (mNm M) (mCode M) (mLoc M) (mRet M) :: TB
theorem Rn.met {E : EE} {M : Md} {vs : List Value} {σ : Mm} {Q : Option Value → Mm → Prop} (h : Rn E M 0 (lv_args 0 vs) [] σ Q) (hp : plainName (mNm M).cls = true) (ho : (mNm M).cls = mOwn M) (hn : (lg_sl vs).length ≤ mLoc M) :
    Met (eL E) (mNm M) (mWs M) ({ frames := mFr M, cells := 0, slots := 0, locals := mRm M }) (PcE E σ vs) (QcE E Q) 0 0 (Aw E) := by
  refine Met.ofW (cc := mCode M) (maxL := mLoc M) (ret := mRet M) hp rfl ?_
  intro p e s m args below meth c s₁ B hml hv
  obtain ⟨rfl, hP, hF⟩ := hv
  have hx := B.exec
  have hb := B.bytes
  have hr := B.returns
  have hlocks := B.notSynchronized
  have hts := atoms_spec (ws := mWs M) B.pre
  have hown : s.vm.findClass (mNm M).cls = some m.cls := findClass_of_methodNamed B.named
  have hl := lv_entry vs hn
  rw [lg_entry_eq]
  refine h p e _ s m _ below meth c _ 0 0 s.heap [] _ ⟨hx, hb, hml, by rw [← ho]; exact hown, fun w hw => hts w (List.mem_cons_of_mem _ hw), hF, ⟨Nat.le_refl _, Nat.le_refl _, Nat.zero_le _, Nat.zero_le _⟩⟩ ⟨hP, va_S.rf⟩ hl ?_
  intro r σ' H' locs' ls' pc' hq hH hI
  have fin : ∀ t : State, t.heap = H' → QcE E Q vs.toArray s (.returned r) t := fun t ht => ⟨⟨r, σ', rfl, hq, by rw [ht]; exact hH.1⟩, hH.2.F ht⟩
  match r, hI, fin with
  | none, hI, fin => exact W.vret hx hb (hr.trans hI.2) (fun t ht _ => fin t ht) hH.2.2.2 hI.1
  | some (.int x), hI, fin =>
    obtain ⟨h1, ty, h2, h3⟩ := hI
    exact W.zret (ty := ty) hx hb (hr.trans h2) h3 (fun t ht _ => fin t ht) hH.2.2.2 h1
  | some (.long x), hI, fin => exact W.lret hx hb (hr.trans hI.2) (fun t ht _ => fin t ht) hH.2.2.2 hI.1
  | some (.float x), hI, fin => exact hI.elim
  | some (.double x), hI, fin => exact hI.elim
  | some (.ref x), hI, fin => exact hI.elim
  | some .null, hI, fin => exact hI.elim
/-- a callee, by the tables -/
def Cal (M : Md) (n : Nat) : Prop := plainName (mNm M).cls = true ∧ (mNm M).cls = mOwn M ∧ Cond.code (mNm M) (mCode M) (mLoc M) (mRet M) ∈ TB ∧ Cond.initialized (mNm M).cls ∈ TB ∧ ((mNm M).cls ≠ "java/lang/invoke/MethodHandle" ∧ (mNm M).cls ≠ "java/lang/invoke/VarHandle" ∧ (parseMethodDescriptor (mNm M).desc).map (fun d => d.parameters.length) = some n)
