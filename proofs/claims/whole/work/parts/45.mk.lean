/-! two arrays of six in an array; calls of a constructor -/
def PkE (E : EE) (B N : Nat) (ω : OW) (vs : List Value) : Array Value → State → Prop := va_Pc vs (fun U => U.heap.size = B + N ∧ va_P (eD E) vwCl (kl B N ω) U.heap ∧ Fk E U)
def QkE (E : EE) (B N : Nat) (ω : OW) : Array Value → State → Outcome → State → Prop := va_Qv (fun _ : Unit => True) (fun _ t => t.heap.size = B + N ∧ va_P (eD E) vwCl (kl B N ω) t.heap) (fun q => B ≤ q)
abbrev Mk (E : EE) (M : Md) (B N : Nat) (ω : OW) (k dc ds N' : Nat) (ω' : OW) : Prop := Met (eL E) (mNm M) (mWs M) ({ frames := mFr M, cells := dc, slots := ds, locals := mRm M }) (PkE E B N ω [.ref (B + k)]) (QkE E B N' ω') dc ds (fun q => B ≤ q)
section MC
variable {p : Program} {e : Env} {R : Room} {s : State} {m : MethodId} {args : Array Value} {below : List Frame} {meth : Method} {c : Code} {cells slots : Nat} {Z : State → Prop} {E : EE} {H : Heap} {locs : List Loc} {ls : Array Slot} {B N : Nat} {ω : OW} {cc : ByteArray} {pc : Nat} {rest : List Value} {own : String}
theorem k_outer (cA : ClassId) (h0 : Nat) : Jvm.Free.Multi.outerC cA 2 h0 2 = vp_cell cA (2, .inr (.inr (.inr (.inr (fun i => if i < 2 then some (h0 + 1 + i) else none))))) := by
  rfl
theorem k_inner (cA : ClassId) : Jvm.Free.Multi.innerC cA 6 (.int 0) = vp_cell cA (6, .inl (fun _ => 0)) := by
  rfl
theorem k_mna (hx : p.tables.exec = Jvm.exec) (hb : c.code = cc) (hts : ∀ w ∈ TB, w.before args s = true) (hown : s.vm.findClass own = some m.cls) (hF : Fk E s) (hH : Hk E B N ω s H locs) {idx : Nat} (hcl : Cond.classLink own idx "[[I" ∈ TB) (hw : Cond.arrayClass .int ∈ TB) (h1 : cells + 3 ≤ R.cells) (h2 : slots + 14 ≤ R.slots) (hd : decode cc pc = .ok (.multianewarray idx 2, 4))
    (kk : ∀ H : Heap, Hk E B (N + 3) (wo (wo (wo ω N (.inl (cII E, 2, .inr (.inr (.inr (.inr (fun i => if i < 2 then some (B + N + 1 + i) else none))))))) (N + 1) (.inl (cI E, 6, .inl (fun _ => 0)))) (N + 2) (.inl (cI E, 6, .inl (fun _ => 0)))) s H locs → W p (eL E) e R s m args below meth c H locs (cells + 3) (slots + 14) Z (F0 m (pc + 4) ls (.ref (B + N) :: rest))) : W p (eL E) e R s m args below meth c H locs cells slots Z (F0 m pc ls (.int 6 :: .int 2 :: rest)) := by
  obtain ⟨z0, hP, hS, hB⟩ := hH
  intro T hT Xs
  obtain ⟨vm₁, cA, comp, -, fA, fC, hO, -, X', step⟩ := Xs.multianewarray2F (ty := .int) (own := own) (index := idx) hx hown (hts _ hcl) (hF.2.2 args) (hts _ hw) (g := F0 m pc ls (.int 6 :: .int 2 :: rest)) rfl (by rw [hb]; exact hd) rfl (by decide) (by decide) (by decide) (by decide) (by decide) (by decide) (by decide) h1 h2
  have eA : some (cII E) = some cA := (hF.1.2 2 _ rfl).2.symm.trans fA
  have eC : some (cI E) = some comp := (hF.1.2 0 _ rfl).2.symm.trans fC
  cases eA
  cases eC
  have hTh : (T.setVm vm₁).heap = H := hT
  obtain ⟨f1, f2, -, -⟩ := Jvm.Free.Multi.fill_facts (T.setVm vm₁) (cII E) (cI E) 2 6 (.int 0) 2
  have f3 := Jvm.Free.Multi.fill_inner (T.setVm vm₁) (cII E) (cI E) 2 6 (.int 0) 2
  have f4 : ∀ x : Nat, x < H.size → (Jvm.Free.Multi.fill (T.setVm vm₁) (cII E) (cI E) 2 6 (.int 0) 2).heap[x]? = H[x]? := fun x hx => by
    have := Jvm.Free.Multi.fill_old (T.setVm vm₁) (cII E) (cI E) 2 6 (.int 0) (a := x) (by rw [hTh]; exact hx) 2
    rw [hTh] at this
    exact this
  rw [hTh, z0] at f1 f2
  rw [hTh, z0] at f3
  rw [k_outer] at f2
  have g1 := f3 0 (by decide)
  have g2 := f3 1 (by decide)
  rw [k_inner] at g1 g2
  have hX := X'
  change Stand p (eL E) e R s m args below meth c (Jvm.Free.Multi.fill (T.setVm vm₁) (cII E) (cI E) 2 6 (.int 0) 2) locs (cells + 3) (slots + 14) at hX
  have st2 := step
  change ∀ target, Steps p.tables e below ((Jvm.Free.Multi.fill (T.setVm vm₁) (cII E) (cI E) 2 6 (.int 0) 2).setTop { F0 m pc ls (.int 6 :: .int 2 :: rest) with pc := pc + 4, stack := .ref T.heap.size :: rest }) target → _ at st2
  generalize Jvm.Free.Multi.fill (T.setVm vm₁) (cII E) (cI E) 2 6 (.int 0) 2 = F at f1 f2 f4 g1 g2 hX st2
  have hP1 : va_P (eD E) vwCl (kl B (N + 3) (wo (wo (wo ω N (.inl (cII E, 2, .inr (.inr (.inr (.inr (fun i => if i < 2 then some (B + N + 1 + i) else none))))))) (N + 1) (.inl (cI E, 6, .inl (fun _ => 0)))) (N + 2) (.inl (cI E, 6, .inl (fun _ => 0))))) F.heap := by
    rw [← kl_push, ← kl_push, ← kl_push]
    refine (((hP.kept (fun k x hx => f4 x.1 ((hP k x hx).lt))).app (fun k x hx => ?_)).app (fun k x hx => ?_)).app (fun k x hx => ?_)
    · have hz : k < 1 := (List.getElem?_eq_some_iff.mp hx).1
      rw [show k = 0 by omega] at hx
      cases hx
      exact f2
    · have hz : k < 1 := (List.getElem?_eq_some_iff.mp hx).1
      rw [show k = 0 by omega] at hx
      cases hx
      exact g1
    · have hz : k < 1 := (List.getElem?_eq_some_iff.mp hx).1
      rw [show k = 0 by omega] at hx
      cases hx
      exact g2
  obtain ⟨t, a1, b1⟩ := kk F.heap ⟨by omega, hP1, ⟨by have := hS.1; omega, fun x h1 h2 => (f4 x (Nat.lt_of_lt_of_le h1 hS.1)).trans (hS.2.1 x h1 h2), hS.2.2⟩, hB⟩ F rfl hX
  refine ⟨t, st2 t ?_, b1⟩
  have e : T.heap.size = B + N := by rw [hT]; exact z0
  rw [e]
  exact a1
theorem blindK {N : Nat} {ω : OW} {vs : List Value} : FrameBlind (PkE E B N ω vs) := fun a U g mk q => ⟨q.1, q.2.1, q.2.2.1, q.2.2.2.calling a g mk⟩
theorem k_call {M2 : Md} {k idx dc ds N' nL : Nat} {ω' : OW} (hM : Mk E M2 B N ω k dc ds N' ω') (hx : p.tables.exec = Jvm.exec) (hb : c.code = cc) (hml : c.maxLocals = nL) (hls : ls.size = nL) (hts : ∀ w ∈ TB, w.before args s = true) (hown : s.vm.findClass own = some m.cls) (hF : Fk E s) (hH : Hk E B N ω s H locs) (hc : Cal M2 0) (hi : Cond.instanceMethod (mNm M2) ∈ TB) (hnm : (mNm M2).name = "<init>") (hr0 : mRet M2 = none)
    (hw : Cond.methodLink own idx (mNm M2) ∈ TB ∨ ∃ host, (own, idx, mNm M2, host) ∈ NS) (hcat : (rest.map fun v => v.category).sum ≤ 8) (hroom : mFr M2 + 1 ≤ R.frames ∧ 8 + (mLoc M2 + 11) + mRm M2 ≤ R.locals) (hcs : cells + dc ≤ R.cells ∧ slots + ds ≤ R.slots) (hd : decode cc pc = .ok (.invokespecial idx, 3))
    (kk : ∀ (H : Heap) (locs : List Loc), Hk E B N' ω' s H locs → W p (eL E) e R s m args below meth c H locs (cells + dc) (slots + ds) Z (F0 m (pc + 3) ls rest)) : W p (eL E) e R s m args below meth c H locs cells slots Z (F0 m pc ls (.ref (B + k) :: rest)) := by
  obtain ⟨z0, hP, hS, hB⟩ := hH
  have hws : mWs M2 = Cond.code (mNm M2) (mCode M2) (mLoc M2) none :: TB := by
    show Cond.code (mNm M2) (mCode M2) (mLoc M2) (mRet M2) :: TB = _
    rw [hr0]
  have hpre : ∀ U : State, U.heap = H → s.WarmedH U.vm → PkE E B N ω [.ref (B + k)] ([Value.ref (B + k)]).toArray U := fun U hU hW => ⟨rfl, by rw [hU]; exact z0, by rw [hU]; exact hP, hF.moved hW⟩
  have fin : ∀ (u : Unit) (t : State) (H1 : Heap) (locs1 : List Loc), t.heap = H1 → s.vm.Alike t.vm → True → (t.heap.size = B + N' ∧ va_P (eD E) vwCl (kl B N' ω') t.heap) → H.size ≤ H1.size → (∀ q : Nat, q < H.size → ¬ B ≤ q → H1[q]? = H[q]?) → va_S (fun q => B ≤ q) s.heap H1 locs1 → W p (eL E) e R s m args below meth c H1 locs1 (cells + dc) (slots + ds) Z (F0 m (pc + 3) ls rest) := by
    intro u t H1 locs1 ht _ _ hq _ _ hS1
    rw [ht] at hq
    exact kk H1 locs1 ⟨hq.1, hq.2, hS1, hB⟩
  rcases hw with hw | ⟨host, hw⟩
  · exact va_callv (va_runI (As := []) (rest := rest) ⟨hx, hb, hml, hown, hts⟩ hM ⟨callB_of 0 hts (gd_TB (mWs_in hc)) hws rfl rfl (hts _ hc.2.2.2.1) (hts _ hw) hc.2.2.2.2 hroom, hnm, hts _ hi⟩ ⟨blindK, hpre⟩ rfl rfl hls rfl (lv_room hcat) hd hcs) hS (fun q _ h => h) (fun q h => h) fin
  · exact va_callv (va_runIN (host := host) (As := []) (rest := rest) ⟨hx, hb, hml, hown, hts⟩ hM ⟨va_cnB 0 hts (gd_TB (mWs_in hc)) hws rfl rfl (hF.2.1 _ hw) (hts _ hc.2.2.2.1) hc.2.2.2.2 hroom, hnm, hts _ hi⟩ ⟨blindK, hpre⟩ rfl rfl hls rfl (lv_room hcat) hd hcs) hS (fun q _ h => h) (fun q h => h) fin
end MC
