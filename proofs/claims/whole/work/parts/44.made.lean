/-! making the objects: cells come one after another, so their addresses are known -/
abbrev OW : Type := Nat → va_E
def wo (ω : OW) (k : Nat) (x : va_E) : OW := fun a => if a = k then x else ω a
def kl (B N : Nat) (ω : OW) : va_W := (List.range N).map (fun k => (B + k, ω k))
theorem kl_at {B N k : Nat} {ω : OW} (hk : k < N) : (kl B N ω)[k]? = some (B + k, ω k) := by
  unfold kl
  rw [List.getElem?_map, List.getElem?_range hk]
  rfl
theorem kl_len {B N : Nat} {ω : OW} : (kl B N ω).length = N := by
  unfold kl
  rw [List.length_map, List.length_range]
theorem kl_no {B N k : Nat} {ω : OW} (hk : ¬ k < N) : (kl B N ω)[k]? = none := List.getElem?_eq_none (by rw [kl_len]; omega)
theorem kl_set {B N k : Nat} {ω : OW} {x : va_E} (hk : k < N) : (kl B N ω).set k (B + k, x) = kl B N (wo ω k x) := by
  apply List.ext_getElem?
  intro i
  by_cases hi : i = k
  · subst hi
    rw [List.getElem?_set_self (by rw [kl_len]; exact hk), kl_at hk]
    exact congrArg (fun z => some (B + i, z)) (if_pos rfl).symm
  · rw [List.getElem?_set_ne (Ne.symm hi)]
    by_cases hl : i < N
    · rw [kl_at hl, kl_at hl]
      exact congrArg (fun z => some (B + i, z)) (if_neg hi).symm
    · rw [kl_no hl, kl_no hl]
theorem kl_push {B N : Nat} {ω : OW} {x : va_E} : kl B N ω ++ [(B + N, x)] = kl B (N + 1) (wo ω N x) := by
  apply List.ext_getElem?
  intro i
  by_cases h1 : i < N
  · rw [List.getElem?_append_left (by rw [kl_len]; exact h1), kl_at h1, kl_at (by omega)]
    exact congrArg (fun z => some (B + i, z)) (if_neg (by omega)).symm
  · rw [List.getElem?_append_right (by rw [kl_len]; omega), kl_len]
    by_cases h2 : i = N
    · subst h2
      rw [kl_at (by omega), Nat.sub_self]
      exact congrArg (fun z => some (B + i, z)) (if_pos rfl).symm
    · rw [kl_no (by omega)]
      exact List.getElem?_eq_none (by simp; omega)
theorem kl_D {B N : Nat} {ω : OW} : va_D (fun q => B ≤ q) (kl B N ω) := by
  have key : ∀ (k : Nat) (q : Nat × va_E), (kl B N ω)[k]? = some q → q.1 = B + k := by
    intro k q hq
    by_cases hk : k < N
    · rw [kl_at hk] at hq
      cases hq
      rfl
    · rw [kl_no hk] at hq
      cases hq
  refine ⟨fun i j x y hi hj hxy => ?_, fun k q hk => ?_⟩
  · have := key i x hi
    have := key j y hj
    omega
  · have := key k q hk
    show B ≤ q.1
    omega
def AOA (U : State) : Prop := ∀ a : Array Value, (Cond.arrayOver (.array .int)).before a U = true
def Fk (E : EE) (U : State) : Prop := va_K (eD E) vwCl (tysE E) U ∧ (∀ q ∈ NS, va_Nw (.methodLinkNest q.1 q.2.1 q.2.2.1 q.2.2.2) U) ∧ AOA U
theorem AOA.moved {s U : State} (hal : s.vm.Alike U.vm) (h : AOA s) : AOA U := fun a => Jvm.Stand.arrayOver_alikeB hal (h #[])
theorem Fk.moved {E : EE} {s U : State} (hW : s.WarmedH U.vm) (h : Fk E s) : Fk E U := ⟨va_K.moved hW.alike h.1, fun q hq => va_Nw.warmM hW (h.2.1 q hq), h.2.2.moved hW.alike⟩
theorem Fk.calling {E : EE} {U : State} (a : Array Value) (g : JFrame) (mk : MethodId) (h : Fk E U) : Fk E (U.calling g mk a) :=
  ⟨va_K.moved (u := U) (U := U.calling g mk a) (Vm.Alike.refl U.vm) h.1, fun q hq => va_Nw.same (u := U) rfl rfl (h.2.1 q hq), AOA.moved (s := U) (U := U.calling g mk a) (Vm.Alike.refl U.vm) h.2.2⟩
def Hk (E : EE) (B N : Nat) (ω : OW) (s : State) (H : Heap) (locs : List Loc) : Prop := H.size = B + N ∧ va_P (eD E) vwCl (kl B N ω) H ∧ va_S (fun q => B ≤ q) s.heap H locs ∧ B ≤ s.heap.size
section MK
variable {p : Program} {e : Env} {R : Room} {s : State} {m : MethodId} {args : Array Value} {below : List Frame} {meth : Method} {c : Code} {cells slots : Nat} {Z : State → Prop} {E : EE} {H : Heap} {locs : List Loc} {ls : Array Slot} {B N : Nat} {ω : OW} {cc : ByteArray} {pc : Nat} {rest : List Value} {own : String}
theorem k_new (hx : p.tables.exec = Jvm.exec) (hb : c.code = cc) (hts : ∀ w ∈ TB, w.before args s = true) (hown : s.vm.findClass own = some m.cls) (hF : Fk E s) (hH : Hk E B N ω s H locs) {ci idx n : Nat} {C : String} {T : u_T} (hc : vwCl[ci]? = some (C, T, n)) (hcl : Cond.classLink own idx C ∈ TB) (hi : Cond.instantiable C n ∈ TB) (hn : Cond.initialized C ∈ TB) {fs : List Value} (hfs : ∀ j, j < n → defaultValue (tyCl ci j) = vp_V fs j) (h1 : cells + 1 ≤ R.cells) (h2 : slots + n ≤ R.slots) (hd : decode cc pc = .ok (.new idx, 3))
    (kk : ∀ H : Heap, Hk E B (N + 1) (wo ω N (.inr (ci, fs))) s H locs → W p (eL E) e R s m args below meth c H locs (cells + 1) (slots + n) Z (F0 m (pc + 3) ls (.ref (B + N) :: rest))) : W p (eL E) e R s m args below meth c H locs cells slots Z (F0 m pc ls rest) := by
  obtain ⟨z0, hP, hS, hB⟩ := hH
  have hKn := hF.1.1 ci _ hc
  refine W.newcK hx hb hown (hts _ hcl) (hts _ hi) (hts _ hn) rfl hd h1 h2 hKn.2.1 rfl fun H1 kC hkC e1 z1 o1 => ?_
  have hk : ∀ (k : Nat) (x : Nat × va_E), (kl B N ω)[k]? = some x → H1[x.1]? = H[x.1]? := fun k x hx => o1 x.1 ((hP k x hx).lt)
  have hP1 : va_P (eD E) vwCl (kl B (N + 1) (wo ω N (.inr (ci, fs)))) H1 := by
    rw [← kl_push]
    refine (hP.kept hk).app (fun k x hx => ?_)
    have hz : k < 1 := (List.getElem?_eq_some_iff.mp hx).1
    rw [show k = 0 by omega] at hx
    cases hx
    rw [← z0]
    exact ⟨_, hc, (u_born (tyCl ci) hts (inT hc) hKn hkC e1 (tyCl_ok hc).1).to hfs⟩
  have := kk H1 ⟨by omega, hP1, ⟨Nat.le_trans hS.1 (by omega), fun x h1 h2 => (o1 x (Nat.lt_of_lt_of_le h1 hS.1)).trans (hS.2.1 x h1 h2), hS.2.2⟩, hB⟩
  rw [← z0] at this
  exact this
theorem k_newa (hx : p.tables.exec = Jvm.exec) (hb : c.code = cc) (hF : Fk E s) (hH : Hk E B N ω s H locs) {atype : ArrayType} {ty : FieldType} {cA : ClassId} (harr : (Cond.arrayClass (newarray.typeOf atype)).before args s = true) (hty : newarray.typeOf atype = ty) (hcA : s.vm.findClass ("[" ++ (newarray.typeOf atype).toString) = some cA) {n : Int32} {n' : Nat} {a0 : vp_A} (ha : ∀ cA : ClassId, vp_cell cA a0 = arrV cA n' (fun _ => defaultValue ty)) (hn : ¬ n < 0) (hN : n.toNatClampNeg = n') (hbytes : n' * componentBytes ty ≤ 536870912) (h1 : cells + 1 ≤ R.cells) (h2 : slots + n' ≤ R.slots) (hd : decode cc pc = .ok (.newarray atype, 2))
    (kk : ∀ H : Heap, Hk E B (N + 1) (wo ω N (.inl (cA, a0))) s H locs → W p (eL E) e R s m args below meth c H locs (cells + 1) (slots + n') Z (F0 m (pc + 2) ls (.ref (B + N) :: rest))) : W p (eL E) e R s m args below meth c H locs cells slots Z (F0 m pc ls (.int n :: rest)) := by
  obtain ⟨z0, hP, hS, hB⟩ := hH
  subst hty
  refine va_newaK hx hb harr rfl hd rfl hn hN hbytes h1 h2 rfl fun H1 cA' e1 z1 o1 hAr hNm => ?_
  have ec : some cA = some cA' := hcA.symm.trans hNm
  cases ec
  have hk : ∀ (k : Nat) (x : Nat × va_E), (kl B N ω)[k]? = some x → H1[x.1]? = H[x.1]? := fun k x hx => o1 x.1 ((hP k x hx).lt)
  have hP1 : va_P (eD E) vwCl (kl B (N + 1) (wo ω N (.inl (cA, a0)))) H1 := by
    rw [← kl_push]
    refine (hP.kept hk).app (fun k x hx => ?_)
    have hz : k < 1 := (List.getElem?_eq_some_iff.mp hx).1
    rw [show k = 0 by omega] at hx
    cases hx
    show H1[B + N]? = some (vp_cell _ _)
    rw [ha, ← z0]
    exact e1
  have := kk H1 ⟨by omega, hP1, ⟨Nat.le_trans hS.1 (by omega), fun x h1 h2 => (o1 x (Nat.lt_of_lt_of_le h1 hS.1)).trans (hS.2.1 x h1 h2), hS.2.2⟩, hB⟩
  rw [← z0] at this
  exact this
/-- the arrays of the program -/
theorem k_ints (hx : p.tables.exec = Jvm.exec) (hb : c.code = cc) (hts : ∀ w ∈ TB, w.before args s = true) (hF : Fk E s) (hH : Hk E B N ω s H locs) (hw : Cond.arrayClass .int ∈ TB) {n : Int32} (n' : Nat) (hn : ¬ n < 0) (hN : n.toNatClampNeg = n') (hs : n' ≤ 100) (h1 : cells + 1 ≤ R.cells) (h2 : slots + n' ≤ R.slots) (hd : decode cc pc = .ok (.newarray .int, 2))
    (kk : ∀ H : Heap, Hk E B (N + 1) (wo ω N (.inl (cI E, n', .inl (fun _ => 0)))) s H locs → W p (eL E) e R s m args below meth c H locs (cells + 1) (slots + n') Z (F0 m (pc + 2) ls (.ref (B + N) :: rest))) : W p (eL E) e R s m args below meth c H locs cells slots Z (F0 m pc ls (.int n :: rest)) :=
  k_newa (atype := .int) (ty := .int) (cA := cI E) (a0 := (n', .inl (fun _ => 0))) hx hb hF hH (hts _ hw) rfl (hF.1.2 0 _ rfl).2 (fun cA => rfl) hn hN (by show n' * 4 ≤ _; omega) h1 h2 hd kk
theorem k_bools (hx : p.tables.exec = Jvm.exec) (hb : c.code = cc) (hts : ∀ w ∈ TB, w.before args s = true) (hF : Fk E s) (hH : Hk E B N ω s H locs) (hw : Cond.arrayClass .boolean ∈ TB) {n : Int32} (n' : Nat) (hn : ¬ n < 0) (hN : n.toNatClampNeg = n') (hs : n' ≤ 100) (h1 : cells + 1 ≤ R.cells) (h2 : slots + n' ≤ R.slots) (hd : decode cc pc = .ok (.newarray .boolean, 2))
    (kk : ∀ H : Heap, Hk E B (N + 1) (wo ω N (.inl (cZ E, n', .inl (fun _ => 0)))) s H locs → W p (eL E) e R s m args below meth c H locs (cells + 1) (slots + n') Z (F0 m (pc + 2) ls (.ref (B + N) :: rest))) : W p (eL E) e R s m args below meth c H locs cells slots Z (F0 m pc ls (.int n :: rest)) :=
  k_newa (atype := .boolean) (ty := .boolean) (cA := cZ E) (a0 := (n', .inl (fun _ => 0))) hx hb hF hH (hts _ hw) rfl (hF.1.2 1 _ rfl).2 (fun cA => rfl) hn hN (by show n' * 1 ≤ _; omega) h1 h2 hd kk
theorem k_put (hx : p.tables.exec = Jvm.exec) (hb : c.code = cc) (hts : ∀ w ∈ TB, w.before args s = true) (hown : s.vm.findClass own = some m.cls) (hF : Fk E s) (hin : meth.name = "<init>") (hH : Hk E B N ω s H locs) {k j ci n idx : Nat} {C : String} {T : u_T} {fs : List Value} {v : Value} (hk : k < N) (he : ω k = .inr (ci, fs)) (hc : vwCl[ci]? = some (C, T, n)) (hj : j < n) (hl : j < fs.length) (hw : Cond.fieldLink own idx (T j).1 (T j).2.1 (T j).2.2.1 ∈ TB) (ho : (T j).2.2.2 = true → (T j).1 = own) (hn : narrow (tyCl ci j) v = v) (hfit : fits (tyCl ci j) v = true) (hd : decode cc pc = .ok (.putfield idx, 3))
    (kk : ∀ (H : Heap) (locs : List Loc), Hk E B N (wo ω k (.inr (ci, fs.set j v))) s H locs → W p (eL E) e R s m args below meth c H locs cells slots Z (F0 m (pc + 3) ls rest)) : W p (eL E) e R s m args below meth c H locs cells slots Z (F0 m pc ls (v :: .ref (B + k) :: rest)) := by
  obtain ⟨z0, hP, hS, hB⟩ := hH
  obtain ⟨t1, t2⟩ := tyCl_ok hc
  have he' : (kl B N ω)[k]? = some (B + k, .inr (ci, fs)) := by rw [kl_at hk, he]
  have hap := va_apart (own := own) hts (inT hc) (tyCl ci) t1 t2 hF.1 hc
  obtain ⟨r, h1, cell, q1, q2, q3, q4⟩ := hP k _ he'
  have hr : r = (C, T, n) := Option.some.inj (h1.symm.trans hc)
  subst hr
  obtain ⟨hS1, hfc, kC, hkC, hkind⟩ := hF.1.1 ci _ hc
  obtain ⟨cf, kf, fi, f, hi, hsl⟩ := hS1 j hj
  have hlay := hts _ (inT hc _ (u_in_lay hj))
  unfold u_lay at hlay
  have hst := (u_facts hfc hkC (u_lays hts (inT hc) hj) hi).1
  by_cases hfin : (T j).2.2.2 = true
  · rw [if_pos hfin] at hlay
    have hcf : m.cls = cf := by
      obtain ⟨_, _, c', _, _, _, -, -, hf', -, -, -, hown2, -⟩ := Cond.laysFinal_spec hlay
      have e1 : c' = cf := by have := hi.symm.trans hf'; simp at this; exact this.1.symm
      rw [ho hfin] at hown2
      rw [← e1]; exact Option.some.inj (hown.symm.trans hown2)
    have h6 := u_fits hfc hkC hkind (Or.inr hlay) hi (t1 j hj) hn hfit
    refine W.putFinK hx hb hown (hts _ hw) hi hst hcf hin (by rw [q2]; exact h6) q1 q3 (by rw [hsl]; exact k2_hasslot (q4 j hj)) rfl rfl hd fun H' e1 e2 e3 => ?_
    rw [hsl] at e1 ⊢
    refine kk H' _ ⟨by rw [e2]; exact z0, ?_, hS.put e2 e3 (kl_D.2 k _ he'), hB⟩
    rw [← kl_set hk]
    exact hP.set kl_D he' ⟨_, hc, t_OB.to (V := updV (vp_V fs) j v) ⟨_, e1, q2, q3, t_set q4 hap hj v⟩ (fun j _ => vp_updV_set hl v j)⟩ e3
  · rw [if_neg hfin] at hlay
    have h6 := u_store hfc hkC hkind hlay hi (t1 j hj) hn hfit
    refine W.putK hx hb (f := f) ⟨hown, hts _ hw, ⟨_, _, _, hi⟩, hst⟩ (by rw [q2]; exact h6) q1 q3 (by rw [hsl]; exact k2_hasslot (q4 j hj)) rfl rfl hd fun H' e1 e2 e3 => ?_
    rw [hsl] at e1 ⊢
    refine kk H' _ ⟨by rw [e2]; exact z0, ?_, hS.put e2 e3 (kl_D.2 k _ he'), hB⟩
    rw [← kl_set hk]
    exact hP.set kl_D he' ⟨_, hc, t_OB.to (V := updV (vp_V fs) j v) ⟨_, e1, q2, q3, t_set q4 hap hj v⟩ (fun j _ => vp_updV_set hl v j)⟩ e3
end MK
