/-! rows over the fixed heap: fields, arrays, calls, returns -/
section MR
variable {p : Program} {e : Env} {R : Room} {s : State} {m : MethodId} {args : Array Value} {below : List Frame} {meth : Method} {c : Code} {H : Heap} {locs : List Loc} {cells slots : Nat} {Z : State → Prop}
variable {E : EE} {M : Md} {σ : Mm} {pc : Nat} {ls : Array Slot} {rest : List Value} {lv : List (Nat × Value)}
theorem inT {ci : Nat} {C : String} {T : u_T} {N : Nat} (h : vwCl[ci]? = some (C, T, N)) : ∀ w ∈ u_ws C T N, w ∈ TB := by
  have key : ∀ q ∈ vwCl, ∀ w ∈ u_ws q.1 q.2.1 q.2.2, w ∈ TB := kW_all
  exact key (C, T, N) (List.mem_of_getElem? h)
theorem m_geti (C0 : Cx E M p R s m args c cells slots) (hH : Hd E σ s H locs) {k j ci N idx : Nat} {C : String} {T : u_T} (hf : Fdd k j ci C T N 0) (hw : Cond.fieldLink (mOwn M) idx (T j).1 (T j).2.1 (T j).2.2.1 ∈ TB) (hd : decode (mCode M) pc = .ok (.getfield idx, 3)) {x : Int32} (hv : σ k j = x)
    (kk : W p (eL E) e R s m args below meth c H locs cells slots Z (F0 m (pc + 3) ls (.int x :: rest))) : W p (eL E) e R s m args below meth c H locs cells slots Z (F0 m pc ls (.ref (Ad E k) :: rest)) := by
  obtain ⟨h1, h2, h3, h4, h5, h6, h7, h8⟩ := hf
  subst h2
  obtain ⟨hx, hb, hml, hown, hts, hF, -⟩ := C0
  refine va_get (ref := (T j).1) hx hb hts (inT h3) hown hF.1 hH.1 k (by rw [wl_at h1, ce_obj rfl h7]) h3 j h5 (hts _ hw) (fun _ h9 => h9) (v := .int x) (by rw [fo_at (by omega), fv_i h6, hv]) hd kk
theorem m_getl (C0 : Cx E M p R s m args c cells slots) (hH : Hd E σ s H locs) {k j ci N idx : Nat} {C : String} {T : u_T} (hf : Fdd k j ci C T N 1) (hw : Cond.fieldLink (mOwn M) idx (T j).1 (T j).2.1 (T j).2.2.1 ∈ TB) (hd : decode (mCode M) pc = .ok (.getfield idx, 3)) {x : Int64} (hv : jn (σ k j) (σ k (j + 1000)) = x)
    (kk : W p (eL E) e R s m args below meth c H locs cells slots Z (F0 m (pc + 3) ls (.long x :: rest))) : W p (eL E) e R s m args below meth c H locs cells slots Z (F0 m pc ls (.ref (Ad E k) :: rest)) := by
  obtain ⟨h1, h2, h3, h4, h5, h6, h7, h8⟩ := hf
  subst h2
  obtain ⟨hx, hb, hml, hown, hts, hF, -⟩ := C0
  refine va_get (ref := (T j).1) hx hb hts (inT h3) hown hF.1 hH.1 k (by rw [wl_at h1, ce_obj rfl h7]) h3 j h5 (hts _ hw) (fun _ h9 => h9) (v := .long x) (by rw [fo_at (by omega), fv_l h6, hv]) hd kk
theorem m_getr (C0 : Cx E M p R s m args c cells slots) (hH : Hd E σ s H locs) {k j ci N idx : Nat} {C : String} {T : u_T} (hf : Fdd k j ci C T N 2) (r : Nat) (hr : rf k j = r) (hw : Cond.fieldLink (mOwn M) idx (T j).1 (T j).2.1 (T j).2.2.1 ∈ TB) (hd : decode (mCode M) pc = .ok (.getfield idx, 3))
    (kk : W p (eL E) e R s m args below meth c H locs cells slots Z (F0 m (pc + 3) ls (.ref (Ad E r) :: rest))) : W p (eL E) e R s m args below meth c H locs cells slots Z (F0 m pc ls (.ref (Ad E k) :: rest)) := by
  obtain ⟨h1, h2, h3, h4, h5, h6, h7, h8⟩ := hf
  subst h2
  subst hr
  obtain ⟨hx, hb, hml, hown, hts, hF, -⟩ := C0
  refine va_get (ref := (T j).1) hx hb hts (inT h3) hown hF.1 hH.1 k (by rw [wl_at h1, ce_obj rfl h7]) h3 j h5 (hts _ hw) (fun _ h9 => h9) (v := .ref (Ad E (rf k j))) (by rw [fo_at (by omega), fv_r h6]) hd kk
/-- the types of a class's fields, and that their names differ -/
def tyCl (ci : Nat) : Nat → FieldType := match ci with
  | 0 => tyX0 | 1 => tyX1 | 2 => tyX2 | 3 => tyX3 | 4 => tyX4 | 5 => tyX5 | 6 => tyX6 | 7 => tyX7 | 8 => tyX8 | 9 => tyX9 | _ => tyX10
theorem tyCl_ok {ci : Nat} {C : String} {T : u_T} {N : Nat} (h : vwCl[ci]? = some (C, T, N)) : (∀ k, k < N → parseFieldDescriptor (T k).2.2.1 = some (tyCl ci k)) ∧ (∀ a, a < N → ∀ b, b < N → a ≠ b → (T a).2.1 ≠ (T b).2.1) := by
  match ci, h with
  | 0, h => cases h; exact ⟨tyX0_ok, nmX0⟩
  | 1, h => cases h; exact ⟨tyX1_ok, nmX1⟩
  | 2, h => cases h; exact ⟨tyX2_ok, nmX2⟩
  | 3, h => cases h; exact ⟨tyX3_ok, nmX3⟩
  | 4, h => cases h; exact ⟨tyX4_ok, nmX4⟩
  | 5, h => cases h; exact ⟨tyX5_ok, nmX5⟩
  | 6, h => cases h; exact ⟨tyX6_ok, nmX6⟩
  | 7, h => cases h; exact ⟨tyX7_ok, nmX7⟩
  | 8, h => cases h; exact ⟨tyX8_ok, nmX8⟩
  | 9, h => cases h; exact ⟨tyX9_ok, nmX9⟩
  | 10, h => cases h; exact ⟨tyX10_ok, nmX10⟩
  | ci + 11, h => simp [vwCl] at h
theorem m_put {v : Value} {τ : Mm} (C0 : Cx E M p R s m args c cells slots) (hH : Hd E σ s H locs) {k j ci N idx t : Nat} {C : String} {T : u_T} (hf : Fdd k j ci C T N t) (hw : Cond.fieldLink (mOwn M) idx (T j).1 (T j).2.1 (T j).2.2.1 ∈ TB) (hnf : (T j).2.2.2 = false) (hd : decode (mCode M) pc = .ok (.putfield idx, 3)) (hn : narrow (tyCl ci j) v = v) (hfit : fits (tyCl ci j) v = true)
    (hτ : ∀ a, a ≠ k → τ a = σ a) (hset : (fo E k (σ k)).set j v = fo E k (τ k))
    (kk : ∀ (H : Heap) (locs : List Loc), Hd E τ s H locs → W p (eL E) e R s m args below meth c H locs cells slots Z (F0 m (pc + 3) ls rest)) : W p (eL E) e R s m args below meth c H locs cells slots Z (F0 m pc ls (v :: .ref (Ad E k) :: rest)) := by
  obtain ⟨h1, h2, h3, h4, h5, h6, h7, h8⟩ := hf
  subst h2
  obtain ⟨hx, hb, hml, hown, hts, hF, -⟩ := C0
  obtain ⟨t1, t2⟩ := tyCl_ok h3
  refine va_put (ref := (T j).1) hx hb hts (inT h3) (tyCl (kd k)) t1 t2 hown hF.1 hH.1 (wl_D hF.2.2.2.2.2) hH.2 k (by rw [wl_at h1, ce_obj rfl h7]) h3 j h5 (hts _ hw) (fun _ h9 => h9) hnf (t1 j h5) hn hfit (by rw [fo_len]; omega) hd (fun H locs hP hD hS => ?_)
  rw [hset, ← ce_obj (E := E) (k := k) (f := τ k) rfl h7, wl_set h1 hτ] at hP
  exact kk H locs ⟨hP, hS⟩
theorem m_puti (C0 : Cx E M p R s m args c cells slots) (hH : Hd E σ s H locs) {k j ci N idx : Nat} {C : String} {T : u_T} {x : Int32} (hf : Fdd k j ci C T N 0) (hw : Cond.fieldLink (mOwn M) idx (T j).1 (T j).2.1 (T j).2.2.1 ∈ TB) (hnf : (T j).2.2.2 = false) (hd : decode (mCode M) pc = .ok (.putfield idx, 3)) (hn : narrow (tyCl ci j) (.int x) = .int x) (hfit : fits (tyCl ci j) (.int x) = true)
    (kk : ∀ (H : Heap) (locs : List Loc), Hd E (up σ k j x) s H locs → W p (eL E) e R s m args below meth c H locs cells slots Z (F0 m (pc + 3) ls rest)) : W p (eL E) e R s m args below meth c H locs cells slots Z (F0 m pc ls (.int x :: .ref (Ad E k) :: rest)) := by
  have hf' := hf
  obtain ⟨h1, h2, h3, h4, h5, h6, h7, h8⟩ := hf
  subst h2
  refine m_put (τ := up σ k j x) C0 hH hf' hw hnf hd hn hfit (fun a h => up_ne h) ?_ kk
  rw [up_eq]
  refine fo_set (by omega) (by rw [fv_i h6, upd_eq]) (fun i hi hne => fv_ne (upd_ne hne) (upd_ne (by omega)))
theorem m_putl (C0 : Cx E M p R s m args c cells slots) (hH : Hd E σ s H locs) {k j ci N idx : Nat} {C : String} {T : u_T} {x : Int64} (hf : Fdd k j ci C T N 1) (hw : Cond.fieldLink (mOwn M) idx (T j).1 (T j).2.1 (T j).2.2.1 ∈ TB) (hnf : (T j).2.2.2 = false) (hd : decode (mCode M) pc = .ok (.putfield idx, 3)) (hn : narrow (tyCl ci j) (.long x) = .long x) (hfit : fits (tyCl ci j) (.long x) = true)
    (kk : ∀ (H : Heap) (locs : List Loc), Hd E (up (up σ k j (jlo x)) k (j + 1000) (jhi x)) s H locs → W p (eL E) e R s m args below meth c H locs cells slots Z (F0 m (pc + 3) ls rest)) : W p (eL E) e R s m args below meth c H locs cells slots Z (F0 m pc ls (.long x :: .ref (Ad E k) :: rest)) := by
  have hf' := hf
  obtain ⟨h1, h2, h3, h4, h5, h6, h7, h8⟩ := hf
  subst h2
  refine m_put (τ := up (up σ k j (jlo x)) k (j + 1000) (jhi x)) C0 hH hf' hw hnf hd hn hfit (fun a h => by rw [up_ne h, up_ne h]) ?_ kk
  rw [up_eq, up_eq]
  refine fo_set (by omega) (by rw [fv_l h6, upd_eq, upd_ne (by omega), upd_eq, jn_eq]) (fun i hi hne => fv_ne (by rw [upd_ne (by omega), upd_ne hne]) (by rw [upd_ne (by omega), upd_ne (by omega)]))
theorem ce_i {k n : Nat} {f : Nat → Int32} (h : Ar k 100 n) : ce E k f = .inl (cI E, n, .inl f) := by
  obtain ⟨h1, h2, h3⟩ := h
  unfold ce
  rw [if_pos h2, h3]
theorem ce_z {k n : Nat} {f : Nat → Int32} (h : Ar k 101 n) : ce E k f = .inl (cZ E, n, .inl f) := by
  obtain ⟨h1, h2, h3⟩ := h
  unfold ce
  rw [if_neg (by omega), if_pos h2, h3]
theorem ce_r {k n : Nat} {f : Nat → Int32} (h : Ar k 102 n) : ce E k f = .inl (cII E, n, .inr (.inr (.inr (.inr (fun i => if i < n then some (Ad E (rf k i)) else none))))) := by
  obtain ⟨h1, h2, h3⟩ := h
  subst h3
  unfold ce
  rw [if_neg (by omega), if_neg (by omega), if_pos h2]
theorem m_iald (C0 : Cx E M p R s m args c cells slots) (hH : Hd E σ s H locs) {k n : Nat} (hf : Ar k 100 n) {i : Int32} (hin : vp_in i n) (hd : decode (mCode M) pc = .ok (.iaload, 1)) {x : Int32} (hv : σ k i.toNatClampNeg = x)
    (kk : W p (eL E) e R s m args below meth c H locs cells slots Z (F0 m (pc + 1) ls (.int x :: rest))) : W p (eL E) e R s m args below meth c H locs cells slots Z (F0 m pc ls (.int i :: .ref (Ad E k) :: rest)) := by
  subst hv
  obtain ⟨hx, hb, hml, hown, hts, hF, -⟩ := C0
  exact va_iald hx hb hF.1 hH.1 k 0 (by rw [wl_at hf.1, ce_i hf]) rfl hin hd kk
theorem m_iast (C0 : Cx E M p R s m args c cells slots) (hH : Hd E σ s H locs) {k n j : Nat} (hf : Ar k 100 n) {i x : Int32} (hin : vp_in i n) (hj : i.toNatClampNeg = j) (hd : decode (mCode M) pc = .ok (.iastore, 1))
    (kk : ∀ (H : Heap) (locs : List Loc), Hd E (up σ k j x) s H locs → W p (eL E) e R s m args below meth c H locs cells slots Z (F0 m (pc + 1) ls rest)) : W p (eL E) e R s m args below meth c H locs cells slots Z (F0 m pc ls (.int x :: .int i :: .ref (Ad E k) :: rest)) := by
  subst hj
  obtain ⟨hx, hb, hml, hown, hts, hF, -⟩ := C0
  refine va_iast hx hb hF.1 hH.1 (wl_D hF.2.2.2.2.2) hH.2 k 0 (by rw [wl_at hf.1, ce_i hf]) rfl hin hd (fun H locs hP hD hS => ?_)
  have e1 : ce E k (up σ k i.toNatClampNeg x k) = .inl (cI E, n, .inl (upd (σ k) i.toNatClampNeg x)) := by rw [up_eq, ce_i hf]
  rw [← e1, wl_set hf.1 (fun a h => up_ne h)] at hP
  exact kk H locs ⟨hP, hS⟩
theorem m_zald (C0 : Cx E M p R s m args c cells slots) (hH : Hd E σ s H locs) {k n : Nat} (hf : Ar k 101 n) {i : Int32} (hin : vp_in i n) (hd : decode (mCode M) pc = .ok (.baload, 1)) {x : Int32} (hv : σ k i.toNatClampNeg = x)
    (kk : W p (eL E) e R s m args below meth c H locs cells slots Z (F0 m (pc + 1) ls (.int x :: rest))) : W p (eL E) e R s m args below meth c H locs cells slots Z (F0 m pc ls (.int i :: .ref (Ad E k) :: rest)) := by
  subst hv
  obtain ⟨hx, hb, hml, hown, hts, hF, -⟩ := C0
  exact va_zald hx hb hF.1 hH.1 k 1 (by rw [wl_at hf.1, ce_z hf]) rfl hin hd kk
theorem m_zast (C0 : Cx E M p R s m args c cells slots) (hH : Hd E σ s H locs) {k n j : Nat} (hf : Ar k 101 n) {i x : Int32} (hin : vp_in i n) (hj : i.toNatClampNeg = j) (hd : decode (mCode M) pc = .ok (.bastore, 1))
    (kk : ∀ (H : Heap) (locs : List Loc), Hd E (up σ k j (vp_nar .boolean x)) s H locs → W p (eL E) e R s m args below meth c H locs cells slots Z (F0 m (pc + 1) ls rest)) : W p (eL E) e R s m args below meth c H locs cells slots Z (F0 m pc ls (.int x :: .int i :: .ref (Ad E k) :: rest)) := by
  subst hj
  obtain ⟨hx, hb, hml, hown, hts, hF, -⟩ := C0
  refine va_zast hx hb hF.1 hH.1 (wl_D hF.2.2.2.2.2) hH.2 k 1 (by rw [wl_at hf.1, ce_z hf]) rfl hin hd (fun H locs hP hD hS => ?_)
  have e1 : ce E k (up σ k i.toNatClampNeg (vp_nar .boolean x) k) = .inl (cZ E, n, .inl (upd (σ k) i.toNatClampNeg (vp_nar .boolean x))) := by rw [up_eq, ce_z hf]
  rw [← e1, wl_set hf.1 (fun a h => up_ne h)] at hP
  exact kk H locs ⟨hP, hS⟩
theorem m_aald (C0 : Cx E M p R s m args c cells slots) (hH : Hd E σ s H locs) {k n : Nat} (hf : Ar k 102 n) {i : Int32} (hin : vp_in i n) (hd : decode (mCode M) pc = .ok (.aaload, 1)) {r : Nat} (hv : rf k i.toNatClampNeg = r)
    (kk : W p (eL E) e R s m args below meth c H locs cells slots Z (F0 m (pc + 1) ls (.ref (Ad E r) :: rest))) : W p (eL E) e R s m args below meth c H locs cells slots Z (F0 m pc ls (.int i :: .ref (Ad E k) :: rest)) := by
  subst hv
  obtain ⟨hx, hb, hml, hown, hts, hF, -⟩ := C0
  have hlt : i.toNatClampNeg < n := Nat.not_le.mp fun q => hin (Or.inr q)
  have ha : (wl E σ)[k]? = some (Ad E k, .inl (cII E, n, .inr (.inr (.inr (.inr (fun i => if i < n then some (Ad E (rf k i)) else none)))))) := by rw [wl_at hf.1, ce_r hf]
  refine W.aald (v := .ref (Ad E (rf k i.toNatClampNeg))) (ty := .array .int) hx hb (hH.1 k _ ha) ((hF.1.2 2 _ rfl).1 n (fun j => va_rf (if j < n then some (Ad E (rf k j)) else none))) rfl (fun q => by cases q) (by show ¬ (i < 0 ∨ (arrV _ _ _).slots.size ≤ _); rw [arrV_size]; exact hin) (by show (arrV _ _ _).slots[_]? = _; rw [arrV_read _ _ hlt]; simp only [if_pos hlt]; rfl) rfl rfl hd kk
theorem m_alen (C0 : Cx E M p R s m args c cells slots) (hH : Hd E σ s H locs) {k n : Nat} (hf : Ar k 100 n) (hd : decode (mCode M) pc = .ok (.arraylength, 1)) {x : Int32} (hv : Int32.ofNat n = x)
    (kk : W p (eL E) e R s m args below meth c H locs cells slots Z (F0 m (pc + 1) ls (.int x :: rest))) : W p (eL E) e R s m args below meth c H locs cells slots Z (F0 m pc ls (.ref (Ad E k) :: rest)) := by
  obtain ⟨hx, hb, hml, hown, hts, hF, -⟩ := C0
  exact va_alen hx hb hF.1 hH.1 k 0 (by rw [wl_at hf.1, ce_i hf]) rfl hv hd kk
/-- behind a call -/
theorem m_after {Q : Option Value → Mm → Prop} {a : Array Value} {st0 : List Value} (hr : va_Run p (eL E) e R s m args below meth c H locs cells slots 0 0 (F0 m pc ls st0) rest (QcE E Q a) (Aw E)) (hS : va_S (Aw E) s.heap H locs)
    (kk : ∀ (r : Option Value) (τ : Mm) (H : Heap) (locs : List Loc), Q r τ → Hd E τ s H locs → W p (eL E) e R s m args below meth c H locs cells slots Z (F0 m (pc + 3) ls (r.toList ++ rest))) : W p (eL E) e R s m args below meth c H locs cells slots Z (F0 m pc ls st0) := by
  intro T hT X
  obtain ⟨v, st₀, t, T', L, h0, X', hL, e1, e2, ⟨⟨r, τ, hv, hq, hP⟩, hz, hk⟩, st⟩ := hr T hT X
  cases hv
  rw [h0] at hz hk
  obtain ⟨t2, a1, b1⟩ := kk v τ T'.heap (locs ++ L) hq ⟨by rw [e1]; exact hP, Nat.le_trans hS.1 (by rw [e1]; exact hz), fun q h1 h2 => by rw [e1, hk q (Nat.lt_of_lt_of_le h1 hS.1) h2]; exact hS.2.1 q h1 h2, fun q hq => by
      rcases List.mem_append.mp hq with h | h
      · exact hS.2.2 q h
      · exact hL q h⟩ T' rfl X'
  exact ⟨t2, st t2 a1, b1⟩
theorem mWs_in {M2 : Md} {n : Nat} (h : Cal M2 n) : ∀ w ∈ mWs M2, w ∈ TB := fun w hw => by
  rcases List.mem_cons.mp hw with e | h2
  · rw [e]; exact h.2.2.1
  · exact h2
theorem blind {vs : List Value} : FrameBlind (PcE E σ vs) := fun a U g mk q => ⟨q.1, q.2.1, q.2.2.calling a g mk⟩
theorem m_pre {vs : List Value} (C0 : Cx E M p R s m args c cells slots) (hH : Hd E σ s H locs) : ∀ U : State, U.heap = H → s.WarmedH U.vm → PcE E σ vs vs.toArray U := fun U hU hW => ⟨rfl, by rw [hU]; exact hH.1, by rw [hU]; exact (C0.2.2.2.2.2.1.kept hH.2).moved hW⟩
theorem m_cV {M2 : Md} {Q : Option Value → Mm → Prop} {k ci idx n : Nat} {C : String} {T : u_T} {N : Nat} {As : List Value} (h : Rn E M2 0 (lv_args 0 (.ref (Ad E k) :: As)) [] σ Q) (C0 : Cx E M p R s m args c cells slots) (hH : Hd E σ s H locs) (hl : lv_has ls (mLoc M) lv) (hc : Cal M2 n) (hi : Cond.instanceMethod (mNm M2) ∈ TB) (hs : Cond.selects C (mNm M2) (mNm M2) ∈ TB)
    (hk : k < 79 ∧ kd k = ci ∧ ci < 100 ∧ vwCl[ci]? = some (C, T, N)) (hw : Cond.methodLink (mOwn M) idx (mNm M2) ∈ TB) (hn : As.length = n) (hsl : (lg_sl (.ref (Ad E k) :: As)).length ≤ mLoc M2) (hcat : (rest.map fun v => v.category).sum ≤ 8) (hroom : mFr M2 + 1 ≤ mFr M ∧ 8 + (mLoc M2 + 11) + mRm M2 ≤ mRm M) (hd : decode (mCode M) pc = .ok (.invokevirtual idx, 3)) {st0 : List Value} (hst : st0 = As.reverse ++ .ref (Ad E k) :: rest)
    (kk : ∀ (r : Option Value) (τ : Mm) (H : Heap) (locs : List Loc), Q r τ → Hd E τ s H locs → W p (eL E) e R s m args below meth c H locs cells slots Z (F0 m (pc + 3) ls (r.toList ++ rest))) : W p (eL E) e R s m args below meth c H locs cells slots Z (F0 m pc ls st0) := by
  have C1 := C0
  obtain ⟨hx, hb, hml, hown, hts, hF, r1, r2, r3, r4⟩ := C1
  obtain ⟨k1, k2, k3, k4⟩ := hk
  subst k2
  subst hst
  refine m_after (va_runV (C := C) (g := F0 m pc ls (As.reverse ++ .ref (Ad E k) :: rest)) ⟨hx, hb, hml, hown, hts⟩ (h.met hc.1 hc.2.1 hsl) ⟨callB_of n hts (gd_TB (mWs_in hc)) rfl rfl rfl (hts _ hc.2.2.2.1) (hts _ hw) hc.2.2.2.2 ⟨Nat.le_trans hroom.1 r1, Nat.le_trans hroom.2 r2⟩, hts _ hi, hts _ hs⟩ ⟨blind, va_recv hF.1 hH.1 (ci := kd k) (q0 := k) k4 (by rw [wl_at k1, ce_obj rfl k3]), m_pre C0 hH⟩ rfl hn hl.1 rfl (lv_room hcat) hd ⟨r3, r4⟩) hH.2 kk
theorem m_cS {M2 : Md} {Q : Option Value → Mm → Prop} {idx n : Nat} {As : List Value} (h : Rn E M2 0 (lv_args 0 As) [] σ Q) (C0 : Cx E M p R s m args c cells slots) (hH : Hd E σ s H locs) (hl : lv_has ls (mLoc M) lv) (hc : Cal M2 n) (hi : Cond.static (mNm M2) ∈ TB)
    (hw : Cond.methodLink (mOwn M) idx (mNm M2) ∈ TB) (hn : As.length = n) (hsl : (lg_sl As).length ≤ mLoc M2) (hcat : (rest.map fun v => v.category).sum ≤ 8) (hroom : mFr M2 + 1 ≤ mFr M ∧ 8 + (mLoc M2 + 11) + mRm M2 ≤ mRm M) (hd : decode (mCode M) pc = .ok (.invokestatic idx, 3)) {st0 : List Value} (hst : st0 = As.reverse ++ rest)
    (kk : ∀ (r : Option Value) (τ : Mm) (H : Heap) (locs : List Loc), Q r τ → Hd E τ s H locs → W p (eL E) e R s m args below meth c H locs cells slots Z (F0 m (pc + 3) ls (r.toList ++ rest))) : W p (eL E) e R s m args below meth c H locs cells slots Z (F0 m pc ls st0) := by
  have C1 := C0
  obtain ⟨hx, hb, hml, hown, hts, hF, r1, r2, r3, r4⟩ := C1
  subst hst
  refine m_after (va_runS (g := F0 m pc ls (As.reverse ++ rest)) ⟨hx, hb, hml, hown, hts⟩ (h.met hc.1 hc.2.1 hsl) ⟨callB_of n hts (gd_TB (mWs_in hc)) rfl rfl rfl (hts _ hc.2.2.2.1) (hts _ hw) hc.2.2.2.2 ⟨Nat.le_trans hroom.1 r1, Nat.le_trans hroom.2 r2⟩, hts _ hi⟩ ⟨blind, m_pre C0 hH⟩ rfl hn hl.1 rfl (lv_room hcat) hd ⟨r3, r4⟩) hH.2 kk
theorem m_cN {M2 : Md} {Q : Option Value → Mm → Prop} {idx n : Nat} {host : String} {As : List Value} (h : Rn E M2 0 (lv_args 0 As) [] σ Q) (C0 : Cx E M p R s m args c cells slots) (hH : Hd E σ s H locs) (hl : lv_has ls (mLoc M) lv) (hc : Cal M2 n) (hi : Cond.static (mNm M2) ∈ TB)
    (hw : (mOwn M, idx, mNm M2, host) ∈ NS) (hn : As.length = n) (hsl : (lg_sl As).length ≤ mLoc M2) (hcat : (rest.map fun v => v.category).sum ≤ 8) (hroom : mFr M2 + 1 ≤ mFr M ∧ 8 + (mLoc M2 + 11) + mRm M2 ≤ mRm M) (hd : decode (mCode M) pc = .ok (.invokestatic idx, 3)) {st0 : List Value} (hst : st0 = As.reverse ++ rest)
    (kk : ∀ (r : Option Value) (τ : Mm) (H : Heap) (locs : List Loc), Q r τ → Hd E τ s H locs → W p (eL E) e R s m args below meth c H locs cells slots Z (F0 m (pc + 3) ls (r.toList ++ rest))) : W p (eL E) e R s m args below meth c H locs cells slots Z (F0 m pc ls st0) := by
  have C1 := C0
  obtain ⟨hx, hb, hml, hown, hts, hF, r1, r2, r3, r4⟩ := C1
  subst hst
  refine m_after (va_runSN (host := host) (g := F0 m pc ls (As.reverse ++ rest)) ⟨hx, hb, hml, hown, hts⟩ (h.met hc.1 hc.2.1 hsl) ⟨va_cnB n hts (gd_TB (mWs_in hc)) rfl rfl rfl (hF.2.1 _ hw) (hts _ hc.2.2.2.1) hc.2.2.2.2 ⟨Nat.le_trans hroom.1 r1, Nat.le_trans hroom.2 r2⟩, hts _ hi, trivial⟩ ⟨blind, m_pre C0 hH⟩ rfl hn hl.1 rfl (lv_room hcat) hd ⟨r3, r4⟩) hH.2 kk
theorem m_max (C0 : Cx E M p R s m args c cells slots) (hl : lv_has ls (mLoc M) lv) {idx : Nat} (hw : Cond.methodLink (mOwn M) idx Lib.Math.max.name ∈ TB) (hcat : (rest.map fun v => v.category).sum ≤ 8) (hroom : 1 ≤ mFr M ∧ 21 ≤ mRm M) (hd : decode (mCode M) pc = .ok (.invokestatic idx, 3)) {x y : Int32}
    (kk : W p (eL E) e R s m args below meth c H locs cells slots Z (F0 m (pc + 3) ls (.int (if x < y then y else x) :: rest))) : W p (eL E) e R s m args below meth c H locs cells slots Z (F0 m pc ls (.int y :: .int x :: rest)) := by
  obtain ⟨hx, hb, hml, hown, hts, hF, r1, r2, r3, r4⟩ := C0
  exact va_mmax hx hb (hml.trans hl.1.symm) hown (hts _ hw) (hts _ ks_max) (hts _ ki_Math) (hts _ kc_max) (by omega) (by omega) r3 r4 hd kk
theorem m_min (C0 : Cx E M p R s m args c cells slots) (hl : lv_has ls (mLoc M) lv) {idx : Nat} (hw : Cond.methodLink (mOwn M) idx Lib.Math.min.name ∈ TB) (hcat : (rest.map fun v => v.category).sum ≤ 8) (hroom : 1 ≤ mFr M ∧ 21 ≤ mRm M) (hd : decode (mCode M) pc = .ok (.invokestatic idx, 3)) {x y : Int32}
    (kk : W p (eL E) e R s m args below meth c H locs cells slots Z (F0 m (pc + 3) ls (.int (if y < x then y else x) :: rest))) : W p (eL E) e R s m args below meth c H locs cells slots Z (F0 m pc ls (.int y :: .int x :: rest)) := by
  obtain ⟨hx, hb, hml, hown, hts, hF, r1, r2, r3, r4⟩ := C0
  exact va_mmin hx hb (hml.trans hl.1.symm) hown (hts _ hw) (hts _ ks_min) (hts _ ki_Math) (hts _ kc_min) (by omega) (by omega) r3 r4 hd kk
/-- a switch over a table: by the value, or outside -/
theorem m_tin {dflt lo hi : Int} {offs : Array Int} {len : Nat} {x v : Int32} {off : Int} {tgt : Nat} (C0 : Cx E M p R s m args c cells slots) (hd : decode (mCode M) pc = .ok (.tableswitch dflt lo hi offs, len)) (hv : x = v) (h1 : ¬ v.toInt < lo) (h2 : ¬ hi < v.toInt) (ho : offs[(v.toInt - lo).toNat]? = some off) (ht : (pc : Int) + off = (tgt : Int))
    (k : W p (eL E) e R s m args below meth c H locs cells slots Z (F0 m tgt ls rest)) : W p (eL E) e R s m args below meth c H locs cells slots Z (F0 m pc ls (.int x :: rest)) := by
  subst hv
  exact lv_tableIn C0.1 C0.2.1 hd h1 h2 ho ht k
theorem m_tout {dflt lo hi : Int} {offs : Array Int} {len : Nat} {x : Int32} {tgt : Nat} (C0 : Cx E M p R s m args c cells slots) (hd : decode (mCode M) pc = .ok (.tableswitch dflt lo hi offs, len)) (h : ∀ v : Int, lo ≤ v → v ≤ hi → x ≠ Int32.ofInt v) (ht : (pc : Int) + dflt = (tgt : Int))
    (k : W p (eL E) e R s m args below meth c H locs cells slots Z (F0 m tgt ls rest)) : W p (eL E) e R s m args below meth c H locs cells slots Z (F0 m pc ls (.int x :: rest)) := by
  refine lv_tableOut C0.1 C0.2.1 hd ?_ ht k
  by_cases h1 : x.toInt < lo
  · exact Or.inl h1
  · by_cases h2 : hi < x.toInt
    · exact Or.inr h2
    · exact absurd (Int32.ofInt_toInt x).symm (h x.toInt (by omega) (by omega))
/-- the one String: its row, its bytes -/
theorem kS_38 : Cond.fieldLink RJ0 38 "java/lang/String" "COMPACT_STRINGS" "Z" ∈ TB := in_TB 420 (by decide +kernel) (by decide +kernel)
theorem kS_15 : Cond.fieldLink RJ0 15 "java/lang/String" "coder" "B" ∈ TB := in_TB 1186 (by decide +kernel) (by decide +kernel)
theorem kS_9 : Cond.fieldLink RJ0 9 "java/lang/String" "value" "[B" ∈ TB := in_TB 1187 (by decide +kernel) (by decide +kernel)
def byK (j : Nat) : Int32 := ([112, 103, 104, 98, 115] : List Int32).getD j 0
theorem m_ldcS (C0 : Cx E M p R s m args c cells slots) (ho : mOwn M = RX7) (hd : decode (mCode M) pc = .ok (.ldc 49, 2))
    (kk : W p (eL E) e R s m args below meth c H locs cells slots Z (F0 m (pc + 2) ls (.ref (sK E 0) :: rest))) : W p (eL E) e R s m args below meth c H locs cells slots Z (F0 m pc ls rest) := by
  obtain ⟨hx, hb, hml, hown, hts, hF, -⟩ := C0
  exact va_ldcS hx hb (by rw [← ho]; exact hown) hF.2.2.1 hd kk
theorem m_sstat (C0 : Cx E M p R s m args c cells slots) (hH : Hd E σ s H locs) (ho : mOwn M = RJ0) (hd : decode (mCode M) pc = .ok (.getstatic 38, 3))
    (kk : W p (eL E) e R s m args below meth c H locs cells slots Z (F0 m (pc + 3) ls (.int 1 :: rest))) : W p (eL E) e R s m args below meth c H locs cells slots Z (F0 m pc ls rest) := by
  obtain ⟨hx, hb, hml, hown, hts, hF, -⟩ := C0
  exact va_gets hx hb hF.2.2.2.2.1 hH.2 (by rw [← ho]; exact hown) (hts _ kS_38) (fun _ h9 => h9) hd kk
theorem m_scod (C0 : Cx E M p R s m args c cells slots) (hH : Hd E σ s H locs) (ho : mOwn M = RJ0) (hd : decode (mCode M) pc = .ok (.getfield 15, 3))
    (kk : W p (eL E) e R s m args below meth c H locs cells slots Z (F0 m (pc + 3) ls (.int 0 :: rest))) : W p (eL E) e R s m args below meth c H locs cells slots Z (F0 m pc ls (.ref (sK E 0) :: rest)) := by
  obtain ⟨hx, hb, hml, hown, hts, hF, -⟩ := C0
  exact vk_getf hx hb (hF.2.2.2.1.1 0 (by decide)).2.1 hH.2 (by rw [← ho]; exact hown) (hts _ kS_15) (fun _ h9 => h9) hd kk
theorem m_sval (C0 : Cx E M p R s m args c cells slots) (hH : Hd E σ s H locs) (ho : mOwn M = RJ0) (hd : decode (mCode M) pc = .ok (.getfield 9, 3))
    (kk : W p (eL E) e R s m args below meth c H locs cells slots Z (F0 m (pc + 3) ls (.ref (sV E 0) :: rest))) : W p (eL E) e R s m args below meth c H locs cells slots Z (F0 m pc ls (.ref (sK E 0) :: rest)) := by
  obtain ⟨hx, hb, hml, hown, hts, hF, -⟩ := C0
  exact vk_getf hx hb (hF.2.2.2.1.1 0 (by decide)).2.2.1 hH.2 (by rw [← ho]; exact hown) (hts _ kS_9) (fun _ h9 => h9) hd kk
theorem m_slen (C0 : Cx E M p R s m args c cells slots) (hH : Hd E σ s H locs) (hd : decode (mCode M) pc = .ok (.arraylength, 1))
    (kk : W p (eL E) e R s m args below meth c H locs cells slots Z (F0 m (pc + 1) ls (.int 5 :: rest))) : W p (eL E) e R s m args below meth c H locs cells slots Z (F0 m pc ls (.ref (sV E 0) :: rest)) := by
  obtain ⟨hx, hb, hml, hown, hts, hF, -⟩ := C0
  exact va_tlen hx hb (hF.2.2.2.1.1 0 (by decide)).2.2.2 hH.2 (by decide) hd kk
theorem m_sald (C0 : Cx E M p R s m args c cells slots) (hH : Hd E σ s H locs) {i : Int32} (hin : vp_in i 5) (hd : decode (mCode M) pc = .ok (.baload, 1))
    (kk : W p (eL E) e R s m args below meth c H locs cells slots Z (F0 m (pc + 1) ls (.int (byK i.toNatClampNeg) :: rest))) : W p (eL E) e R s m args below meth c H locs cells slots Z (F0 m pc ls (.int i :: .ref (sV E 0) :: rest)) := by
  obtain ⟨hx, hb, hml, hown, hts, hF, -⟩ := C0
  exact va_tb hx hb (hF.2.2.2.1.1 0 (by decide)).2.2.2 hH.2 hin rfl hd kk
theorem m_cT {M2 : Md} {Q : Option Value → Mm → Prop} {idx n : Nat} {As : List Value} (h : Rn E M2 0 (lv_args 0 (.ref (sK E 0) :: As)) [] σ Q) (C0 : Cx E M p R s m args c cells slots) (hH : Hd E σ s H locs) (hl : lv_has ls (mLoc M) lv) (hc : Cal M2 n) (hi : Cond.instanceMethod (mNm M2) ∈ TB) (hs : Cond.selects "java/lang/String" (mNm M2) (mNm M2) ∈ TB)
    (hw : Cond.methodLink (mOwn M) idx (mNm M2) ∈ TB) (hn : As.length = n) (hsl : (lg_sl (.ref (sK E 0) :: As)).length ≤ mLoc M2) (hcat : (rest.map fun v => v.category).sum ≤ 8) (hroom : mFr M2 + 1 ≤ mFr M ∧ 8 + (mLoc M2 + 11) + mRm M2 ≤ mRm M) (hd : decode (mCode M) pc = .ok (.invokevirtual idx, 3)) {st0 : List Value} (hst : st0 = As.reverse ++ .ref (sK E 0) :: rest)
    (kk : ∀ (r : Option Value) (τ : Mm) (H : Heap) (locs : List Loc), Q r τ → Hd E τ s H locs → W p (eL E) e R s m args below meth c H locs cells slots Z (F0 m (pc + 3) ls (r.toList ++ rest))) : W p (eL E) e R s m args below meth c H locs cells slots Z (F0 m pc ls st0) := by
  have C1 := C0
  obtain ⟨hx, hb, hml, hown, hts, hF, r1, r2, r3, r4⟩ := C1
  subst hst
  refine m_after (va_runV (C := "java/lang/String") (g := F0 m pc ls (As.reverse ++ .ref (sK E 0) :: rest)) ⟨hx, hb, hml, hown, hts⟩ (h.met hc.1 hc.2.1 hsl) ⟨callB_of n hts (gd_TB (mWs_in hc)) rfl rfl rfl (hts _ hc.2.2.2.1) (hts _ hw) hc.2.2.2.2 ⟨Nat.le_trans hroom.1 r1, Nat.le_trans hroom.2 r2⟩, hts _ hi, hts _ hs⟩ ⟨blind, vk_recv hF.2.2.2.1 (i := 0) (by decide) hH.2, m_pre C0 hH⟩ rfl hn hl.1 rfl (lv_room hcat) hd ⟨r3, r4⟩) hH.2 kk
end MR
theorem nb {v : Int32} (h : v = 0 ∨ v = 1) : narrow .boolean (.int v) = .int v := by
  rcases h with rfl | rfl <;> decide
theorem nbb {v : Int32} (h : v = 0 ∨ v = 1) : vp_nar .boolean v = v := by
  rcases h with rfl | rfl <;> decide
def ush (x y : Int32) : Int32 := (x.toUInt32 >>> (y.toUInt32 &&& Int32.toUInt32 31)).toInt32
theorem up_rd {σ : Mm} {k j : Nat} {x : Int32} : up σ k j x k j = x := by rw [up_eq, upd_eq]
theorem vin {i : Int32} {n : Nat} (h : decide (i < 0 ∨ n ≤ i.toNatClampNeg) = false) : vp_in i n := of_decide_eq_false h
