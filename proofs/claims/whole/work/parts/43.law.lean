/-! the law: its cases, its loop -/
def M_L_law : Md := (RL, cL_law, 4, some .boolean, 12, 444, yL_law)
section LW
variable {p : Program} {e : Env} {s : State} {m : MethodId} {args : Array Value} {below : List Frame} {meth : Method} {c : Code} {cells slots : Nat} {Z : State → Prop} {E : EE} {σ : Mm} {H : Heap} {locs : List Loc} {ls : Array Slot} {b L n : Nat} {xs : Nat → Int32} {x3 : Int32}
theorem lg_cmp_self (x : Int64) : lg_cmp x x = 0 := by
  unfold lg_cmp
  simp
set_option maxRecDepth 20000 in
theorem lc_letter (C0 : Cx E M_L_law p room_1 s m args c cells slots) (hH : Hd E σ s H locs) (hX : va_X b L xs s s.heap) (hbl : b < s.heap.size) (hbA : ¬ Aw E b) (hl : lv_has ls 4 [(0, .ref b), (1, .ref (Ad E 0)), (2, .ref (Ad E 63)), (3, .int x3)]) (i1 : vp_in (x3 + 1) L) (i2 : vp_in (x3 + 2) L) (i3 : vp_in (x3 + 3) L) (hI : Iv σ n) (hn : n < 100000) (hN : ∀ (τ : Mm) (H : Heap) (locs : List Loc), Iv τ (n + 1) → Hd E τ s H locs → W p (eL E) e room_1 s m args below meth c H locs cells slots Z (F0 m 763 ls [])) : W p (eL E) e room_1 s m args below meth c H locs cells slots Z (F0 m 144 ls []) := by
  have hx := C0.1
  have hb : c.code = cL_law := C0.2.1
  have h := op_letter (E := E) (K := fun r r' τ => r = r' ∧ Iv τ (n + 1)) (xs (x3 + 1).toNatClampNeg) hI hn (fun r τ hi => ⟨rfl, hi⟩)
  refine lv_aload_n hx hb dL_law_144 rfl (lv_at hl 1 rfl) ?_
  refine lv_aload_n hx hb dL_law_145 rfl (lv_at hl 0 rfl) ?_
  refine lv_iload_n hx hb dL_law_146 rfl (lv_at hl 3 rfl) ?_
  refine lv_iconst (v := 1) hx hb dL_law_147 (by decide) ?_
  refine lv_iadd hx hb dL_law_148 ?_
  refine va_sld hx hb hX hbl hbA hH.2 i1 dL_law_149 ?_
  refine m_cV (M2 := M_X9_letter) (As := [.int (xs (x3 + 1).toNatClampNeg)]) (rest := []) h C0 hH hl kc_X9_letter ki_X9_letter kx_X9_letter ob_0 kM_L_13 rfl (Nat.le_of_ble_eq_true rfl) (Nat.le_of_ble_eq_true rfl) ⟨(Nat.le_of_ble_eq_true rfl), (Nat.le_of_ble_eq_true rfl)⟩ dL_law_150 rfl (fun r τ1 H locs hq hH => ?_)
  obtain ⟨r1, rfl, h⟩ := hq
  refine lv_aload_n hx hb dL_law_153 rfl (lv_at hl 2 rfl) ?_
  refine lv_aload_n hx hb dL_law_154 rfl (lv_at hl 0 rfl) ?_
  refine lv_iload_n hx hb dL_law_155 rfl (lv_at hl 3 rfl) ?_
  refine lv_iconst (v := 1) hx hb dL_law_156 (by decide) ?_
  refine lv_iadd hx hb dL_law_157 ?_
  refine va_sld hx hb hX hbl hbA hH.2 i1 dL_law_158 ?_
  refine m_cV (M2 := M_X10_letter) (As := [.int (xs (x3 + 1).toNatClampNeg)]) (rest := [.int r1]) h C0 hH hl kc_X10_letter ki_X10_letter kx_X10_letter ob_63 kM_L_17 rfl (Nat.le_of_ble_eq_true rfl) (Nat.le_of_ble_eq_true rfl) ⟨(Nat.le_of_ble_eq_true rfl), (Nat.le_of_ble_eq_true rfl)⟩ dL_law_159 rfl (fun r τ2 H locs hq hH => ?_)
  obtain ⟨r2, rfl, h⟩ := hq
  exact lv_icmp_eq (tgt := 763) hx hb dL_law_162 (by decide) (fun _ => hN _ _ _ h.2 hH) (fun hc => absurd h.1 hc)
set_option maxRecDepth 20000 in
theorem lc_blank (C0 : Cx E M_L_law p room_1 s m args c cells slots) (hH : Hd E σ s H locs) (hX : va_X b L xs s s.heap) (hbl : b < s.heap.size) (hbA : ¬ Aw E b) (hl : lv_has ls 4 [(0, .ref b), (1, .ref (Ad E 0)), (2, .ref (Ad E 63)), (3, .int x3)]) (i1 : vp_in (x3 + 1) L) (i2 : vp_in (x3 + 2) L) (i3 : vp_in (x3 + 3) L) (hI : Iv σ n) (hn : n < 100000) (hN : ∀ (τ : Mm) (H : Heap) (locs : List Loc), Iv τ (n + 1) → Hd E τ s H locs → W p (eL E) e room_1 s m args below meth c H locs cells slots Z (F0 m 763 ls [])) : W p (eL E) e room_1 s m args below meth c H locs cells slots Z (F0 m 167 ls []) := by
  have hx := C0.1
  have hb : c.code = cL_law := C0.2.1
  have h := op_blank (E := E) (K := fun r r' τ => r = r' ∧ Iv τ (n + 1)) hI hn (fun r τ hi => ⟨rfl, hi⟩)
  refine lv_aload_n hx hb dL_law_167 rfl (lv_at hl 1 rfl) ?_
  refine m_cV (M2 := M_X9_blank) (As := []) (rest := []) h C0 hH hl kc_X9_blank ki_X9_blank kx_X9_blank ob_0 kM_L_18 rfl (Nat.le_of_ble_eq_true rfl) (Nat.le_of_ble_eq_true rfl) ⟨(Nat.le_of_ble_eq_true rfl), (Nat.le_of_ble_eq_true rfl)⟩ dL_law_168 rfl (fun r τ1 H locs hq hH => ?_)
  obtain ⟨r1, rfl, h⟩ := hq
  refine lv_aload_n hx hb dL_law_171 rfl (lv_at hl 2 rfl) ?_
  refine m_cV (M2 := M_X10_blank) (As := []) (rest := [.int r1]) h C0 hH hl kc_X10_blank ki_X10_blank kx_X10_blank ob_63 kM_L_22 rfl (Nat.le_of_ble_eq_true rfl) (Nat.le_of_ble_eq_true rfl) ⟨(Nat.le_of_ble_eq_true rfl), (Nat.le_of_ble_eq_true rfl)⟩ dL_law_172 rfl (fun r τ2 H locs hq hH => ?_)
  obtain ⟨r2, rfl, h⟩ := hq
  exact lv_icmp_eq (tgt := 763) hx hb dL_law_175 (by decide) (fun _ => hN _ _ _ h.2 hH) (fun hc => absurd h.1 hc)
set_option maxRecDepth 20000 in
theorem lc_fault (C0 : Cx E M_L_law p room_1 s m args c cells slots) (hH : Hd E σ s H locs) (hX : va_X b L xs s s.heap) (hbl : b < s.heap.size) (hbA : ¬ Aw E b) (hl : lv_has ls 4 [(0, .ref b), (1, .ref (Ad E 0)), (2, .ref (Ad E 63)), (3, .int x3)]) (i1 : vp_in (x3 + 1) L) (i2 : vp_in (x3 + 2) L) (i3 : vp_in (x3 + 3) L) (hI : Iv σ n) (hn : n < 100000) (hN : ∀ (τ : Mm) (H : Heap) (locs : List Loc), Iv τ (n + 1) → Hd E τ s H locs → W p (eL E) e room_1 s m args below meth c H locs cells slots Z (F0 m 763 ls [])) : W p (eL E) e room_1 s m args below meth c H locs cells slots Z (F0 m 180 ls []) := by
  have hx := C0.1
  have hb : c.code = cL_law := C0.2.1
  have h := op_fault (E := E) (K := fun r r' τ => r = r' ∧ Iv τ (n + 1)) hI hn (fun r τ hi => ⟨rfl, hi⟩)
  refine lv_aload_n hx hb dL_law_180 rfl (lv_at hl 1 rfl) ?_
  refine m_cV (M2 := M_X9_fault) (As := []) (rest := []) h C0 hH hl kc_X9_fault ki_X9_fault kx_X9_fault ob_0 kM_L_23 rfl (Nat.le_of_ble_eq_true rfl) (Nat.le_of_ble_eq_true rfl) ⟨(Nat.le_of_ble_eq_true rfl), (Nat.le_of_ble_eq_true rfl)⟩ dL_law_181 rfl (fun r τ1 H locs hq hH => ?_)
  obtain ⟨r1, rfl, h⟩ := hq
  refine lv_aload_n hx hb dL_law_184 rfl (lv_at hl 2 rfl) ?_
  refine m_cV (M2 := M_X10_fault) (As := []) (rest := [.int r1]) h C0 hH hl kc_X10_fault ki_X10_fault kx_X10_fault ob_63 kM_L_26 rfl (Nat.le_of_ble_eq_true rfl) (Nat.le_of_ble_eq_true rfl) ⟨(Nat.le_of_ble_eq_true rfl), (Nat.le_of_ble_eq_true rfl)⟩ dL_law_185 rfl (fun r τ2 H locs hq hH => ?_)
  obtain ⟨r2, rfl, h⟩ := hq
  exact lv_icmp_eq (tgt := 763) hx hb dL_law_188 (by decide) (fun _ => hN _ _ _ h.2 hH) (fun hc => absurd h.1 hc)
set_option maxRecDepth 20000 in
theorem lc_chapel (C0 : Cx E M_L_law p room_1 s m args c cells slots) (hH : Hd E σ s H locs) (hX : va_X b L xs s s.heap) (hbl : b < s.heap.size) (hbA : ¬ Aw E b) (hl : lv_has ls 4 [(0, .ref b), (1, .ref (Ad E 0)), (2, .ref (Ad E 63)), (3, .int x3)]) (i1 : vp_in (x3 + 1) L) (i2 : vp_in (x3 + 2) L) (i3 : vp_in (x3 + 3) L) (hI : Iv σ n) (hn : n < 100000) (hN : ∀ (τ : Mm) (H : Heap) (locs : List Loc), Iv τ (n + 1) → Hd E τ s H locs → W p (eL E) e room_1 s m args below meth c H locs cells slots Z (F0 m 763 ls [])) : W p (eL E) e room_1 s m args below meth c H locs cells slots Z (F0 m 193 ls []) := by
  have hx := C0.1
  have hb : c.code = cL_law := C0.2.1
  have h := op_chapel (E := E) (K := fun r r' τ => r = r' ∧ Iv τ (n + 1)) hI hn (fun r τ hi => ⟨rfl, hi⟩)
  refine lv_aload_n hx hb dL_law_193 rfl (lv_at hl 1 rfl) ?_
  refine m_cV (M2 := M_X9_chapel) (As := []) (rest := []) h C0 hH hl kc_X9_chapel ki_X9_chapel kx_X9_chapel ob_0 kM_L_27 rfl (Nat.le_of_ble_eq_true rfl) (Nat.le_of_ble_eq_true rfl) ⟨(Nat.le_of_ble_eq_true rfl), (Nat.le_of_ble_eq_true rfl)⟩ dL_law_194 rfl (fun r τ1 H locs hq hH => ?_)
  obtain ⟨r1, rfl, h⟩ := hq
  refine lv_aload_n hx hb dL_law_197 rfl (lv_at hl 2 rfl) ?_
  refine m_cV (M2 := M_X10_chapel) (As := []) (rest := [.int r1]) h C0 hH hl kc_X10_chapel ki_X10_chapel kx_X10_chapel ob_63 kM_L_30 rfl (Nat.le_of_ble_eq_true rfl) (Nat.le_of_ble_eq_true rfl) ⟨(Nat.le_of_ble_eq_true rfl), (Nat.le_of_ble_eq_true rfl)⟩ dL_law_198 rfl (fun r τ2 H locs hq hH => ?_)
  obtain ⟨r2, rfl, h⟩ := hq
  exact lv_icmp_eq (tgt := 763) hx hb dL_law_201 (by decide) (fun _ => hN _ _ _ h.2 hH) (fun hc => absurd h.1 hc)
set_option maxRecDepth 20000 in
theorem lc_person (C0 : Cx E M_L_law p room_1 s m args c cells slots) (hH : Hd E σ s H locs) (hX : va_X b L xs s s.heap) (hbl : b < s.heap.size) (hbA : ¬ Aw E b) (hl : lv_has ls 4 [(0, .ref b), (1, .ref (Ad E 0)), (2, .ref (Ad E 63)), (3, .int x3)]) (i1 : vp_in (x3 + 1) L) (i2 : vp_in (x3 + 2) L) (i3 : vp_in (x3 + 3) L) (hI : Iv σ n) (hn : n < 100000) (hN : ∀ (τ : Mm) (H : Heap) (locs : List Loc), Iv τ (n + 1) → Hd E τ s H locs → W p (eL E) e room_1 s m args below meth c H locs cells slots Z (F0 m 763 ls [])) : W p (eL E) e room_1 s m args below meth c H locs cells slots Z (F0 m 206 ls []) := by
  have hx := C0.1
  have hb : c.code = cL_law := C0.2.1
  have h := op_person (E := E) (K := fun r r' τ => r = r' ∧ Iv τ (n + 1)) (xs (x3 + 1).toNatClampNeg) (xs (x3 + 2).toNatClampNeg) hI hn (fun r τ hi => ⟨rfl, hi⟩)
  refine lv_aload_n hx hb dL_law_206 rfl (lv_at hl 1 rfl) ?_
  refine lv_aload_n hx hb dL_law_207 rfl (lv_at hl 0 rfl) ?_
  refine lv_iload_n hx hb dL_law_208 rfl (lv_at hl 3 rfl) ?_
  refine lv_iconst (v := 1) hx hb dL_law_209 (by decide) ?_
  refine lv_iadd hx hb dL_law_210 ?_
  refine va_sld hx hb hX hbl hbA hH.2 i1 dL_law_211 ?_
  refine lv_aload_n hx hb dL_law_212 rfl (lv_at hl 0 rfl) ?_
  refine lv_iload_n hx hb dL_law_213 rfl (lv_at hl 3 rfl) ?_
  refine lv_iconst (v := 2) hx hb dL_law_214 (by decide) ?_
  refine lv_iadd hx hb dL_law_215 ?_
  refine va_sld hx hb hX hbl hbA hH.2 i2 dL_law_216 ?_
  refine m_cV (M2 := M_X9_person) (As := [.int (xs (x3 + 1).toNatClampNeg), .int (xs (x3 + 2).toNatClampNeg)]) (rest := []) h C0 hH hl kc_X9_person ki_X9_person kx_X9_person ob_0 kM_L_31 rfl (Nat.le_of_ble_eq_true rfl) (Nat.le_of_ble_eq_true rfl) ⟨(Nat.le_of_ble_eq_true rfl), (Nat.le_of_ble_eq_true rfl)⟩ dL_law_217 rfl (fun r τ1 H locs hq hH => ?_)
  obtain ⟨r1, rfl, h⟩ := hq
  refine lv_aload_n hx hb dL_law_220 rfl (lv_at hl 2 rfl) ?_
  refine lv_aload_n hx hb dL_law_221 rfl (lv_at hl 0 rfl) ?_
  refine lv_iload_n hx hb dL_law_222 rfl (lv_at hl 3 rfl) ?_
  refine lv_iconst (v := 1) hx hb dL_law_223 (by decide) ?_
  refine lv_iadd hx hb dL_law_224 ?_
  refine va_sld hx hb hX hbl hbA hH.2 i1 dL_law_225 ?_
  refine lv_aload_n hx hb dL_law_226 rfl (lv_at hl 0 rfl) ?_
  refine lv_iload_n hx hb dL_law_227 rfl (lv_at hl 3 rfl) ?_
  refine lv_iconst (v := 2) hx hb dL_law_228 (by decide) ?_
  refine lv_iadd hx hb dL_law_229 ?_
  refine va_sld hx hb hX hbl hbA hH.2 i2 dL_law_230 ?_
  refine m_cV (M2 := M_X10_person) (As := [.int (xs (x3 + 1).toNatClampNeg), .int (xs (x3 + 2).toNatClampNeg)]) (rest := [.int r1]) h C0 hH hl kc_X10_person ki_X10_person kx_X10_person ob_63 kM_L_35 rfl (Nat.le_of_ble_eq_true rfl) (Nat.le_of_ble_eq_true rfl) ⟨(Nat.le_of_ble_eq_true rfl), (Nat.le_of_ble_eq_true rfl)⟩ dL_law_231 rfl (fun r τ2 H locs hq hH => ?_)
  obtain ⟨r2, rfl, h⟩ := hq
  exact lv_icmp_eq (tgt := 763) hx hb dL_law_234 (by decide) (fun _ => hN _ _ _ h.2 hH) (fun hc => absurd h.1 hc)
set_option maxRecDepth 20000 in
theorem lc_as (C0 : Cx E M_L_law p room_1 s m args c cells slots) (hH : Hd E σ s H locs) (hX : va_X b L xs s s.heap) (hbl : b < s.heap.size) (hbA : ¬ Aw E b) (hl : lv_has ls 4 [(0, .ref b), (1, .ref (Ad E 0)), (2, .ref (Ad E 63)), (3, .int x3)]) (i1 : vp_in (x3 + 1) L) (i2 : vp_in (x3 + 2) L) (i3 : vp_in (x3 + 3) L) (hI : Iv σ n) (hn : n < 100000) (hN : ∀ (τ : Mm) (H : Heap) (locs : List Loc), Iv τ (n + 1) → Hd E τ s H locs → W p (eL E) e room_1 s m args below meth c H locs cells slots Z (F0 m 763 ls [])) : W p (eL E) e room_1 s m args below meth c H locs cells slots Z (F0 m 239 ls []) := by
  have hx := C0.1
  have hb : c.code = cL_law := C0.2.1
  have h := op_as (E := E) (K := fun r r' τ => r = r' ∧ Iv τ (n + 1)) (xs (x3 + 1).toNatClampNeg) (xs (x3 + 2).toNatClampNeg) hI hn (fun r τ hi => ⟨rfl, hi⟩)
  refine lv_aload_n hx hb dL_law_239 rfl (lv_at hl 1 rfl) ?_
  refine lv_aload_n hx hb dL_law_240 rfl (lv_at hl 0 rfl) ?_
  refine lv_iload_n hx hb dL_law_241 rfl (lv_at hl 3 rfl) ?_
  refine lv_iconst (v := 1) hx hb dL_law_242 (by decide) ?_
  refine lv_iadd hx hb dL_law_243 ?_
  refine va_sld hx hb hX hbl hbA hH.2 i1 dL_law_244 ?_
  refine lv_aload_n hx hb dL_law_245 rfl (lv_at hl 0 rfl) ?_
  refine lv_iload_n hx hb dL_law_246 rfl (lv_at hl 3 rfl) ?_
  refine lv_iconst (v := 2) hx hb dL_law_247 (by decide) ?_
  refine lv_iadd hx hb dL_law_248 ?_
  refine va_sld hx hb hX hbl hbA hH.2 i2 dL_law_249 ?_
  refine m_cV (M2 := M_X9_as) (As := [.int (xs (x3 + 1).toNatClampNeg), .int (xs (x3 + 2).toNatClampNeg)]) (rest := []) h C0 hH hl kc_X9_as ki_X9_as kx_X9_as ob_0 kM_L_36 rfl (Nat.le_of_ble_eq_true rfl) (Nat.le_of_ble_eq_true rfl) ⟨(Nat.le_of_ble_eq_true rfl), (Nat.le_of_ble_eq_true rfl)⟩ dL_law_250 rfl (fun r τ1 H locs hq hH => ?_)
  obtain ⟨r1, rfl, h⟩ := hq
  refine lv_aload_n hx hb dL_law_253 rfl (lv_at hl 2 rfl) ?_
  refine lv_aload_n hx hb dL_law_254 rfl (lv_at hl 0 rfl) ?_
  refine lv_iload_n hx hb dL_law_255 rfl (lv_at hl 3 rfl) ?_
  refine lv_iconst (v := 1) hx hb dL_law_256 (by decide) ?_
  refine lv_iadd hx hb dL_law_257 ?_
  refine va_sld hx hb hX hbl hbA hH.2 i1 dL_law_258 ?_
  refine lv_aload_n hx hb dL_law_259 rfl (lv_at hl 0 rfl) ?_
  refine lv_iload_n hx hb dL_law_260 rfl (lv_at hl 3 rfl) ?_
  refine lv_iconst (v := 2) hx hb dL_law_261 (by decide) ?_
  refine lv_iadd hx hb dL_law_262 ?_
  refine va_sld hx hb hX hbl hbA hH.2 i2 dL_law_263 ?_
  refine m_cV (M2 := M_X10_as) (As := [.int (xs (x3 + 1).toNatClampNeg), .int (xs (x3 + 2).toNatClampNeg)]) (rest := [.int r1]) h C0 hH hl kc_X10_as ki_X10_as kx_X10_as ob_63 kM_L_39 rfl (Nat.le_of_ble_eq_true rfl) (Nat.le_of_ble_eq_true rfl) ⟨(Nat.le_of_ble_eq_true rfl), (Nat.le_of_ble_eq_true rfl)⟩ dL_law_264 rfl (fun r τ2 H locs hq hH => ?_)
  obtain ⟨r2, rfl, h⟩ := hq
  exact lv_icmp_eq (tgt := 763) hx hb dL_law_267 (by decide) (fun _ => hN _ _ _ h.2 hH) (fun hc => absurd h.1 hc)
set_option maxRecDepth 20000 in
theorem lc_wrong (C0 : Cx E M_L_law p room_1 s m args c cells slots) (hH : Hd E σ s H locs) (hX : va_X b L xs s s.heap) (hbl : b < s.heap.size) (hbA : ¬ Aw E b) (hl : lv_has ls 4 [(0, .ref b), (1, .ref (Ad E 0)), (2, .ref (Ad E 63)), (3, .int x3)]) (i1 : vp_in (x3 + 1) L) (i2 : vp_in (x3 + 2) L) (i3 : vp_in (x3 + 3) L) (hI : Iv σ n) (hn : n < 100000) (hN : ∀ (τ : Mm) (H : Heap) (locs : List Loc), Iv τ (n + 1) → Hd E τ s H locs → W p (eL E) e room_1 s m args below meth c H locs cells slots Z (F0 m 763 ls [])) : W p (eL E) e room_1 s m args below meth c H locs cells slots Z (F0 m 272 ls []) := by
  have hx := C0.1
  have hb : c.code = cL_law := C0.2.1
  have h := op_wrong (E := E) (K := fun r r' τ => r = r' ∧ Iv τ (n + 1)) (xs (x3 + 1).toNatClampNeg) (xs (x3 + 2).toNatClampNeg) hI hn (fun r τ hi => ⟨rfl, hi⟩)
  refine lv_aload_n hx hb dL_law_272 rfl (lv_at hl 1 rfl) ?_
  refine lv_aload_n hx hb dL_law_273 rfl (lv_at hl 0 rfl) ?_
  refine lv_iload_n hx hb dL_law_274 rfl (lv_at hl 3 rfl) ?_
  refine lv_iconst (v := 1) hx hb dL_law_275 (by decide) ?_
  refine lv_iadd hx hb dL_law_276 ?_
  refine va_sld hx hb hX hbl hbA hH.2 i1 dL_law_277 ?_
  refine lv_aload_n hx hb dL_law_278 rfl (lv_at hl 0 rfl) ?_
  refine lv_iload_n hx hb dL_law_279 rfl (lv_at hl 3 rfl) ?_
  refine lv_iconst (v := 2) hx hb dL_law_280 (by decide) ?_
  refine lv_iadd hx hb dL_law_281 ?_
  refine va_sld hx hb hX hbl hbA hH.2 i2 dL_law_282 ?_
  refine m_cV (M2 := M_X9_wrong) (As := [.int (xs (x3 + 1).toNatClampNeg), .int (xs (x3 + 2).toNatClampNeg)]) (rest := []) h C0 hH hl kc_X9_wrong ki_X9_wrong kx_X9_wrong ob_0 kM_L_40 rfl (Nat.le_of_ble_eq_true rfl) (Nat.le_of_ble_eq_true rfl) ⟨(Nat.le_of_ble_eq_true rfl), (Nat.le_of_ble_eq_true rfl)⟩ dL_law_283 rfl (fun r τ1 H locs hq hH => ?_)
  obtain ⟨r1, rfl, h⟩ := hq
  refine lv_aload_n hx hb dL_law_286 rfl (lv_at hl 2 rfl) ?_
  refine lv_aload_n hx hb dL_law_287 rfl (lv_at hl 0 rfl) ?_
  refine lv_iload_n hx hb dL_law_288 rfl (lv_at hl 3 rfl) ?_
  refine lv_iconst (v := 1) hx hb dL_law_289 (by decide) ?_
  refine lv_iadd hx hb dL_law_290 ?_
  refine va_sld hx hb hX hbl hbA hH.2 i1 dL_law_291 ?_
  refine lv_aload_n hx hb dL_law_292 rfl (lv_at hl 0 rfl) ?_
  refine lv_iload_n hx hb dL_law_293 rfl (lv_at hl 3 rfl) ?_
  refine lv_iconst (v := 2) hx hb dL_law_294 (by decide) ?_
  refine lv_iadd hx hb dL_law_295 ?_
  refine va_sld hx hb hX hbl hbA hH.2 i2 dL_law_296 ?_
  refine m_cV (M2 := M_X10_wrong) (As := [.int (xs (x3 + 1).toNatClampNeg), .int (xs (x3 + 2).toNatClampNeg)]) (rest := [.int r1]) h C0 hH hl kc_X10_wrong ki_X10_wrong kx_X10_wrong ob_63 kM_L_43 rfl (Nat.le_of_ble_eq_true rfl) (Nat.le_of_ble_eq_true rfl) ⟨(Nat.le_of_ble_eq_true rfl), (Nat.le_of_ble_eq_true rfl)⟩ dL_law_297 rfl (fun r τ2 H locs hq hH => ?_)
  obtain ⟨r2, rfl, h⟩ := hq
  exact lv_icmp_eq (tgt := 763) hx hb dL_law_300 (by decide) (fun _ => hN _ _ _ h.2 hH) (fun hc => absurd h.1 hc)
set_option maxRecDepth 20000 in
theorem lc_to (C0 : Cx E M_L_law p room_1 s m args c cells slots) (hH : Hd E σ s H locs) (hX : va_X b L xs s s.heap) (hbl : b < s.heap.size) (hbA : ¬ Aw E b) (hl : lv_has ls 4 [(0, .ref b), (1, .ref (Ad E 0)), (2, .ref (Ad E 63)), (3, .int x3)]) (i1 : vp_in (x3 + 1) L) (i2 : vp_in (x3 + 2) L) (i3 : vp_in (x3 + 3) L) (hI : Iv σ n) (hn : n < 100000) (hN : ∀ (τ : Mm) (H : Heap) (locs : List Loc), Iv τ (n + 1) → Hd E τ s H locs → W p (eL E) e room_1 s m args below meth c H locs cells slots Z (F0 m 763 ls [])) : W p (eL E) e room_1 s m args below meth c H locs cells slots Z (F0 m 305 ls []) := by
  have hx := C0.1
  have hb : c.code = cL_law := C0.2.1
  have h := op_to (E := E) (K := fun r r' τ => r = r' ∧ Iv τ (n + 1)) (xs (x3 + 1).toNatClampNeg) (xs (x3 + 2).toNatClampNeg) hI hn (fun r τ hi => ⟨rfl, hi⟩)
  refine lv_aload_n hx hb dL_law_305 rfl (lv_at hl 1 rfl) ?_
  refine lv_aload_n hx hb dL_law_306 rfl (lv_at hl 0 rfl) ?_
  refine lv_iload_n hx hb dL_law_307 rfl (lv_at hl 3 rfl) ?_
  refine lv_iconst (v := 1) hx hb dL_law_308 (by decide) ?_
  refine lv_iadd hx hb dL_law_309 ?_
  refine va_sld hx hb hX hbl hbA hH.2 i1 dL_law_310 ?_
  refine lv_aload_n hx hb dL_law_311 rfl (lv_at hl 0 rfl) ?_
  refine lv_iload_n hx hb dL_law_312 rfl (lv_at hl 3 rfl) ?_
  refine lv_iconst (v := 2) hx hb dL_law_313 (by decide) ?_
  refine lv_iadd hx hb dL_law_314 ?_
  refine va_sld hx hb hX hbl hbA hH.2 i2 dL_law_315 ?_
  refine m_cV (M2 := M_X9_to) (As := [.int (xs (x3 + 1).toNatClampNeg), .int (xs (x3 + 2).toNatClampNeg)]) (rest := []) h C0 hH hl kc_X9_to ki_X9_to kx_X9_to ob_0 kM_L_44 rfl (Nat.le_of_ble_eq_true rfl) (Nat.le_of_ble_eq_true rfl) ⟨(Nat.le_of_ble_eq_true rfl), (Nat.le_of_ble_eq_true rfl)⟩ dL_law_316 rfl (fun r τ1 H locs hq hH => ?_)
  obtain ⟨r1, rfl, h⟩ := hq
  refine lv_aload_n hx hb dL_law_319 rfl (lv_at hl 2 rfl) ?_
  refine lv_aload_n hx hb dL_law_320 rfl (lv_at hl 0 rfl) ?_
  refine lv_iload_n hx hb dL_law_321 rfl (lv_at hl 3 rfl) ?_
  refine lv_iconst (v := 1) hx hb dL_law_322 (by decide) ?_
  refine lv_iadd hx hb dL_law_323 ?_
  refine va_sld hx hb hX hbl hbA hH.2 i1 dL_law_324 ?_
  refine lv_aload_n hx hb dL_law_325 rfl (lv_at hl 0 rfl) ?_
  refine lv_iload_n hx hb dL_law_326 rfl (lv_at hl 3 rfl) ?_
  refine lv_iconst (v := 2) hx hb dL_law_327 (by decide) ?_
  refine lv_iadd hx hb dL_law_328 ?_
  refine va_sld hx hb hX hbl hbA hH.2 i2 dL_law_329 ?_
  refine m_cV (M2 := M_X10_to) (As := [.int (xs (x3 + 1).toNatClampNeg), .int (xs (x3 + 2).toNatClampNeg)]) (rest := [.int r1]) h C0 hH hl kc_X10_to ki_X10_to kx_X10_to ob_63 kM_L_47 rfl (Nat.le_of_ble_eq_true rfl) (Nat.le_of_ble_eq_true rfl) ⟨(Nat.le_of_ble_eq_true rfl), (Nat.le_of_ble_eq_true rfl)⟩ dL_law_330 rfl (fun r τ2 H locs hq hH => ?_)
  obtain ⟨r2, rfl, h⟩ := hq
  exact lv_icmp_eq (tgt := 763) hx hb dL_law_333 (by decide) (fun _ => hN _ _ _ h.2 hH) (fun hc => absurd h.1 hc)
set_option maxRecDepth 20000 in
theorem lc_sunday (C0 : Cx E M_L_law p room_1 s m args c cells slots) (hH : Hd E σ s H locs) (hX : va_X b L xs s s.heap) (hbl : b < s.heap.size) (hbA : ¬ Aw E b) (hl : lv_has ls 4 [(0, .ref b), (1, .ref (Ad E 0)), (2, .ref (Ad E 63)), (3, .int x3)]) (i1 : vp_in (x3 + 1) L) (i2 : vp_in (x3 + 2) L) (i3 : vp_in (x3 + 3) L) (hI : Iv σ n) (hn : n < 100000) (hN : ∀ (τ : Mm) (H : Heap) (locs : List Loc), Iv τ (n + 1) → Hd E τ s H locs → W p (eL E) e room_1 s m args below meth c H locs cells slots Z (F0 m 763 ls [])) : W p (eL E) e room_1 s m args below meth c H locs cells slots Z (F0 m 338 ls []) := by
  have hx := C0.1
  have hb : c.code = cL_law := C0.2.1
  have h := op_sunday (E := E) (K := fun r r' τ => r = r' ∧ Iv τ (n + 1)) hI hn (fun r τ hi => ⟨rfl, hi⟩)
  refine lv_aload_n hx hb dL_law_338 rfl (lv_at hl 1 rfl) ?_
  refine m_cV (M2 := M_X9_sunday) (As := []) (rest := []) h C0 hH hl kc_X9_sunday ki_X9_sunday kx_X9_sunday ob_0 kM_L_48 rfl (Nat.le_of_ble_eq_true rfl) (Nat.le_of_ble_eq_true rfl) ⟨(Nat.le_of_ble_eq_true rfl), (Nat.le_of_ble_eq_true rfl)⟩ dL_law_339 rfl (fun r τ1 H locs hq hH => ?_)
  obtain ⟨r1, rfl, h⟩ := hq
  refine lv_aload_n hx hb dL_law_342 rfl (lv_at hl 2 rfl) ?_
  refine m_cV (M2 := M_X10_sunday) (As := []) (rest := [.int r1]) h C0 hH hl kc_X10_sunday ki_X10_sunday kx_X10_sunday ob_63 kM_L_51 rfl (Nat.le_of_ble_eq_true rfl) (Nat.le_of_ble_eq_true rfl) ⟨(Nat.le_of_ble_eq_true rfl), (Nat.le_of_ble_eq_true rfl)⟩ dL_law_343 rfl (fun r τ2 H locs hq hH => ?_)
  obtain ⟨r2, rfl, h⟩ := hq
  exact lv_icmp_eq (tgt := 763) hx hb dL_law_346 (by decide) (fun _ => hN _ _ _ h.2 hH) (fun hc => absurd h.1 hc)
set_option maxRecDepth 20000 in
theorem lc_forgive (C0 : Cx E M_L_law p room_1 s m args c cells slots) (hH : Hd E σ s H locs) (hX : va_X b L xs s s.heap) (hbl : b < s.heap.size) (hbA : ¬ Aw E b) (hl : lv_has ls 4 [(0, .ref b), (1, .ref (Ad E 0)), (2, .ref (Ad E 63)), (3, .int x3)]) (i1 : vp_in (x3 + 1) L) (i2 : vp_in (x3 + 2) L) (i3 : vp_in (x3 + 3) L) (hI : Iv σ n) (hn : n < 100000) (hN : ∀ (τ : Mm) (H : Heap) (locs : List Loc), Iv τ (n + 1) → Hd E τ s H locs → W p (eL E) e room_1 s m args below meth c H locs cells slots Z (F0 m 763 ls [])) : W p (eL E) e room_1 s m args below meth c H locs cells slots Z (F0 m 351 ls []) := by
  have hx := C0.1
  have hb : c.code = cL_law := C0.2.1
  have h := op_forgive (E := E) (K := fun r r' τ => r = r' ∧ Iv τ (n + 1)) (xs (x3 + 1).toNatClampNeg) hI hn (fun r τ hi => ⟨rfl, hi⟩)
  refine lv_aload_n hx hb dL_law_351 rfl (lv_at hl 1 rfl) ?_
  refine lv_aload_n hx hb dL_law_352 rfl (lv_at hl 0 rfl) ?_
  refine lv_iload_n hx hb dL_law_353 rfl (lv_at hl 3 rfl) ?_
  refine lv_iconst (v := 1) hx hb dL_law_354 (by decide) ?_
  refine lv_iadd hx hb dL_law_355 ?_
  refine va_sld hx hb hX hbl hbA hH.2 i1 dL_law_356 ?_
  refine m_cV (M2 := M_X9_forgive) (As := [.int (xs (x3 + 1).toNatClampNeg)]) (rest := []) h C0 hH hl kc_X9_forgive ki_X9_forgive kx_X9_forgive ob_0 kM_L_52 rfl (Nat.le_of_ble_eq_true rfl) (Nat.le_of_ble_eq_true rfl) ⟨(Nat.le_of_ble_eq_true rfl), (Nat.le_of_ble_eq_true rfl)⟩ dL_law_357 rfl (fun r τ1 H locs hq hH => ?_)
  obtain ⟨r1, rfl, h⟩ := hq
  refine lv_aload_n hx hb dL_law_360 rfl (lv_at hl 2 rfl) ?_
  refine lv_aload_n hx hb dL_law_361 rfl (lv_at hl 0 rfl) ?_
  refine lv_iload_n hx hb dL_law_362 rfl (lv_at hl 3 rfl) ?_
  refine lv_iconst (v := 1) hx hb dL_law_363 (by decide) ?_
  refine lv_iadd hx hb dL_law_364 ?_
  refine va_sld hx hb hX hbl hbA hH.2 i1 dL_law_365 ?_
  refine m_cV (M2 := M_X10_forgive) (As := [.int (xs (x3 + 1).toNatClampNeg)]) (rest := [.int r1]) h C0 hH hl kc_X10_forgive ki_X10_forgive kx_X10_forgive ob_63 kM_L_55 rfl (Nat.le_of_ble_eq_true rfl) (Nat.le_of_ble_eq_true rfl) ⟨(Nat.le_of_ble_eq_true rfl), (Nat.le_of_ble_eq_true rfl)⟩ dL_law_366 rfl (fun r τ2 H locs hq hH => ?_)
  obtain ⟨r2, rfl, h⟩ := hq
  exact lv_icmp_eq (tgt := 763) hx hb dL_law_369 (by decide) (fun _ => hN _ _ _ h.2 hH) (fun hc => absurd h.1 hc)
set_option maxRecDepth 20000 in
theorem lc_again (C0 : Cx E M_L_law p room_1 s m args c cells slots) (hH : Hd E σ s H locs) (hX : va_X b L xs s s.heap) (hbl : b < s.heap.size) (hbA : ¬ Aw E b) (hl : lv_has ls 4 [(0, .ref b), (1, .ref (Ad E 0)), (2, .ref (Ad E 63)), (3, .int x3)]) (i1 : vp_in (x3 + 1) L) (i2 : vp_in (x3 + 2) L) (i3 : vp_in (x3 + 3) L) (hI : Iv σ n) (hn : n < 100000) (hN : ∀ (τ : Mm) (H : Heap) (locs : List Loc), Iv τ (n + 1) → Hd E τ s H locs → W p (eL E) e room_1 s m args below meth c H locs cells slots Z (F0 m 763 ls [])) : W p (eL E) e room_1 s m args below meth c H locs cells slots Z (F0 m 374 ls []) := by
  have hx := C0.1
  have hb : c.code = cL_law := C0.2.1
  have h := op_again (E := E) (K := fun r r' τ => r = r' ∧ Iv τ (n + 1)) (xs (x3 + 1).toNatClampNeg) (xs (x3 + 2).toNatClampNeg) hI hn (fun r τ hi => ⟨rfl, hi⟩)
  refine lv_aload_n hx hb dL_law_374 rfl (lv_at hl 1 rfl) ?_
  refine lv_aload_n hx hb dL_law_375 rfl (lv_at hl 0 rfl) ?_
  refine lv_iload_n hx hb dL_law_376 rfl (lv_at hl 3 rfl) ?_
  refine lv_iconst (v := 1) hx hb dL_law_377 (by decide) ?_
  refine lv_iadd hx hb dL_law_378 ?_
  refine va_sld hx hb hX hbl hbA hH.2 i1 dL_law_379 ?_
  refine lv_aload_n hx hb dL_law_380 rfl (lv_at hl 0 rfl) ?_
  refine lv_iload_n hx hb dL_law_381 rfl (lv_at hl 3 rfl) ?_
  refine lv_iconst (v := 2) hx hb dL_law_382 (by decide) ?_
  refine lv_iadd hx hb dL_law_383 ?_
  refine va_sld hx hb hX hbl hbA hH.2 i2 dL_law_384 ?_
  refine m_cV (M2 := M_X9_again) (As := [.int (xs (x3 + 1).toNatClampNeg), .int (xs (x3 + 2).toNatClampNeg)]) (rest := []) h C0 hH hl kc_X9_again ki_X9_again kx_X9_again ob_0 kM_L_56 rfl (Nat.le_of_ble_eq_true rfl) (Nat.le_of_ble_eq_true rfl) ⟨(Nat.le_of_ble_eq_true rfl), (Nat.le_of_ble_eq_true rfl)⟩ dL_law_385 rfl (fun r τ1 H locs hq hH => ?_)
  obtain ⟨r1, rfl, h⟩ := hq
  refine lv_aload_n hx hb dL_law_388 rfl (lv_at hl 2 rfl) ?_
  refine lv_aload_n hx hb dL_law_389 rfl (lv_at hl 0 rfl) ?_
  refine lv_iload_n hx hb dL_law_390 rfl (lv_at hl 3 rfl) ?_
  refine lv_iconst (v := 1) hx hb dL_law_391 (by decide) ?_
  refine lv_iadd hx hb dL_law_392 ?_
  refine va_sld hx hb hX hbl hbA hH.2 i1 dL_law_393 ?_
  refine lv_aload_n hx hb dL_law_394 rfl (lv_at hl 0 rfl) ?_
  refine lv_iload_n hx hb dL_law_395 rfl (lv_at hl 3 rfl) ?_
  refine lv_iconst (v := 2) hx hb dL_law_396 (by decide) ?_
  refine lv_iadd hx hb dL_law_397 ?_
  refine va_sld hx hb hX hbl hbA hH.2 i2 dL_law_398 ?_
  refine m_cV (M2 := M_X10_again) (As := [.int (xs (x3 + 1).toNatClampNeg), .int (xs (x3 + 2).toNatClampNeg)]) (rest := [.int r1]) h C0 hH hl kc_X10_again ki_X10_again kx_X10_again ob_63 kM_L_59 rfl (Nat.le_of_ble_eq_true rfl) (Nat.le_of_ble_eq_true rfl) ⟨(Nat.le_of_ble_eq_true rfl), (Nat.le_of_ble_eq_true rfl)⟩ dL_law_399 rfl (fun r τ2 H locs hq hH => ?_)
  obtain ⟨r2, rfl, h⟩ := hq
  exact lv_icmp_eq (tgt := 763) hx hb dL_law_402 (by decide) (fun _ => hN _ _ _ h.2 hH) (fun hc => absurd h.1 hc)
set_option maxRecDepth 20000 in
theorem lc_room (C0 : Cx E M_L_law p room_1 s m args c cells slots) (hH : Hd E σ s H locs) (hX : va_X b L xs s s.heap) (hbl : b < s.heap.size) (hbA : ¬ Aw E b) (hl : lv_has ls 4 [(0, .ref b), (1, .ref (Ad E 0)), (2, .ref (Ad E 63)), (3, .int x3)]) (i1 : vp_in (x3 + 1) L) (i2 : vp_in (x3 + 2) L) (i3 : vp_in (x3 + 3) L) (hI : Iv σ n) (hn : n < 100000) (hN : ∀ (τ : Mm) (H : Heap) (locs : List Loc), Iv τ (n + 1) → Hd E τ s H locs → W p (eL E) e room_1 s m args below meth c H locs cells slots Z (F0 m 763 ls [])) : W p (eL E) e room_1 s m args below meth c H locs cells slots Z (F0 m 407 ls []) := by
  have hx := C0.1
  have hb : c.code = cL_law := C0.2.1
  have h := op_room (E := E) (K := fun r r' τ => r = r' ∧ Iv τ (n + 1)) (xs (x3 + 1).toNatClampNeg) hI hn (fun r τ hi => ⟨rfl, hi⟩)
  refine lv_aload_n hx hb dL_law_407 rfl (lv_at hl 1 rfl) ?_
  refine lv_aload_n hx hb dL_law_408 rfl (lv_at hl 0 rfl) ?_
  refine lv_iload_n hx hb dL_law_409 rfl (lv_at hl 3 rfl) ?_
  refine lv_iconst (v := 1) hx hb dL_law_410 (by decide) ?_
  refine lv_iadd hx hb dL_law_411 ?_
  refine va_sld hx hb hX hbl hbA hH.2 i1 dL_law_412 ?_
  refine m_cV (M2 := M_X9_room) (As := [.int (xs (x3 + 1).toNatClampNeg)]) (rest := []) h C0 hH hl kc_X9_room ki_X9_room kx_X9_room ob_0 kM_L_60 rfl (Nat.le_of_ble_eq_true rfl) (Nat.le_of_ble_eq_true rfl) ⟨(Nat.le_of_ble_eq_true rfl), (Nat.le_of_ble_eq_true rfl)⟩ dL_law_413 rfl (fun r τ1 H locs hq hH => ?_)
  obtain ⟨r1, rfl, h⟩ := hq
  refine lv_aload_n hx hb dL_law_416 rfl (lv_at hl 2 rfl) ?_
  refine lv_aload_n hx hb dL_law_417 rfl (lv_at hl 0 rfl) ?_
  refine lv_iload_n hx hb dL_law_418 rfl (lv_at hl 3 rfl) ?_
  refine lv_iconst (v := 1) hx hb dL_law_419 (by decide) ?_
  refine lv_iadd hx hb dL_law_420 ?_
  refine va_sld hx hb hX hbl hbA hH.2 i1 dL_law_421 ?_
  refine m_cV (M2 := M_X10_room) (As := [.int (xs (x3 + 1).toNatClampNeg)]) (rest := [.int r1]) h C0 hH hl kc_X10_room ki_X10_room kx_X10_room ob_63 kM_L_63 rfl (Nat.le_of_ble_eq_true rfl) (Nat.le_of_ble_eq_true rfl) ⟨(Nat.le_of_ble_eq_true rfl), (Nat.le_of_ble_eq_true rfl)⟩ dL_law_422 rfl (fun r τ2 H locs hq hH => ?_)
  obtain ⟨r2, rfl, h⟩ := hq
  exact lv_icmp_eq (tgt := 763) hx hb dL_law_425 (by decide) (fun _ => hN _ _ _ h.2 hH) (fun hc => absurd h.1 hc)
set_option maxRecDepth 20000 in
theorem lc_change (C0 : Cx E M_L_law p room_1 s m args c cells slots) (hH : Hd E σ s H locs) (hX : va_X b L xs s s.heap) (hbl : b < s.heap.size) (hbA : ¬ Aw E b) (hl : lv_has ls 4 [(0, .ref b), (1, .ref (Ad E 0)), (2, .ref (Ad E 63)), (3, .int x3)]) (i1 : vp_in (x3 + 1) L) (i2 : vp_in (x3 + 2) L) (i3 : vp_in (x3 + 3) L) (hI : Iv σ n) (hn : n < 100000) (hN : ∀ (τ : Mm) (H : Heap) (locs : List Loc), Iv τ (n + 1) → Hd E τ s H locs → W p (eL E) e room_1 s m args below meth c H locs cells slots Z (F0 m 763 ls [])) : W p (eL E) e room_1 s m args below meth c H locs cells slots Z (F0 m 430 ls []) := by
  have hx := C0.1
  have hb : c.code = cL_law := C0.2.1
  have h := op_change (E := E) (K := fun r r' τ => r = r' ∧ Iv τ (n + 1)) (xs (x3 + 1).toNatClampNeg) (xs (x3 + 2).toNatClampNeg) (xs (x3 + 3).toNatClampNeg) hI hn (fun r τ hi => ⟨rfl, hi⟩)
  refine lv_aload_n hx hb dL_law_430 rfl (lv_at hl 1 rfl) ?_
  refine lv_aload_n hx hb dL_law_431 rfl (lv_at hl 0 rfl) ?_
  refine lv_iload_n hx hb dL_law_432 rfl (lv_at hl 3 rfl) ?_
  refine lv_iconst (v := 1) hx hb dL_law_433 (by decide) ?_
  refine lv_iadd hx hb dL_law_434 ?_
  refine va_sld hx hb hX hbl hbA hH.2 i1 dL_law_435 ?_
  refine lv_aload_n hx hb dL_law_436 rfl (lv_at hl 0 rfl) ?_
  refine lv_iload_n hx hb dL_law_437 rfl (lv_at hl 3 rfl) ?_
  refine lv_iconst (v := 2) hx hb dL_law_438 (by decide) ?_
  refine lv_iadd hx hb dL_law_439 ?_
  refine va_sld hx hb hX hbl hbA hH.2 i2 dL_law_440 ?_
  refine lv_aload_n hx hb dL_law_441 rfl (lv_at hl 0 rfl) ?_
  refine lv_iload_n hx hb dL_law_442 rfl (lv_at hl 3 rfl) ?_
  refine lv_iconst (v := 3) hx hb dL_law_443 (by decide) ?_
  refine lv_iadd hx hb dL_law_444 ?_
  refine va_sld hx hb hX hbl hbA hH.2 i3 dL_law_445 ?_
  refine m_cV (M2 := M_X9_change) (As := [.int (xs (x3 + 1).toNatClampNeg), .int (xs (x3 + 2).toNatClampNeg), .int (xs (x3 + 3).toNatClampNeg)]) (rest := []) h C0 hH hl kc_X9_change ki_X9_change kx_X9_change ob_0 kM_L_64 rfl (Nat.le_of_ble_eq_true rfl) (Nat.le_of_ble_eq_true rfl) ⟨(Nat.le_of_ble_eq_true rfl), (Nat.le_of_ble_eq_true rfl)⟩ dL_law_446 rfl (fun r τ1 H locs hq hH => ?_)
  obtain ⟨r1, rfl, h⟩ := hq
  refine lv_aload_n hx hb dL_law_449 rfl (lv_at hl 2 rfl) ?_
  refine lv_aload_n hx hb dL_law_450 rfl (lv_at hl 0 rfl) ?_
  refine lv_iload_n hx hb dL_law_451 rfl (lv_at hl 3 rfl) ?_
  refine lv_iconst (v := 1) hx hb dL_law_452 (by decide) ?_
  refine lv_iadd hx hb dL_law_453 ?_
  refine va_sld hx hb hX hbl hbA hH.2 i1 dL_law_454 ?_
  refine lv_aload_n hx hb dL_law_455 rfl (lv_at hl 0 rfl) ?_
  refine lv_iload_n hx hb dL_law_456 rfl (lv_at hl 3 rfl) ?_
  refine lv_iconst (v := 2) hx hb dL_law_457 (by decide) ?_
  refine lv_iadd hx hb dL_law_458 ?_
  refine va_sld hx hb hX hbl hbA hH.2 i2 dL_law_459 ?_
  refine lv_aload_n hx hb dL_law_460 rfl (lv_at hl 0 rfl) ?_
  refine lv_iload_n hx hb dL_law_461 rfl (lv_at hl 3 rfl) ?_
  refine lv_iconst (v := 3) hx hb dL_law_462 (by decide) ?_
  refine lv_iadd hx hb dL_law_463 ?_
  refine va_sld hx hb hX hbl hbA hH.2 i3 dL_law_464 ?_
  refine m_cV (M2 := M_X10_change) (As := [.int (xs (x3 + 1).toNatClampNeg), .int (xs (x3 + 2).toNatClampNeg), .int (xs (x3 + 3).toNatClampNeg)]) (rest := [.int r1]) h C0 hH hl kc_X10_change ki_X10_change kx_X10_change ob_63 kM_L_68 rfl (Nat.le_of_ble_eq_true rfl) (Nat.le_of_ble_eq_true rfl) ⟨(Nat.le_of_ble_eq_true rfl), (Nat.le_of_ble_eq_true rfl)⟩ dL_law_465 rfl (fun r τ2 H locs hq hH => ?_)
  obtain ⟨r2, rfl, h⟩ := hq
  exact lv_icmp_eq (tgt := 763) hx hb dL_law_468 (by decide) (fun _ => hN _ _ _ h.2 hH) (fun hc => absurd h.1 hc)
set_option maxRecDepth 20000 in
theorem lc_leave (C0 : Cx E M_L_law p room_1 s m args c cells slots) (hH : Hd E σ s H locs) (hX : va_X b L xs s s.heap) (hbl : b < s.heap.size) (hbA : ¬ Aw E b) (hl : lv_has ls 4 [(0, .ref b), (1, .ref (Ad E 0)), (2, .ref (Ad E 63)), (3, .int x3)]) (i1 : vp_in (x3 + 1) L) (i2 : vp_in (x3 + 2) L) (i3 : vp_in (x3 + 3) L) (hI : Iv σ n) (hn : n < 100000) (hN : ∀ (τ : Mm) (H : Heap) (locs : List Loc), Iv τ (n + 1) → Hd E τ s H locs → W p (eL E) e room_1 s m args below meth c H locs cells slots Z (F0 m 763 ls [])) : W p (eL E) e room_1 s m args below meth c H locs cells slots Z (F0 m 473 ls []) := by
  have hx := C0.1
  have hb : c.code = cL_law := C0.2.1
  have h := op_leave (E := E) (K := fun r r' τ => r = r' ∧ Iv τ (n + 1)) (xs (x3 + 1).toNatClampNeg) (xs (x3 + 2).toNatClampNeg) hI hn (fun r τ hi => ⟨rfl, hi⟩)
  refine lv_aload_n hx hb dL_law_473 rfl (lv_at hl 1 rfl) ?_
  refine lv_aload_n hx hb dL_law_474 rfl (lv_at hl 0 rfl) ?_
  refine lv_iload_n hx hb dL_law_475 rfl (lv_at hl 3 rfl) ?_
  refine lv_iconst (v := 1) hx hb dL_law_476 (by decide) ?_
  refine lv_iadd hx hb dL_law_477 ?_
  refine va_sld hx hb hX hbl hbA hH.2 i1 dL_law_478 ?_
  refine lv_aload_n hx hb dL_law_479 rfl (lv_at hl 0 rfl) ?_
  refine lv_iload_n hx hb dL_law_480 rfl (lv_at hl 3 rfl) ?_
  refine lv_iconst (v := 2) hx hb dL_law_481 (by decide) ?_
  refine lv_iadd hx hb dL_law_482 ?_
  refine va_sld hx hb hX hbl hbA hH.2 i2 dL_law_483 ?_
  refine m_cV (M2 := M_X9_leave) (As := [.int (xs (x3 + 1).toNatClampNeg), .int (xs (x3 + 2).toNatClampNeg)]) (rest := []) h C0 hH hl kc_X9_leave ki_X9_leave kx_X9_leave ob_0 kM_L_69 rfl (Nat.le_of_ble_eq_true rfl) (Nat.le_of_ble_eq_true rfl) ⟨(Nat.le_of_ble_eq_true rfl), (Nat.le_of_ble_eq_true rfl)⟩ dL_law_484 rfl (fun r τ1 H locs hq hH => ?_)
  obtain ⟨r1, rfl, h⟩ := hq
  refine lv_aload_n hx hb dL_law_487 rfl (lv_at hl 2 rfl) ?_
  refine lv_aload_n hx hb dL_law_488 rfl (lv_at hl 0 rfl) ?_
  refine lv_iload_n hx hb dL_law_489 rfl (lv_at hl 3 rfl) ?_
  refine lv_iconst (v := 1) hx hb dL_law_490 (by decide) ?_
  refine lv_iadd hx hb dL_law_491 ?_
  refine va_sld hx hb hX hbl hbA hH.2 i1 dL_law_492 ?_
  refine lv_aload_n hx hb dL_law_493 rfl (lv_at hl 0 rfl) ?_
  refine lv_iload_n hx hb dL_law_494 rfl (lv_at hl 3 rfl) ?_
  refine lv_iconst (v := 2) hx hb dL_law_495 (by decide) ?_
  refine lv_iadd hx hb dL_law_496 ?_
  refine va_sld hx hb hX hbl hbA hH.2 i2 dL_law_497 ?_
  refine m_cV (M2 := M_X10_leave) (As := [.int (xs (x3 + 1).toNatClampNeg), .int (xs (x3 + 2).toNatClampNeg)]) (rest := [.int r1]) h C0 hH hl kc_X10_leave ki_X10_leave kx_X10_leave ob_63 kM_L_72 rfl (Nat.le_of_ble_eq_true rfl) (Nat.le_of_ble_eq_true rfl) ⟨(Nat.le_of_ble_eq_true rfl), (Nat.le_of_ble_eq_true rfl)⟩ dL_law_498 rfl (fun r τ2 H locs hq hH => ?_)
  obtain ⟨r2, rfl, h⟩ := hq
  exact lv_icmp_eq (tgt := 763) hx hb dL_law_501 (by decide) (fun _ => hN _ _ _ h.2 hH) (fun hc => absurd h.1 hc)
set_option maxRecDepth 20000 in
theorem lc_ring (C0 : Cx E M_L_law p room_1 s m args c cells slots) (hH : Hd E σ s H locs) (hX : va_X b L xs s s.heap) (hbl : b < s.heap.size) (hbA : ¬ Aw E b) (hl : lv_has ls 4 [(0, .ref b), (1, .ref (Ad E 0)), (2, .ref (Ad E 63)), (3, .int x3)]) (i1 : vp_in (x3 + 1) L) (i2 : vp_in (x3 + 2) L) (i3 : vp_in (x3 + 3) L) (hI : Iv σ n) (hn : n < 100000) (hN : ∀ (τ : Mm) (H : Heap) (locs : List Loc), Iv τ (n + 1) → Hd E τ s H locs → W p (eL E) e room_1 s m args below meth c H locs cells slots Z (F0 m 763 ls [])) : W p (eL E) e room_1 s m args below meth c H locs cells slots Z (F0 m 506 ls []) := by
  have hx := C0.1
  have hb : c.code = cL_law := C0.2.1
  have h := op_ring (E := E) (K := fun r r' τ => r = r' ∧ Iv τ (n + 1)) hI hn (fun r τ hi => ⟨rfl, hi⟩)
  refine lv_aload_n hx hb dL_law_506 rfl (lv_at hl 1 rfl) ?_
  refine m_cV (M2 := M_X9_ring) (As := []) (rest := []) h C0 hH hl kc_X9_ring ki_X9_ring kx_X9_ring ob_0 kM_L_73 rfl (Nat.le_of_ble_eq_true rfl) (Nat.le_of_ble_eq_true rfl) ⟨(Nat.le_of_ble_eq_true rfl), (Nat.le_of_ble_eq_true rfl)⟩ dL_law_507 rfl (fun r τ1 H locs hq hH => ?_)
  obtain ⟨r1, rfl, h⟩ := hq
  refine lv_aload_n hx hb dL_law_510 rfl (lv_at hl 2 rfl) ?_
  refine m_cV (M2 := M_X10_ring) (As := []) (rest := [.int r1]) h C0 hH hl kc_X10_ring ki_X10_ring kx_X10_ring ob_63 kM_L_76 rfl (Nat.le_of_ble_eq_true rfl) (Nat.le_of_ble_eq_true rfl) ⟨(Nat.le_of_ble_eq_true rfl), (Nat.le_of_ble_eq_true rfl)⟩ dL_law_511 rfl (fun r τ2 H locs hq hH => ?_)
  obtain ⟨r2, rfl, h⟩ := hq
  exact lv_icmp_eq (tgt := 763) hx hb dL_law_514 (by decide) (fun _ => hN _ _ _ h.2 hH) (fun hc => absurd h.1 hc)
set_option maxRecDepth 20000 in
theorem lc_peace (C0 : Cx E M_L_law p room_1 s m args c cells slots) (hH : Hd E σ s H locs) (hX : va_X b L xs s s.heap) (hbl : b < s.heap.size) (hbA : ¬ Aw E b) (hl : lv_has ls 4 [(0, .ref b), (1, .ref (Ad E 0)), (2, .ref (Ad E 63)), (3, .int x3)]) (i1 : vp_in (x3 + 1) L) (i2 : vp_in (x3 + 2) L) (i3 : vp_in (x3 + 3) L) (hI : Iv σ n) (hn : n < 100000) (hN : ∀ (τ : Mm) (H : Heap) (locs : List Loc), Iv τ (n + 1) → Hd E τ s H locs → W p (eL E) e room_1 s m args below meth c H locs cells slots Z (F0 m 763 ls [])) : W p (eL E) e room_1 s m args below meth c H locs cells slots Z (F0 m 519 ls []) := by
  have hx := C0.1
  have hb : c.code = cL_law := C0.2.1
  have h := op_peace (E := E) (K := fun r r' τ => r = r' ∧ Iv τ (n + 1)) (xs (x3 + 1).toNatClampNeg) hI hn (fun r τ hi => ⟨rfl, hi⟩)
  refine lv_aload_n hx hb dL_law_519 rfl (lv_at hl 1 rfl) ?_
  refine lv_aload_n hx hb dL_law_520 rfl (lv_at hl 0 rfl) ?_
  refine lv_iload_n hx hb dL_law_521 rfl (lv_at hl 3 rfl) ?_
  refine lv_iconst (v := 1) hx hb dL_law_522 (by decide) ?_
  refine lv_iadd hx hb dL_law_523 ?_
  refine va_sld hx hb hX hbl hbA hH.2 i1 dL_law_524 ?_
  refine m_cV (M2 := M_X9_peace) (As := [.int (xs (x3 + 1).toNatClampNeg)]) (rest := []) h C0 hH hl kc_X9_peace ki_X9_peace kx_X9_peace ob_0 kM_L_77 rfl (Nat.le_of_ble_eq_true rfl) (Nat.le_of_ble_eq_true rfl) ⟨(Nat.le_of_ble_eq_true rfl), (Nat.le_of_ble_eq_true rfl)⟩ dL_law_525 rfl (fun r τ1 H locs hq hH => ?_)
  obtain ⟨r1, rfl, h⟩ := hq
  refine lv_aload_n hx hb dL_law_528 rfl (lv_at hl 2 rfl) ?_
  refine lv_aload_n hx hb dL_law_529 rfl (lv_at hl 0 rfl) ?_
  refine lv_iload_n hx hb dL_law_530 rfl (lv_at hl 3 rfl) ?_
  refine lv_iconst (v := 1) hx hb dL_law_531 (by decide) ?_
  refine lv_iadd hx hb dL_law_532 ?_
  refine va_sld hx hb hX hbl hbA hH.2 i1 dL_law_533 ?_
  refine m_cV (M2 := M_X10_peace) (As := [.int (xs (x3 + 1).toNatClampNeg)]) (rest := [.int r1]) h C0 hH hl kc_X10_peace ki_X10_peace kx_X10_peace ob_63 kM_L_80 rfl (Nat.le_of_ble_eq_true rfl) (Nat.le_of_ble_eq_true rfl) ⟨(Nat.le_of_ble_eq_true rfl), (Nat.le_of_ble_eq_true rfl)⟩ dL_law_534 rfl (fun r τ2 H locs hq hH => ?_)
  obtain ⟨r2, rfl, h⟩ := hq
  exact lv_icmp_eq (tgt := 763) hx hb dL_law_537 (by decide) (fun _ => hN _ _ _ h.2 hH) (fun hc => absurd h.1 hc)
set_option maxRecDepth 20000 in
theorem lc_odds (C0 : Cx E M_L_law p room_1 s m args c cells slots) (hH : Hd E σ s H locs) (hX : va_X b L xs s s.heap) (hbl : b < s.heap.size) (hbA : ¬ Aw E b) (hl : lv_has ls 4 [(0, .ref b), (1, .ref (Ad E 0)), (2, .ref (Ad E 63)), (3, .int x3)]) (i1 : vp_in (x3 + 1) L) (i2 : vp_in (x3 + 2) L) (i3 : vp_in (x3 + 3) L) (hI : Iv σ n) (hn : n < 100000) (hN : ∀ (τ : Mm) (H : Heap) (locs : List Loc), Iv τ (n + 1) → Hd E τ s H locs → W p (eL E) e room_1 s m args below meth c H locs cells slots Z (F0 m 763 ls [])) : W p (eL E) e room_1 s m args below meth c H locs cells slots Z (F0 m 542 ls []) := by
  have hx := C0.1
  have hb : c.code = cL_law := C0.2.1
  have h := op_odds (E := E) (K := fun r r' τ => r = r' ∧ Iv τ (n + 1)) (xs (x3 + 1).toNatClampNeg) (xs (x3 + 2).toNatClampNeg) (xs (x3 + 3).toNatClampNeg) hI hn (fun r τ hi => ⟨rfl, hi⟩)
  refine lv_aload_n hx hb dL_law_542 rfl (lv_at hl 1 rfl) ?_
  refine lv_aload_n hx hb dL_law_543 rfl (lv_at hl 0 rfl) ?_
  refine lv_iload_n hx hb dL_law_544 rfl (lv_at hl 3 rfl) ?_
  refine lv_iconst (v := 1) hx hb dL_law_545 (by decide) ?_
  refine lv_iadd hx hb dL_law_546 ?_
  refine va_sld hx hb hX hbl hbA hH.2 i1 dL_law_547 ?_
  refine lv_aload_n hx hb dL_law_548 rfl (lv_at hl 0 rfl) ?_
  refine lv_iload_n hx hb dL_law_549 rfl (lv_at hl 3 rfl) ?_
  refine lv_iconst (v := 2) hx hb dL_law_550 (by decide) ?_
  refine lv_iadd hx hb dL_law_551 ?_
  refine va_sld hx hb hX hbl hbA hH.2 i2 dL_law_552 ?_
  refine lv_aload_n hx hb dL_law_553 rfl (lv_at hl 0 rfl) ?_
  refine lv_iload_n hx hb dL_law_554 rfl (lv_at hl 3 rfl) ?_
  refine lv_iconst (v := 3) hx hb dL_law_555 (by decide) ?_
  refine lv_iadd hx hb dL_law_556 ?_
  refine va_sld hx hb hX hbl hbA hH.2 i3 dL_law_557 ?_
  refine m_cV (M2 := M_X9_odds) (As := [.int (xs (x3 + 1).toNatClampNeg), .int (xs (x3 + 2).toNatClampNeg), .int (xs (x3 + 3).toNatClampNeg)]) (rest := []) h C0 hH hl kc_X9_odds ki_X9_odds kx_X9_odds ob_0 kM_L_81 rfl (Nat.le_of_ble_eq_true rfl) (Nat.le_of_ble_eq_true rfl) ⟨(Nat.le_of_ble_eq_true rfl), (Nat.le_of_ble_eq_true rfl)⟩ dL_law_558 rfl (fun r τ1 H locs hq hH => ?_)
  obtain ⟨r1, rfl, h⟩ := hq
  refine lv_aload_n hx hb dL_law_561 rfl (lv_at hl 2 rfl) ?_
  refine lv_aload_n hx hb dL_law_562 rfl (lv_at hl 0 rfl) ?_
  refine lv_iload_n hx hb dL_law_563 rfl (lv_at hl 3 rfl) ?_
  refine lv_iconst (v := 1) hx hb dL_law_564 (by decide) ?_
  refine lv_iadd hx hb dL_law_565 ?_
  refine va_sld hx hb hX hbl hbA hH.2 i1 dL_law_566 ?_
  refine lv_aload_n hx hb dL_law_567 rfl (lv_at hl 0 rfl) ?_
  refine lv_iload_n hx hb dL_law_568 rfl (lv_at hl 3 rfl) ?_
  refine lv_iconst (v := 2) hx hb dL_law_569 (by decide) ?_
  refine lv_iadd hx hb dL_law_570 ?_
  refine va_sld hx hb hX hbl hbA hH.2 i2 dL_law_571 ?_
  refine lv_aload_n hx hb dL_law_572 rfl (lv_at hl 0 rfl) ?_
  refine lv_iload_n hx hb dL_law_573 rfl (lv_at hl 3 rfl) ?_
  refine lv_iconst (v := 3) hx hb dL_law_574 (by decide) ?_
  refine lv_iadd hx hb dL_law_575 ?_
  refine va_sld hx hb hX hbl hbA hH.2 i3 dL_law_576 ?_
  refine m_cV (M2 := M_X10_odds) (As := [.int (xs (x3 + 1).toNatClampNeg), .int (xs (x3 + 2).toNatClampNeg), .int (xs (x3 + 3).toNatClampNeg)]) (rest := [.int r1]) h C0 hH hl kc_X10_odds ki_X10_odds kx_X10_odds ob_63 kM_L_84 rfl (Nat.le_of_ble_eq_true rfl) (Nat.le_of_ble_eq_true rfl) ⟨(Nat.le_of_ble_eq_true rfl), (Nat.le_of_ble_eq_true rfl)⟩ dL_law_577 rfl (fun r τ2 H locs hq hH => ?_)
  obtain ⟨r2, rfl, h⟩ := hq
  exact lv_icmp_eq (tgt := 763) hx hb dL_law_580 (by decide) (fun _ => hN _ _ _ h.2 hH) (fun hc => absurd h.1 hc)
set_option maxRecDepth 20000 in
theorem lc_see0 (C0 : Cx E M_L_law p room_1 s m args c cells slots) (hH : Hd E σ s H locs) (hX : va_X b L xs s s.heap) (hbl : b < s.heap.size) (hbA : ¬ Aw E b) (hl : lv_has ls 4 [(0, .ref b), (1, .ref (Ad E 0)), (2, .ref (Ad E 63)), (3, .int x3)]) (i1 : vp_in (x3 + 1) L) (i2 : vp_in (x3 + 2) L) (i3 : vp_in (x3 + 3) L) (hI : Iv σ n) (hn : n < 100000) (hN : ∀ (τ : Mm) (H : Heap) (locs : List Loc), Iv τ (n + 1) → Hd E τ s H locs → W p (eL E) e room_1 s m args below meth c H locs cells slots Z (F0 m 763 ls [])) (hz : (xs (x3 + 3).toNatClampNeg) = 0) : W p (eL E) e room_1 s m args below meth c H locs cells slots Z (F0 m 585 ls []) := by
  have hx := C0.1
  have hb : c.code = cL_law := C0.2.1
  have h := op_see (E := E) (K := fun r r' τ => r = r' ∧ Iv τ (n + 1)) (xs (x3 + 1).toNatClampNeg) (xs (x3 + 2).toNatClampNeg) 0 (Or.inl rfl) hI hn (fun r τ hi => ⟨rfl, hi⟩)
  refine lv_aload_n hx hb dL_law_585 rfl (lv_at hl 1 rfl) ?_
  refine lv_aload_n hx hb dL_law_586 rfl (lv_at hl 0 rfl) ?_
  refine lv_iload_n hx hb dL_law_587 rfl (lv_at hl 3 rfl) ?_
  refine lv_iconst (v := 1) hx hb dL_law_588 (by decide) ?_
  refine lv_iadd hx hb dL_law_589 ?_
  refine va_sld hx hb hX hbl hbA hH.2 i1 dL_law_590 ?_
  refine lv_aload_n hx hb dL_law_591 rfl (lv_at hl 0 rfl) ?_
  refine lv_iload_n hx hb dL_law_592 rfl (lv_at hl 3 rfl) ?_
  refine lv_iconst (v := 2) hx hb dL_law_593 (by decide) ?_
  refine lv_iadd hx hb dL_law_594 ?_
  refine va_sld hx hb hX hbl hbA hH.2 i2 dL_law_595 ?_
  refine lv_aload_n hx hb dL_law_596 rfl (lv_at hl 0 rfl) ?_
  refine lv_iload_n hx hb dL_law_597 rfl (lv_at hl 3 rfl) ?_
  refine lv_iconst (v := 3) hx hb dL_law_598 (by decide) ?_
  refine lv_iadd hx hb dL_law_599 ?_
  refine va_sld hx hb hX hbl hbA hH.2 i3 dL_law_600 ?_
  refine lv_if_eq (tgt := 608) hx hb dL_law_601 (by decide) (fun hc => ?_) (fun hc => ?_)
  rotate_left
  · exact absurd hz hc
  refine lv_iconst (v := 0) hx hb dL_law_608 (by decide) ?_
  refine m_cV (M2 := M_X9_see) (As := [.int (xs (x3 + 1).toNatClampNeg), .int (xs (x3 + 2).toNatClampNeg), .int 0]) (rest := []) h C0 hH hl kc_X9_see ki_X9_see kx_X9_see ob_0 kM_L_85 rfl (Nat.le_of_ble_eq_true rfl) (Nat.le_of_ble_eq_true rfl) ⟨(Nat.le_of_ble_eq_true rfl), (Nat.le_of_ble_eq_true rfl)⟩ dL_law_609 rfl (fun r τ1 H locs hq hH => ?_)
  obtain ⟨r1, rfl, h⟩ := hq
  refine lv_aload_n hx hb dL_law_612 rfl (lv_at hl 2 rfl) ?_
  refine lv_aload_n hx hb dL_law_613 rfl (lv_at hl 0 rfl) ?_
  refine lv_iload_n hx hb dL_law_614 rfl (lv_at hl 3 rfl) ?_
  refine lv_iconst (v := 1) hx hb dL_law_615 (by decide) ?_
  refine lv_iadd hx hb dL_law_616 ?_
  refine va_sld hx hb hX hbl hbA hH.2 i1 dL_law_617 ?_
  refine lv_aload_n hx hb dL_law_618 rfl (lv_at hl 0 rfl) ?_
  refine lv_iload_n hx hb dL_law_619 rfl (lv_at hl 3 rfl) ?_
  refine lv_iconst (v := 2) hx hb dL_law_620 (by decide) ?_
  refine lv_iadd hx hb dL_law_621 ?_
  refine va_sld hx hb hX hbl hbA hH.2 i2 dL_law_622 ?_
  refine lv_aload_n hx hb dL_law_623 rfl (lv_at hl 0 rfl) ?_
  refine lv_iload_n hx hb dL_law_624 rfl (lv_at hl 3 rfl) ?_
  refine lv_iconst (v := 3) hx hb dL_law_625 (by decide) ?_
  refine lv_iadd hx hb dL_law_626 ?_
  refine va_sld hx hb hX hbl hbA hH.2 i3 dL_law_627 ?_
  refine lv_if_eq (tgt := 635) hx hb dL_law_628 (by decide) (fun hc => ?_) (fun hc => ?_)
  rotate_left
  · exact absurd hz hc
  refine lv_iconst (v := 0) hx hb dL_law_635 (by decide) ?_
  refine m_cV (M2 := M_X10_see) (As := [.int (xs (x3 + 1).toNatClampNeg), .int (xs (x3 + 2).toNatClampNeg), .int 0]) (rest := [.int r1]) h C0 hH hl kc_X10_see ki_X10_see kx_X10_see ob_63 kM_L_89 rfl (Nat.le_of_ble_eq_true rfl) (Nat.le_of_ble_eq_true rfl) ⟨(Nat.le_of_ble_eq_true rfl), (Nat.le_of_ble_eq_true rfl)⟩ dL_law_636 rfl (fun r τ2 H locs hq hH => ?_)
  obtain ⟨r2, rfl, h⟩ := hq
  exact lv_icmp_eq (tgt := 763) hx hb dL_law_639 (by decide) (fun _ => hN _ _ _ h.2 hH) (fun hc => absurd h.1 hc)
set_option maxRecDepth 20000 in
theorem lc_see1 (C0 : Cx E M_L_law p room_1 s m args c cells slots) (hH : Hd E σ s H locs) (hX : va_X b L xs s s.heap) (hbl : b < s.heap.size) (hbA : ¬ Aw E b) (hl : lv_has ls 4 [(0, .ref b), (1, .ref (Ad E 0)), (2, .ref (Ad E 63)), (3, .int x3)]) (i1 : vp_in (x3 + 1) L) (i2 : vp_in (x3 + 2) L) (i3 : vp_in (x3 + 3) L) (hI : Iv σ n) (hn : n < 100000) (hN : ∀ (τ : Mm) (H : Heap) (locs : List Loc), Iv τ (n + 1) → Hd E τ s H locs → W p (eL E) e room_1 s m args below meth c H locs cells slots Z (F0 m 763 ls [])) (hz : ¬ (xs (x3 + 3).toNatClampNeg) = 0) : W p (eL E) e room_1 s m args below meth c H locs cells slots Z (F0 m 585 ls []) := by
  have hx := C0.1
  have hb : c.code = cL_law := C0.2.1
  have h := op_see (E := E) (K := fun r r' τ => r = r' ∧ Iv τ (n + 1)) (xs (x3 + 1).toNatClampNeg) (xs (x3 + 2).toNatClampNeg) 1 (Or.inr rfl) hI hn (fun r τ hi => ⟨rfl, hi⟩)
  refine lv_aload_n hx hb dL_law_585 rfl (lv_at hl 1 rfl) ?_
  refine lv_aload_n hx hb dL_law_586 rfl (lv_at hl 0 rfl) ?_
  refine lv_iload_n hx hb dL_law_587 rfl (lv_at hl 3 rfl) ?_
  refine lv_iconst (v := 1) hx hb dL_law_588 (by decide) ?_
  refine lv_iadd hx hb dL_law_589 ?_
  refine va_sld hx hb hX hbl hbA hH.2 i1 dL_law_590 ?_
  refine lv_aload_n hx hb dL_law_591 rfl (lv_at hl 0 rfl) ?_
  refine lv_iload_n hx hb dL_law_592 rfl (lv_at hl 3 rfl) ?_
  refine lv_iconst (v := 2) hx hb dL_law_593 (by decide) ?_
  refine lv_iadd hx hb dL_law_594 ?_
  refine va_sld hx hb hX hbl hbA hH.2 i2 dL_law_595 ?_
  refine lv_aload_n hx hb dL_law_596 rfl (lv_at hl 0 rfl) ?_
  refine lv_iload_n hx hb dL_law_597 rfl (lv_at hl 3 rfl) ?_
  refine lv_iconst (v := 3) hx hb dL_law_598 (by decide) ?_
  refine lv_iadd hx hb dL_law_599 ?_
  refine va_sld hx hb hX hbl hbA hH.2 i3 dL_law_600 ?_
  refine lv_if_eq (tgt := 608) hx hb dL_law_601 (by decide) (fun hc => ?_) (fun hc => ?_)
  · exact absurd hc hz
  refine lv_iconst (v := 1) hx hb dL_law_604 (by decide) ?_
  refine lv_goto (tgt := 609) hx hb dL_law_605 (by decide) ?_
  refine m_cV (M2 := M_X9_see) (As := [.int (xs (x3 + 1).toNatClampNeg), .int (xs (x3 + 2).toNatClampNeg), .int 1]) (rest := []) h C0 hH hl kc_X9_see ki_X9_see kx_X9_see ob_0 kM_L_85 rfl (Nat.le_of_ble_eq_true rfl) (Nat.le_of_ble_eq_true rfl) ⟨(Nat.le_of_ble_eq_true rfl), (Nat.le_of_ble_eq_true rfl)⟩ dL_law_609 rfl (fun r τ1 H locs hq hH => ?_)
  obtain ⟨r1, rfl, h⟩ := hq
  refine lv_aload_n hx hb dL_law_612 rfl (lv_at hl 2 rfl) ?_
  refine lv_aload_n hx hb dL_law_613 rfl (lv_at hl 0 rfl) ?_
  refine lv_iload_n hx hb dL_law_614 rfl (lv_at hl 3 rfl) ?_
  refine lv_iconst (v := 1) hx hb dL_law_615 (by decide) ?_
  refine lv_iadd hx hb dL_law_616 ?_
  refine va_sld hx hb hX hbl hbA hH.2 i1 dL_law_617 ?_
  refine lv_aload_n hx hb dL_law_618 rfl (lv_at hl 0 rfl) ?_
  refine lv_iload_n hx hb dL_law_619 rfl (lv_at hl 3 rfl) ?_
  refine lv_iconst (v := 2) hx hb dL_law_620 (by decide) ?_
  refine lv_iadd hx hb dL_law_621 ?_
  refine va_sld hx hb hX hbl hbA hH.2 i2 dL_law_622 ?_
  refine lv_aload_n hx hb dL_law_623 rfl (lv_at hl 0 rfl) ?_
  refine lv_iload_n hx hb dL_law_624 rfl (lv_at hl 3 rfl) ?_
  refine lv_iconst (v := 3) hx hb dL_law_625 (by decide) ?_
  refine lv_iadd hx hb dL_law_626 ?_
  refine va_sld hx hb hX hbl hbA hH.2 i3 dL_law_627 ?_
  refine lv_if_eq (tgt := 635) hx hb dL_law_628 (by decide) (fun hc => ?_) (fun hc => ?_)
  · exact absurd hc hz
  refine lv_iconst (v := 1) hx hb dL_law_631 (by decide) ?_
  refine lv_goto (tgt := 636) hx hb dL_law_632 (by decide) ?_
  refine m_cV (M2 := M_X10_see) (As := [.int (xs (x3 + 1).toNatClampNeg), .int (xs (x3 + 2).toNatClampNeg), .int 1]) (rest := [.int r1]) h C0 hH hl kc_X10_see ki_X10_see kx_X10_see ob_63 kM_L_89 rfl (Nat.le_of_ble_eq_true rfl) (Nat.le_of_ble_eq_true rfl) ⟨(Nat.le_of_ble_eq_true rfl), (Nat.le_of_ble_eq_true rfl)⟩ dL_law_636 rfl (fun r τ2 H locs hq hH => ?_)
  obtain ⟨r2, rfl, h⟩ := hq
  exact lv_icmp_eq (tgt := 763) hx hb dL_law_639 (by decide) (fun _ => hN _ _ _ h.2 hH) (fun hc => absurd h.1 hc)
set_option maxRecDepth 20000 in
theorem lc_forget (C0 : Cx E M_L_law p room_1 s m args c cells slots) (hH : Hd E σ s H locs) (hX : va_X b L xs s s.heap) (hbl : b < s.heap.size) (hbA : ¬ Aw E b) (hl : lv_has ls 4 [(0, .ref b), (1, .ref (Ad E 0)), (2, .ref (Ad E 63)), (3, .int x3)]) (i1 : vp_in (x3 + 1) L) (i2 : vp_in (x3 + 2) L) (i3 : vp_in (x3 + 3) L) (hI : Iv σ n) (hn : n < 100000) (hN : ∀ (τ : Mm) (H : Heap) (locs : List Loc), Iv τ (n + 1) → Hd E τ s H locs → W p (eL E) e room_1 s m args below meth c H locs cells slots Z (F0 m 763 ls [])) : W p (eL E) e room_1 s m args below meth c H locs cells slots Z (F0 m 644 ls []) := by
  have hx := C0.1
  have hb : c.code = cL_law := C0.2.1
  have h := op_forget (E := E) (K := fun r r' τ => r = r' ∧ Iv τ (n + 1)) hI hn (fun r τ hi => ⟨rfl, hi⟩)
  refine lv_aload_n hx hb dL_law_644 rfl (lv_at hl 1 rfl) ?_
  refine m_cV (M2 := M_X9_forget) (As := []) (rest := []) h C0 hH hl kc_X9_forget ki_X9_forget kx_X9_forget ob_0 kM_L_90 rfl (Nat.le_of_ble_eq_true rfl) (Nat.le_of_ble_eq_true rfl) ⟨(Nat.le_of_ble_eq_true rfl), (Nat.le_of_ble_eq_true rfl)⟩ dL_law_645 rfl (fun r τ1 H locs hq hH => ?_)
  obtain ⟨r1, rfl, h⟩ := hq
  refine lv_aload_n hx hb dL_law_648 rfl (lv_at hl 2 rfl) ?_
  refine m_cV (M2 := M_X10_forget) (As := []) (rest := [.int r1]) h C0 hH hl kc_X10_forget ki_X10_forget kx_X10_forget ob_63 kM_L_93 rfl (Nat.le_of_ble_eq_true rfl) (Nat.le_of_ble_eq_true rfl) ⟨(Nat.le_of_ble_eq_true rfl), (Nat.le_of_ble_eq_true rfl)⟩ dL_law_649 rfl (fun r τ2 H locs hq hH => ?_)
  obtain ⟨r2, rfl, h⟩ := hq
  exact lv_icmp_eq (tgt := 763) hx hb dL_law_652 (by decide) (fun _ => hN _ _ _ h.2 hH) (fun hc => absurd h.1 hc)
set_option maxRecDepth 20000 in
theorem lc_winters (C0 : Cx E M_L_law p room_1 s m args c cells slots) (hH : Hd E σ s H locs) (hX : va_X b L xs s s.heap) (hbl : b < s.heap.size) (hbA : ¬ Aw E b) (hl : lv_has ls 4 [(0, .ref b), (1, .ref (Ad E 0)), (2, .ref (Ad E 63)), (3, .int x3)]) (i1 : vp_in (x3 + 1) L) (i2 : vp_in (x3 + 2) L) (i3 : vp_in (x3 + 3) L) (hI : Iv σ n) (hn : n < 100000) (hN : ∀ (τ : Mm) (H : Heap) (locs : List Loc), Iv τ (n + 1) → Hd E τ s H locs → W p (eL E) e room_1 s m args below meth c H locs cells slots Z (F0 m 763 ls [])) : W p (eL E) e room_1 s m args below meth c H locs cells slots Z (F0 m 657 ls []) := by
  have hx := C0.1
  have hb : c.code = cL_law := C0.2.1
  have h := op_winters (E := E) (K := fun r r' τ => r = r' ∧ Iv τ (n + 1)) (xs (x3 + 1).toNatClampNeg) (xs (x3 + 2).toNatClampNeg) (xs (x3 + 3).toNatClampNeg) hI hn (fun r τ hi => ⟨rfl, hi⟩)
  refine lv_aload_n hx hb dL_law_657 rfl (lv_at hl 1 rfl) ?_
  refine lv_aload_n hx hb dL_law_658 rfl (lv_at hl 0 rfl) ?_
  refine lv_iload_n hx hb dL_law_659 rfl (lv_at hl 3 rfl) ?_
  refine lv_iconst (v := 1) hx hb dL_law_660 (by decide) ?_
  refine lv_iadd hx hb dL_law_661 ?_
  refine va_sld hx hb hX hbl hbA hH.2 i1 dL_law_662 ?_
  refine lv_aload_n hx hb dL_law_663 rfl (lv_at hl 0 rfl) ?_
  refine lv_iload_n hx hb dL_law_664 rfl (lv_at hl 3 rfl) ?_
  refine lv_iconst (v := 2) hx hb dL_law_665 (by decide) ?_
  refine lv_iadd hx hb dL_law_666 ?_
  refine va_sld hx hb hX hbl hbA hH.2 i2 dL_law_667 ?_
  refine lv_aload_n hx hb dL_law_668 rfl (lv_at hl 0 rfl) ?_
  refine lv_iload_n hx hb dL_law_669 rfl (lv_at hl 3 rfl) ?_
  refine lv_iconst (v := 3) hx hb dL_law_670 (by decide) ?_
  refine lv_iadd hx hb dL_law_671 ?_
  refine va_sld hx hb hX hbl hbA hH.2 i3 dL_law_672 ?_
  refine m_cV (M2 := M_X9_winters) (As := [.int (xs (x3 + 1).toNatClampNeg), .int (xs (x3 + 2).toNatClampNeg), .int (xs (x3 + 3).toNatClampNeg)]) (rest := []) h C0 hH hl kc_X9_winters ki_X9_winters kx_X9_winters ob_0 kM_L_94 rfl (Nat.le_of_ble_eq_true rfl) (Nat.le_of_ble_eq_true rfl) ⟨(Nat.le_of_ble_eq_true rfl), (Nat.le_of_ble_eq_true rfl)⟩ dL_law_673 rfl (fun r τ1 H locs hq hH => ?_)
  obtain ⟨r1, rfl, h⟩ := hq
  refine lv_aload_n hx hb dL_law_676 rfl (lv_at hl 2 rfl) ?_
  refine lv_aload_n hx hb dL_law_677 rfl (lv_at hl 0 rfl) ?_
  refine lv_iload_n hx hb dL_law_678 rfl (lv_at hl 3 rfl) ?_
  refine lv_iconst (v := 1) hx hb dL_law_679 (by decide) ?_
  refine lv_iadd hx hb dL_law_680 ?_
  refine va_sld hx hb hX hbl hbA hH.2 i1 dL_law_681 ?_
  refine lv_aload_n hx hb dL_law_682 rfl (lv_at hl 0 rfl) ?_
  refine lv_iload_n hx hb dL_law_683 rfl (lv_at hl 3 rfl) ?_
  refine lv_iconst (v := 2) hx hb dL_law_684 (by decide) ?_
  refine lv_iadd hx hb dL_law_685 ?_
  refine va_sld hx hb hX hbl hbA hH.2 i2 dL_law_686 ?_
  refine lv_aload_n hx hb dL_law_687 rfl (lv_at hl 0 rfl) ?_
  refine lv_iload_n hx hb dL_law_688 rfl (lv_at hl 3 rfl) ?_
  refine lv_iconst (v := 3) hx hb dL_law_689 (by decide) ?_
  refine lv_iadd hx hb dL_law_690 ?_
  refine va_sld hx hb hX hbl hbA hH.2 i3 dL_law_691 ?_
  refine m_cV (M2 := M_X10_winters) (As := [.int (xs (x3 + 1).toNatClampNeg), .int (xs (x3 + 2).toNatClampNeg), .int (xs (x3 + 3).toNatClampNeg)]) (rest := [.int r1]) h C0 hH hl kc_X10_winters ki_X10_winters kx_X10_winters ob_63 kM_L_97 rfl (Nat.le_of_ble_eq_true rfl) (Nat.le_of_ble_eq_true rfl) ⟨(Nat.le_of_ble_eq_true rfl), (Nat.le_of_ble_eq_true rfl)⟩ dL_law_692 rfl (fun r τ2 H locs hq hH => ?_)
  obtain ⟨r2, rfl, h⟩ := hq
  exact lv_icmp_eq (tgt := 763) hx hb dL_law_695 (by decide) (fun _ => hN _ _ _ h.2 hH) (fun hc => absurd h.1 hc)
set_option maxRecDepth 20000 in
theorem lc_image (C0 : Cx E M_L_law p room_1 s m args c cells slots) (hH : Hd E σ s H locs) (hX : va_X b L xs s s.heap) (hbl : b < s.heap.size) (hbA : ¬ Aw E b) (hl : lv_has ls 4 [(0, .ref b), (1, .ref (Ad E 0)), (2, .ref (Ad E 63)), (3, .int x3)]) (i1 : vp_in (x3 + 1) L) (i2 : vp_in (x3 + 2) L) (i3 : vp_in (x3 + 3) L) (hI : Iv σ n) (hn : n < 100000) (hN : ∀ (τ : Mm) (H : Heap) (locs : List Loc), Iv τ (n + 1) → Hd E τ s H locs → W p (eL E) e room_1 s m args below meth c H locs cells slots Z (F0 m 763 ls [])) : W p (eL E) e room_1 s m args below meth c H locs cells slots Z (F0 m 700 ls []) := by
  have hx := C0.1
  have hb : c.code = cL_law := C0.2.1
  have h := op_image (E := E) (K := fun r r' τ => r = r' ∧ Iv τ (n + 1)) hI hn (fun r τ hi => ⟨rfl, hi⟩)
  refine lv_aload_n hx hb dL_law_700 rfl (lv_at hl 1 rfl) ?_
  refine m_cV (M2 := M_X9_image) (As := []) (rest := []) h C0 hH hl kc_X9_image ki_X9_image kx_X9_image ob_0 kM_L_98 rfl (Nat.le_of_ble_eq_true rfl) (Nat.le_of_ble_eq_true rfl) ⟨(Nat.le_of_ble_eq_true rfl), (Nat.le_of_ble_eq_true rfl)⟩ dL_law_701 rfl (fun r τ1 H locs hq hH => ?_)
  obtain ⟨r1, rfl, h⟩ := hq
  refine lv_aload_n hx hb dL_law_704 rfl (lv_at hl 2 rfl) ?_
  refine m_cV (M2 := M_X10_image) (As := []) (rest := [.int r1]) h C0 hH hl kc_X10_image ki_X10_image kx_X10_image ob_63 kM_L_101 rfl (Nat.le_of_ble_eq_true rfl) (Nat.le_of_ble_eq_true rfl) ⟨(Nat.le_of_ble_eq_true rfl), (Nat.le_of_ble_eq_true rfl)⟩ dL_law_705 rfl (fun r τ2 H locs hq hH => ?_)
  obtain ⟨r2, rfl, h⟩ := hq
  exact lv_icmp_eq (tgt := 763) hx hb dL_law_708 (by decide) (fun _ => hN _ _ _ h.2 hH) (fun hc => absurd h.1 hc)
set_option maxRecDepth 20000 in
theorem lc_restore (C0 : Cx E M_L_law p room_1 s m args c cells slots) (hH : Hd E σ s H locs) (hX : va_X b L xs s s.heap) (hbl : b < s.heap.size) (hbA : ¬ Aw E b) (hl : lv_has ls 4 [(0, .ref b), (1, .ref (Ad E 0)), (2, .ref (Ad E 63)), (3, .int x3)]) (i1 : vp_in (x3 + 1) L) (i2 : vp_in (x3 + 2) L) (i3 : vp_in (x3 + 3) L) (hI : Iv σ n) (hn : n < 100000) (hN : ∀ (τ : Mm) (H : Heap) (locs : List Loc), Iv τ (n + 1) → Hd E τ s H locs → W p (eL E) e room_1 s m args below meth c H locs cells slots Z (F0 m 763 ls [])) : W p (eL E) e room_1 s m args below meth c H locs cells slots Z (F0 m 713 ls []) := by
  have hx := C0.1
  have hb : c.code = cL_law := C0.2.1
  have h := op_restore (E := E) (K := fun r r' τ => r = r' ∧ Iv τ (n + 1)) hI hn (fun r τ hi => ⟨rfl, hi⟩)
  refine lv_aload_n hx hb dL_law_713 rfl (lv_at hl 1 rfl) ?_
  refine m_cV (M2 := M_X9_restore) (As := []) (rest := []) h C0 hH hl kc_X9_restore ki_X9_restore kx_X9_restore ob_0 kM_L_102 rfl (Nat.le_of_ble_eq_true rfl) (Nat.le_of_ble_eq_true rfl) ⟨(Nat.le_of_ble_eq_true rfl), (Nat.le_of_ble_eq_true rfl)⟩ dL_law_714 rfl (fun r τ1 H locs hq hH => ?_)
  obtain ⟨r1, rfl, h⟩ := hq
  refine lv_aload_n hx hb dL_law_717 rfl (lv_at hl 2 rfl) ?_
  refine m_cV (M2 := M_X10_restore) (As := []) (rest := [.int r1]) h C0 hH hl kc_X10_restore ki_X10_restore kx_X10_restore ob_63 kM_L_105 rfl (Nat.le_of_ble_eq_true rfl) (Nat.le_of_ble_eq_true rfl) ⟨(Nat.le_of_ble_eq_true rfl), (Nat.le_of_ble_eq_true rfl)⟩ dL_law_718 rfl (fun r τ2 H locs hq hH => ?_)
  obtain ⟨r2, rfl, h⟩ := hq
  exact lv_icmp_eq (tgt := 763) hx hb dL_law_721 (by decide) (fun _ => hN _ _ _ h.2 hH) (fun hc => absurd h.1 hc)
set_option maxRecDepth 20000 in
theorem lc_count (C0 : Cx E M_L_law p room_1 s m args c cells slots) (hH : Hd E σ s H locs) (hX : va_X b L xs s s.heap) (hbl : b < s.heap.size) (hbA : ¬ Aw E b) (hl : lv_has ls 4 [(0, .ref b), (1, .ref (Ad E 0)), (2, .ref (Ad E 63)), (3, .int x3)]) (i1 : vp_in (x3 + 1) L) (i2 : vp_in (x3 + 2) L) (i3 : vp_in (x3 + 3) L) (hI : Iv σ n) (hn : n < 100000) (hN : ∀ (τ : Mm) (H : Heap) (locs : List Loc), Iv τ (n + 1) → Hd E τ s H locs → W p (eL E) e room_1 s m args below meth c H locs cells slots Z (F0 m 763 ls [])) : W p (eL E) e room_1 s m args below meth c H locs cells slots Z (F0 m 726 ls []) := by
  have hx := C0.1
  have hb : c.code = cL_law := C0.2.1
  have h := op_count (E := E) (K := fun r r' τ => r = r' ∧ Iv τ (n + 1)) (xs (x3 + 1).toNatClampNeg) hI hn (fun r τ hi => ⟨rfl, hi⟩)
  refine lv_aload_n hx hb dL_law_726 rfl (lv_at hl 1 rfl) ?_
  refine lv_aload_n hx hb dL_law_727 rfl (lv_at hl 0 rfl) ?_
  refine lv_iload_n hx hb dL_law_728 rfl (lv_at hl 3 rfl) ?_
  refine lv_iconst (v := 1) hx hb dL_law_729 (by decide) ?_
  refine lv_iadd hx hb dL_law_730 ?_
  refine va_sld hx hb hX hbl hbA hH.2 i1 dL_law_731 ?_
  refine m_cV (M2 := M_X9_count) (As := [.int (xs (x3 + 1).toNatClampNeg)]) (rest := []) h C0 hH hl kc_X9_count ki_X9_count kx_X9_count ob_0 kM_L_106 rfl (Nat.le_of_ble_eq_true rfl) (Nat.le_of_ble_eq_true rfl) ⟨(Nat.le_of_ble_eq_true rfl), (Nat.le_of_ble_eq_true rfl)⟩ dL_law_732 rfl (fun r τ1 H locs hq hH => ?_)
  obtain ⟨r1, rfl, h⟩ := hq
  refine lv_aload_n hx hb dL_law_735 rfl (lv_at hl 2 rfl) ?_
  refine lv_aload_n hx hb dL_law_736 rfl (lv_at hl 0 rfl) ?_
  refine lv_iload_n hx hb dL_law_737 rfl (lv_at hl 3 rfl) ?_
  refine lv_iconst (v := 1) hx hb dL_law_738 (by decide) ?_
  refine lv_iadd hx hb dL_law_739 ?_
  refine va_sld hx hb hX hbl hbA hH.2 i1 dL_law_740 ?_
  refine m_cV (M2 := M_X10_count) (As := [.int (xs (x3 + 1).toNatClampNeg)]) (rest := [.int r1]) h C0 hH hl kc_X10_count ki_X10_count kx_X10_count ob_63 kM_L_109 rfl (Nat.le_of_ble_eq_true rfl) (Nat.le_of_ble_eq_true rfl) ⟨(Nat.le_of_ble_eq_true rfl), (Nat.le_of_ble_eq_true rfl)⟩ dL_law_741 rfl (fun r τ2 H locs hq hH => ?_)
  obtain ⟨r2, rfl, h⟩ := hq
  exact lv_icmp_eq (tgt := 763) hx hb dL_law_744 (by decide) (fun _ => hN _ _ _ h.2 hH) (fun hc => absurd h.1 hc)
set_option maxRecDepth 20000 in
theorem lc_digest (C0 : Cx E M_L_law p room_1 s m args c cells slots) (hH : Hd E σ s H locs) (hX : va_X b L xs s s.heap) (hbl : b < s.heap.size) (hbA : ¬ Aw E b) (hl : lv_has ls 4 [(0, .ref b), (1, .ref (Ad E 0)), (2, .ref (Ad E 63)), (3, .int x3)]) (i1 : vp_in (x3 + 1) L) (i2 : vp_in (x3 + 2) L) (i3 : vp_in (x3 + 3) L) (hI : Iv σ n) (hn : n < 100000) (hN : ∀ (τ : Mm) (H : Heap) (locs : List Loc), Iv τ (n + 1) → Hd E τ s H locs → W p (eL E) e room_1 s m args below meth c H locs cells slots Z (F0 m 763 ls [])) : W p (eL E) e room_1 s m args below meth c H locs cells slots Z (F0 m 749 ls []) := by
  have hx := C0.1
  have hb : c.code = cL_law := C0.2.1
  have h := op_digest (E := E) (K := fun r r' τ => r = r' ∧ Iv τ (n + 1)) hI hn (fun r τ hi => ⟨rfl, hi⟩)
  refine lv_aload_n hx hb dL_law_749 rfl (lv_at hl 1 rfl) ?_
  refine m_cV (M2 := M_X9_digest) (As := []) (rest := []) h C0 hH hl kc_X9_digest ki_X9_digest kx_X9_digest ob_0 kM_L_110 rfl (Nat.le_of_ble_eq_true rfl) (Nat.le_of_ble_eq_true rfl) ⟨(Nat.le_of_ble_eq_true rfl), (Nat.le_of_ble_eq_true rfl)⟩ dL_law_750 rfl (fun r τ1 H locs hq hH => ?_)
  obtain ⟨r1, rfl, h⟩ := hq
  refine lv_aload_n hx hb dL_law_753 rfl (lv_at hl 2 rfl) ?_
  refine m_cV (M2 := M_X10_digest) (As := []) (rest := [.long r1]) h C0 hH hl kc_X10_digest ki_X10_digest kx_X10_digest ob_63 kM_L_114 rfl (Nat.le_of_ble_eq_true rfl) (Nat.le_of_ble_eq_true rfl) ⟨(Nat.le_of_ble_eq_true rfl), (Nat.le_of_ble_eq_true rfl)⟩ dL_law_754 rfl (fun r τ2 H locs hq hH => ?_)
  obtain ⟨r2, rfl, h⟩ := hq
  refine W.lcmp hx hb dL_law_757 ?_
  refine lv_if_eq (tgt := 763) hx hb dL_law_758 (by decide) (fun _ => hN _ _ _ h.2 hH) (fun hc => absurd ?_ hc)
  rw [h.1]
  exact lg_cmp_self _
theorem l4_all : ∀ q : Fin 2049, (Int32.ofNat q.1 - 4).toInt = (q.1 : Int) - 4 := by decide +kernel
set_option maxRecDepth 20000 in
set_option maxHeartbeats 4000000 in
theorem law_loop {b L : Nat} {xs : Nat → Int32} (hL : L ≤ 2048) (hk1 : cells ≤ 600000) (hk2 : slots ≤ 7302250) (hr : meth.sig.returnType = ret) (hlocks : meth.locks = false) (C0 : Cx E M_L_law p room_1 s m #[Value.ref b] c cells slots) (hX : va_X b L xs s s.heap) (hbl : b < s.heap.size) (hA : ∀ k, k < 79 → s.heap.size ≤ Ad E k) :
    ∀ (d n : Nat), L + 1 ≤ 4 * n + d → n ≤ 512 → ∀ (σ : Mm) (H : Heap) (locs : List Loc) (ls : Array Slot), Iv σ n → Hd E σ s H locs → lv_has ls 4 [(0, .ref b), (1, .ref (Ad E 0)), (2, .ref (Ad E 63)), (3, .int (nI (4 * n)))] → W p (eL E) e room_1 s m #[Value.ref b] below meth c H locs cells slots (lw_Z below #[Value.ref b] s) (F0 m 18 ls []) := by
  have hx := C0.1
  have hb : c.code = cL_law := C0.2.1
  have hbA : ¬ Aw E b := fun ⟨k, h1, h2⟩ => by
    have := hA k h1
    rw [← h2] at this
    exact absurd hbl (Nat.not_lt.mpr this)
  intro d
  induction d with
  | zero =>
    intro n hd hn σ H locs ls hI hH hl
    refine lv_iload_n hx hb dL_law_18 rfl (lv_at hl 3 rfl) ?_
    refine lv_aload_n hx hb dL_law_19 rfl (lv_at hl 0 rfl) ?_
    refine va_slen hx hb hX hbl hbA hH.2 dL_law_20 ?_
    refine lv_iconst (v := 4) hx hb dL_law_21 (by decide) ?_
    refine lv_isub hx hb dL_law_22 ?_
    refine lv_icmp_gt (tgt := 769) hx hb dL_law_23 (by decide) (fun hc => ?_) (fun hc => ?_)
    · refine lv_iconst (v := 1) hx hb dL_law_769 (by decide) ?_
      refine va_forget (fun q hq => by obtain ⟨k, h1, h2⟩ := hH.2.2.2 q hq; rw [h2]; exact hA k h1) ?_
      exact W.widen (k := 600000) (n := 7302250) hk1 hk2 (lw_ret hx hb hr hlocks dL_law_770)
    · exfalso
      rw [Int32.lt_iff_toInt_lt, toInt_nI (by omega), l4_all ⟨L, by omega⟩] at hc
      dsimp only at hc
      omega
  | succ d ih =>
    intro n hd hn σ H locs ls hI hH hl
    refine lv_iload_n hx hb dL_law_18 rfl (lv_at hl 3 rfl) ?_
    refine lv_aload_n hx hb dL_law_19 rfl (lv_at hl 0 rfl) ?_
    refine va_slen hx hb hX hbl hbA hH.2 dL_law_20 ?_
    refine lv_iconst (v := 4) hx hb dL_law_21 (by decide) ?_
    refine lv_isub hx hb dL_law_22 ?_
    refine lv_icmp_gt (tgt := 769) hx hb dL_law_23 (by decide) (fun hc => ?_) (fun hc => ?_)
    · refine lv_iconst (v := 1) hx hb dL_law_769 (by decide) ?_
      refine va_forget (fun q hq => by obtain ⟨k, h1, h2⟩ := hH.2.2.2 q hq; rw [h2]; exact hA k h1) ?_
      exact W.widen (k := 600000) (n := 7302250) hk1 hk2 (lw_ret hx hb hr hlocks dL_law_770)
    · have hlt : 4 * n + 4 ≤ L := by
        rw [Int32.lt_iff_toInt_lt, toInt_nI (by omega), l4_all ⟨L, by omega⟩] at hc
        dsimp only at hc
        omega
      have i0 : vp_in (nI (4 * n)) L := vp_in_nI (by omega) (by omega)
      have ie : ∀ j, j < 4 → vp_in (nI (4 * n) + nI j) L := fun j hj => by rw [nI_add]; exact vp_in_nI (by omega) (by omega)
      have i1 : vp_in (nI (4 * n) + 1) L := ie 1 (by decide)
      have i2 : vp_in (nI (4 * n) + 2) L := ie 2 (by decide)
      have i3 : vp_in (nI (4 * n) + 3) L := ie 3 (by decide)
      have hN : ∀ (τ : Mm) (H : Heap) (locs : List Loc), Iv τ (n + 1) → Hd E τ s H locs → W p (eL E) e room_1 s m #[Value.ref b] below meth c H locs cells slots (lw_Z below #[Value.ref b] s) (F0 m 763 ls []) := by
        intro τ H locs hI hH
        refine lv_iinc (v := nI (4 * (n + 1))) (lv' := [(3, .int (nI (4 * (n + 1)))), (0, .ref b), (1, .ref (Ad E 0)), (2, .ref (Ad E 63))]) hx hb dL_law_763 hl (k := 3) rfl (nI_add (4 * n) 4) (by decide) rfl (fun ls hl => ?_)
        refine lv_goto (tgt := 18) hx hb dL_law_766 (by decide) ?_
        exact ih (n + 1) (by omega) (by omega) τ H locs ls hI hH (lv_sub hl [1, 2, 3, 0] rfl)
      have hn1 : n < 100000 := by omega
      refine lv_aload_n hx hb dL_law_26 rfl (lv_at hl 0 rfl) ?_
      refine lv_iload_n hx hb dL_law_27 rfl (lv_at hl 3 rfl) ?_
      refine va_sld hx hb hX hbl hbA hH.2 i0 dL_law_28 ?_
      refine lv_bipush (v := 31) hx hb dL_law_29 (by decide) ?_
      refine lv_iand hx hb dL_law_31 ?_
      generalize xs (nI (4 * n)).toNatClampNeg &&& 31 = y
      by_cases hs0 : y = 0
      · refine m_tin (v := 0) (tgt := 144) C0 dL_law_32 hs0 (by decide) (by decide) rfl (by decide) ?_
        exact lc_letter C0 hH hX hbl hbA hl i1 i2 i3 hI hn1 hN
      by_cases hs1 : y = 1
      · refine m_tin (v := 1) (tgt := 167) C0 dL_law_32 hs1 (by decide) (by decide) rfl (by decide) ?_
        exact lc_blank C0 hH hX hbl hbA hl i1 i2 i3 hI hn1 hN
      by_cases hs2 : y = 2
      · refine m_tin (v := 2) (tgt := 180) C0 dL_law_32 hs2 (by decide) (by decide) rfl (by decide) ?_
        exact lc_fault C0 hH hX hbl hbA hl i1 i2 i3 hI hn1 hN
      by_cases hs3 : y = 3
      · refine m_tin (v := 3) (tgt := 193) C0 dL_law_32 hs3 (by decide) (by decide) rfl (by decide) ?_
        exact lc_chapel C0 hH hX hbl hbA hl i1 i2 i3 hI hn1 hN
      by_cases hs4 : y = 4
      · refine m_tin (v := 4) (tgt := 206) C0 dL_law_32 hs4 (by decide) (by decide) rfl (by decide) ?_
        exact lc_person C0 hH hX hbl hbA hl i1 i2 i3 hI hn1 hN
      by_cases hs5 : y = 5
      · refine m_tin (v := 5) (tgt := 239) C0 dL_law_32 hs5 (by decide) (by decide) rfl (by decide) ?_
        exact lc_as C0 hH hX hbl hbA hl i1 i2 i3 hI hn1 hN
      by_cases hs6 : y = 6
      · refine m_tin (v := 6) (tgt := 272) C0 dL_law_32 hs6 (by decide) (by decide) rfl (by decide) ?_
        exact lc_wrong C0 hH hX hbl hbA hl i1 i2 i3 hI hn1 hN
      by_cases hs7 : y = 7
      · refine m_tin (v := 7) (tgt := 305) C0 dL_law_32 hs7 (by decide) (by decide) rfl (by decide) ?_
        exact lc_to C0 hH hX hbl hbA hl i1 i2 i3 hI hn1 hN
      by_cases hs8 : y = 8
      · refine m_tin (v := 8) (tgt := 338) C0 dL_law_32 hs8 (by decide) (by decide) rfl (by decide) ?_
        exact lc_sunday C0 hH hX hbl hbA hl i1 i2 i3 hI hn1 hN
      by_cases hs9 : y = 9
      · refine m_tin (v := 9) (tgt := 351) C0 dL_law_32 hs9 (by decide) (by decide) rfl (by decide) ?_
        exact lc_forgive C0 hH hX hbl hbA hl i1 i2 i3 hI hn1 hN
      by_cases hs10 : y = 10
      · refine m_tin (v := 10) (tgt := 374) C0 dL_law_32 hs10 (by decide) (by decide) rfl (by decide) ?_
        exact lc_again C0 hH hX hbl hbA hl i1 i2 i3 hI hn1 hN
      by_cases hs11 : y = 11
      · refine m_tin (v := 11) (tgt := 407) C0 dL_law_32 hs11 (by decide) (by decide) rfl (by decide) ?_
        exact lc_room C0 hH hX hbl hbA hl i1 i2 i3 hI hn1 hN
      by_cases hs12 : y = 12
      · refine m_tin (v := 12) (tgt := 430) C0 dL_law_32 hs12 (by decide) (by decide) rfl (by decide) ?_
        exact lc_change C0 hH hX hbl hbA hl i1 i2 i3 hI hn1 hN
      by_cases hs13 : y = 13
      · refine m_tin (v := 13) (tgt := 473) C0 dL_law_32 hs13 (by decide) (by decide) rfl (by decide) ?_
        exact lc_leave C0 hH hX hbl hbA hl i1 i2 i3 hI hn1 hN
      by_cases hs14 : y = 14
      · refine m_tin (v := 14) (tgt := 506) C0 dL_law_32 hs14 (by decide) (by decide) rfl (by decide) ?_
        exact lc_ring C0 hH hX hbl hbA hl i1 i2 i3 hI hn1 hN
      by_cases hs15 : y = 15
      · refine m_tin (v := 15) (tgt := 519) C0 dL_law_32 hs15 (by decide) (by decide) rfl (by decide) ?_
        exact lc_peace C0 hH hX hbl hbA hl i1 i2 i3 hI hn1 hN
      by_cases hs16 : y = 16
      · refine m_tin (v := 16) (tgt := 542) C0 dL_law_32 hs16 (by decide) (by decide) rfl (by decide) ?_
        exact lc_odds C0 hH hX hbl hbA hl i1 i2 i3 hI hn1 hN
      by_cases hs17 : y = 17
      · refine m_tin (v := 17) (tgt := 585) C0 dL_law_32 hs17 (by decide) (by decide) rfl (by decide) ?_
        by_cases hz : xs (nI (4 * n) + 3).toNatClampNeg = 0
        · exact lc_see0 C0 hH hX hbl hbA hl i1 i2 i3 hI hn1 hN hz
        · exact lc_see1 C0 hH hX hbl hbA hl i1 i2 i3 hI hn1 hN hz
      by_cases hs18 : y = 18
      · refine m_tin (v := 18) (tgt := 644) C0 dL_law_32 hs18 (by decide) (by decide) rfl (by decide) ?_
        exact lc_forget C0 hH hX hbl hbA hl i1 i2 i3 hI hn1 hN
      by_cases hs19 : y = 19
      · refine m_tin (v := 19) (tgt := 657) C0 dL_law_32 hs19 (by decide) (by decide) rfl (by decide) ?_
        exact lc_winters C0 hH hX hbl hbA hl i1 i2 i3 hI hn1 hN
      by_cases hs20 : y = 20
      · refine m_tin (v := 20) (tgt := 700) C0 dL_law_32 hs20 (by decide) (by decide) rfl (by decide) ?_
        exact lc_image C0 hH hX hbl hbA hl i1 i2 i3 hI hn1 hN
      by_cases hs21 : y = 21
      · refine m_tin (v := 21) (tgt := 713) C0 dL_law_32 hs21 (by decide) (by decide) rfl (by decide) ?_
        exact lc_restore C0 hH hX hbl hbA hl i1 i2 i3 hI hn1 hN
      by_cases hs22 : y = 22
      · refine m_tin (v := 22) (tgt := 726) C0 dL_law_32 hs22 (by decide) (by decide) rfl (by decide) ?_
        exact lc_count C0 hH hX hbl hbA hl i1 i2 i3 hI hn1 hN
      by_cases hs23 : y = 23
      · refine m_tin (v := 23) (tgt := 749) C0 dL_law_32 hs23 (by decide) (by decide) rfl (by decide) ?_
        exact lc_digest C0 hH hX hbl hbA hl i1 i2 i3 hI hn1 hN
      refine m_tout (tgt := 763) C0 dL_law_32 (fun v h1 h2 => ?_) (by decide) (hN _ _ _ ?_ hH)
      · rcases (show v = 0 ∨ v = 1 ∨ v = 2 ∨ v = 3 ∨ v = 4 ∨ v = 5 ∨ v = 6 ∨ v = 7 ∨ v = 8 ∨ v = 9 ∨ v = 10 ∨ v = 11 ∨ v = 12 ∨ v = 13 ∨ v = 14 ∨ v = 15 ∨ v = 16 ∨ v = 17 ∨ v = 18 ∨ v = 19 ∨ v = 20 ∨ v = 21 ∨ v = 22 ∨ v = 23 by omega) with rfl | rfl | rfl | rfl | rfl | rfl | rfl | rfl | rfl | rfl | rfl | rfl | rfl | rfl | rfl | rfl | rfl | rfl | rfl | rfl | rfl | rfl | rfl | rfl
        · exact fun q => hs0 (q.trans (by decide))
        · exact fun q => hs1 (q.trans (by decide))
        · exact fun q => hs2 (q.trans (by decide))
        · exact fun q => hs3 (q.trans (by decide))
        · exact fun q => hs4 (q.trans (by decide))
        · exact fun q => hs5 (q.trans (by decide))
        · exact fun q => hs6 (q.trans (by decide))
        · exact fun q => hs7 (q.trans (by decide))
        · exact fun q => hs8 (q.trans (by decide))
        · exact fun q => hs9 (q.trans (by decide))
        · exact fun q => hs10 (q.trans (by decide))
        · exact fun q => hs11 (q.trans (by decide))
        · exact fun q => hs12 (q.trans (by decide))
        · exact fun q => hs13 (q.trans (by decide))
        · exact fun q => hs14 (q.trans (by decide))
        · exact fun q => hs15 (q.trans (by decide))
        · exact fun q => hs16 (q.trans (by decide))
        · exact fun q => hs17 (q.trans (by decide))
        · exact fun q => hs18 (q.trans (by decide))
        · exact fun q => hs19 (q.trans (by decide))
        · exact fun q => hs20 (q.trans (by decide))
        · exact fun q => hs21 (q.trans (by decide))
        · exact fun q => hs22 (q.trans (by decide))
        · exact fun q => hs23 (q.trans (by decide))
      · obtain ⟨A, pg, L2, c2, v, Ak, im, hS, hC, hM⟩ := hI
        exact ⟨A, pg, L2, c2, v, Ak, im, hS.up hn1, hC, hM⟩
end LW
