/-! the constructors -/
theorem kA_int : Cond.arrayClass .int ∈ TB := in_TB 97 (by decide +kernel) (by decide +kernel)
theorem kA_bool : Cond.arrayClass .boolean ∈ TB := in_TB 205 (by decide +kernel) (by decide +kernel)
theorem kO_i : Cond.instanceMethod objectInit ∈ TB := in_TB 78 (by decide +kernel) (by decide +kernel)
theorem kO_c : Cond.code objectInit object_method_1_code 1 none ∈ TB := in_TB 79 (by decide +kernel) (by decide +kernel)
theorem kC_X5_9 : Cond.classLink RX5 9 "[[I" ∈ TB := in_TB 253 (by decide +kernel) (by decide +kernel)
theorem kC_X7_9 : Cond.classLink RX7 9 "LastBench$Chapel" ∈ TB := in_TB 104 (by decide +kernel) (by decide +kernel)
theorem kC_X9_16 : Cond.classLink RX9 16 "LastBench$Reader" ∈ TB := in_TB 98 (by decide +kernel) (by decide +kernel)
theorem kC_X9_23 : Cond.classLink RX9 23 "LastBench$Chapel" ∈ TB := in_TB 214 (by decide +kernel) (by decide +kernel)
theorem kC_X9_36 : Cond.classLink RX9 36 "LastBench$Bench" ∈ TB := in_TB 216 (by decide +kernel) (by decide +kernel)
theorem kC_X9_43 : Cond.classLink RX9 43 "LastBench$Grudges" ∈ TB := in_TB 233 (by decide +kernel) (by decide +kernel)
theorem kC_X9_50 : Cond.classLink RX9 50 "LastBench$Leaving" ∈ TB := in_TB 247 (by decide +kernel) (by decide +kernel)
theorem kC_X9_57 : Cond.classLink RX9 57 "LastBench$Chances" ∈ TB := in_TB 274 (by decide +kernel) (by decide +kernel)
theorem kC_X9_64 : Cond.classLink RX9 64 "LastBench$Graves" ∈ TB := in_TB 293 (by decide +kernel) (by decide +kernel)
theorem kC_X9_7 : Cond.classLink RX9 7 "LastBench$Page" ∈ TB := in_TB 80 (by decide +kernel) (by decide +kernel)
theorem kC_X9_71 : Cond.classLink RX9 71 "LastBench$Weather" ∈ TB := in_TB 307 (by decide +kernel) (by decide +kernel)
theorem kC_L_10 : Cond.classLink RL 10 "LastBenchModel" ∈ TB := in_TB 827 (by decide +kernel) (by decide +kernel)
theorem kC_L_7 : Cond.classLink RL 7 "LastBench" ∈ TB := in_TB 72 (by decide +kernel) (by decide +kernel)
theorem kI_X0 : Cond.instantiable RX0 3 ∈ TB := in_TB 217 (by decide +kernel) (by decide +kernel)
theorem kV_X0 : Cond.initialized RX0 ∈ TB := in_TB 58 (by decide +kernel) (by decide +kernel)
def fs_X0 : List Value := [.null, .null, .int 0]
theorem df_X0 : ∀ j, j < 3 → defaultValue (tyCl 0 j) = vp_V fs_X0 j := fun j hj => by
  rcases (show j = 0 ∨ j = 1 ∨ j = 2 by omega) with rfl | rfl | rfl <;> rfl
theorem kMo_X0 : Cond.methodLink RX0 3 objectInit ∈ TB := in_TB 221 (by decide +kernel) (by decide +kernel)
theorem kI_X1 : Cond.instantiable RX1 4 ∈ TB := in_TB 275 (by decide +kernel) (by decide +kernel)
theorem kV_X1 : Cond.initialized RX1 ∈ TB := in_TB 61 (by decide +kernel) (by decide +kernel)
def fs_X1 : List Value := [.null, .null, .null, .int 0]
theorem df_X1 : ∀ j, j < 4 → defaultValue (tyCl 1 j) = vp_V fs_X1 j := fun j hj => by
  rcases (show j = 0 ∨ j = 1 ∨ j = 2 ∨ j = 3 by omega) with rfl | rfl | rfl | rfl <;> rfl
theorem kMo_X1 : Cond.methodLink RX1 3 objectInit ∈ TB := in_TB 279 (by decide +kernel) (by decide +kernel)
theorem kI_X2 : Cond.instantiable RX2 15 ∈ TB := in_TB 105 (by decide +kernel) (by decide +kernel)
theorem kV_X2 : Cond.initialized RX2 ∈ TB := in_TB 57 (by decide +kernel) (by decide +kernel)
def fs_X2 : List Value := [.int 0, .int 0, .int 0, .int 0, .int 0, .int 0, .null, .null, .null, .null, .null, .null, .null, .null, .null]
theorem df_X2 : ∀ j, j < 15 → defaultValue (tyCl 2 j) = vp_V fs_X2 j := fun j hj => by
  rcases (show j = 0 ∨ j = 1 ∨ j = 2 ∨ j = 3 ∨ j = 4 ∨ j = 5 ∨ j = 6 ∨ j = 7 ∨ j = 8 ∨ j = 9 ∨ j = 10 ∨ j = 11 ∨ j = 12 ∨ j = 13 ∨ j = 14 by omega) with rfl | rfl | rfl | rfl | rfl | rfl | rfl | rfl | rfl | rfl | rfl | rfl | rfl | rfl | rfl <;> rfl
theorem kMo_X2 : Cond.methodLink RX2 3 objectInit ∈ TB := in_TB 109 (by decide +kernel) (by decide +kernel)
theorem kI_X3 : Cond.instantiable RX3 2 ∈ TB := in_TB 294 (by decide +kernel) (by decide +kernel)
theorem kV_X3 : Cond.initialized RX3 ∈ TB := in_TB 62 (by decide +kernel) (by decide +kernel)
def fs_X3 : List Value := [.null, .int 0]
theorem df_X3 : ∀ j, j < 2 → defaultValue (tyCl 3 j) = vp_V fs_X3 j := fun j hj => by
  rcases (show j = 0 ∨ j = 1 by omega) with rfl | rfl <;> rfl
theorem kMo_X3 : Cond.methodLink RX3 3 objectInit ∈ TB := in_TB 298 (by decide +kernel) (by decide +kernel)
theorem kI_X4 : Cond.instantiable RX4 2 ∈ TB := in_TB 234 (by decide +kernel) (by decide +kernel)
theorem kV_X4 : Cond.initialized RX4 ∈ TB := in_TB 59 (by decide +kernel) (by decide +kernel)
def fs_X4 : List Value := [.null, .int 0]
theorem df_X4 : ∀ j, j < 2 → defaultValue (tyCl 4 j) = vp_V fs_X4 j := fun j hj => by
  rcases (show j = 0 ∨ j = 1 by omega) with rfl | rfl <;> rfl
theorem kMo_X4 : Cond.methodLink RX4 3 objectInit ∈ TB := in_TB 238 (by decide +kernel) (by decide +kernel)
theorem kI_X5 : Cond.instantiable RX5 5 ∈ TB := in_TB 248 (by decide +kernel) (by decide +kernel)
theorem kV_X5 : Cond.initialized RX5 ∈ TB := in_TB 60 (by decide +kernel) (by decide +kernel)
def fs_X5 : List Value := [.null, .null, .int 0, .int 0, .int 0]
theorem df_X5 : ∀ j, j < 5 → defaultValue (tyCl 5 j) = vp_V fs_X5 j := fun j hj => by
  rcases (show j = 0 ∨ j = 1 ∨ j = 2 ∨ j = 3 ∨ j = 4 by omega) with rfl | rfl | rfl | rfl | rfl <;> rfl
theorem kMo_X5 : Cond.methodLink RX5 3 objectInit ∈ TB := in_TB 252 (by decide +kernel) (by decide +kernel)
theorem kI_X6 : Cond.instantiable RX6 2 ∈ TB := in_TB 81 (by decide +kernel) (by decide +kernel)
theorem kV_X6 : Cond.initialized RX6 ∈ TB := in_TB 55 (by decide +kernel) (by decide +kernel)
def fs_X6 : List Value := [.null, .int 0]
theorem df_X6 : ∀ j, j < 2 → defaultValue (tyCl 6 j) = vp_V fs_X6 j := fun j hj => by
  rcases (show j = 0 ∨ j = 1 by omega) with rfl | rfl <;> rfl
theorem kMo_X6 : Cond.methodLink RX6 3 objectInit ∈ TB := in_TB 85 (by decide +kernel) (by decide +kernel)
theorem kI_X7 : Cond.instantiable RX7 2 ∈ TB := in_TB 99 (by decide +kernel) (by decide +kernel)
theorem kV_X7 : Cond.initialized RX7 ∈ TB := in_TB 56 (by decide +kernel) (by decide +kernel)
def fs_X7 : List Value := [.null, .int 0]
theorem df_X7 : ∀ j, j < 2 → defaultValue (tyCl 7 j) = vp_V fs_X7 j := fun j hj => by
  rcases (show j = 0 ∨ j = 1 by omega) with rfl | rfl <;> rfl
theorem kMo_X7 : Cond.methodLink RX7 3 objectInit ∈ TB := in_TB 103 (by decide +kernel) (by decide +kernel)
theorem kI_X8 : Cond.instantiable RX8 2 ∈ TB := in_TB 308 (by decide +kernel) (by decide +kernel)
theorem kV_X8 : Cond.initialized RX8 ∈ TB := in_TB 63 (by decide +kernel) (by decide +kernel)
def fs_X8 : List Value := [.int 0, .int 0]
theorem df_X8 : ∀ j, j < 2 → defaultValue (tyCl 8 j) = vp_V fs_X8 j := fun j hj => by
  rcases (show j = 0 ∨ j = 1 by omega) with rfl | rfl <;> rfl
theorem kMo_X8 : Cond.methodLink RX8 1 objectInit ∈ TB := in_TB 312 (by decide +kernel) (by decide +kernel)
theorem kI_X9 : Cond.instantiable RX9 14 ∈ TB := in_TB 73 (by decide +kernel) (by decide +kernel)
theorem kV_X9 : Cond.initialized RX9 ∈ TB := in_TB 54 (by decide +kernel) (by decide +kernel)
def fs_X9 : List Value := [.null, .null, .null, .null, .null, .null, .null, .null, .null, .null, .null, .int 0, .int 0, .int 0]
theorem df_X9 : ∀ j, j < 14 → defaultValue (tyCl 9 j) = vp_V fs_X9 j := fun j hj => by
  rcases (show j = 0 ∨ j = 1 ∨ j = 2 ∨ j = 3 ∨ j = 4 ∨ j = 5 ∨ j = 6 ∨ j = 7 ∨ j = 8 ∨ j = 9 ∨ j = 10 ∨ j = 11 ∨ j = 12 ∨ j = 13 by omega) with rfl | rfl | rfl | rfl | rfl | rfl | rfl | rfl | rfl | rfl | rfl | rfl | rfl | rfl <;> rfl
theorem kMo_X9 : Cond.methodLink RX9 1 objectInit ∈ TB := in_TB 77 (by decide +kernel) (by decide +kernel)
theorem kI_X10 : Cond.instantiable RX10 34 ∈ TB := in_TB 828 (by decide +kernel) (by decide +kernel)
theorem kV_X10 : Cond.initialized RX10 ∈ TB := in_TB 64 (by decide +kernel) (by decide +kernel)
def fs_X10 : List Value := [.null, .int 0, .int 0, .int 0, .int 0, .int 0, .int 0, .int 0, .int 0, .null, .null, .null, .null, .null, .null, .null, .null, .int 0, .int 0, .int 0, .int 0, .null, .int 0, .int 0, .int 0, .int 0, .int 0, .int 0, .null, .null, .null, .null, .null, .long 0]
theorem df_X10 : ∀ j, j < 34 → defaultValue (tyCl 10 j) = vp_V fs_X10 j := fun j hj => by
  rcases (show j = 0 ∨ j = 1 ∨ j = 2 ∨ j = 3 ∨ j = 4 ∨ j = 5 ∨ j = 6 ∨ j = 7 ∨ j = 8 ∨ j = 9 ∨ j = 10 ∨ j = 11 ∨ j = 12 ∨ j = 13 ∨ j = 14 ∨ j = 15 ∨ j = 16 ∨ j = 17 ∨ j = 18 ∨ j = 19 ∨ j = 20 ∨ j = 21 ∨ j = 22 ∨ j = 23 ∨ j = 24 ∨ j = 25 ∨ j = 26 ∨ j = 27 ∨ j = 28 ∨ j = 29 ∨ j = 30 ∨ j = 31 ∨ j = 32 ∨ j = 33 by omega) with rfl | rfl | rfl | rfl | rfl | rfl | rfl | rfl | rfl | rfl | rfl | rfl | rfl | rfl | rfl | rfl | rfl | rfl | rfl | rfl | rfl | rfl | rfl | rfl | rfl | rfl | rfl | rfl | rfl | rfl | rfl | rfl | rfl | rfl <;> rfl
theorem kMo_X10 : Cond.methodLink RX10 1 objectInit ∈ TB := in_TB 832 (by decide +kernel) (by decide +kernel)
def w_X6_1 (E : EE) (B : Nat) (ω : OW) : OW := (wo (wo (wo ω 2 (.inl (cI E, 54, .inl (fun _ => 0)))) 1 (.inr (6, [.ref (B + 2), .int 0]))) 1 (.inr (6, [.ref (B + 2), .int 0])))
set_option maxHeartbeats 4000000 in
set_option maxRecDepth 100000 in
theorem z_X6_1 (E : EE) (B : Nat) (ω : OW) (h0 : ω 1 = .inr (6, fs_X6)) : Mk E M_X6_init B 2 ω 1 1 54 3 (w_X6_1 E B ω) := by
  refine Met.ofW (cc := cX6_init) (maxL := 1) (ret := none) (by decide) rfl ?_
  intro p e s m args below meth c s₁ B1 hml hv
  obtain ⟨rfl, hsz, hP, hF⟩ := hv
  have hx := B1.exec
  have hb := B1.bytes
  have hr := B1.returns
  have hts : ∀ w ∈ TB, w.before _ s = true := fun w hw => atoms_spec (ws := mWs M_X6_init) B1.pre w (List.mem_cons_of_mem _ hw)
  have hown : s.vm.findClass RX6 = some m.cls := findClass_of_methodNamed B1.named
  have hin : meth.name = "<init>" := (name_of_methodNamed B1.named B1.method).1
  have hH : Hk E B 2 ω s s.heap [] := ⟨hsz, hP, va_S.rf, by omega⟩
  have hl := lv_entry ([.ref (B + 1)]) (n := 1) (Nat.le_of_ble_eq_true rfl)
  rw [lg_entry_eq]
  generalize (lg_sl ([.ref (B + 1)]) ++ List.replicate (1 - (lg_sl ([.ref (B + 1)])).length) Slot.unset).toArray = ls at hl ⊢
  have hl : lv_has ls 1 [(0, .ref (B + 1))] := hl
  refine lv_aload_n hx hb dX6_init_0 rfl (lv_at hl 0 rfl) ?_
  refine W.objInit hx hb hown (hts _ kMo_X6) (hts _ kO_i) (hts _ kO_c) rfl (by rw [hml]; exact hl.1) rfl dX6_init_1 (Nat.le_of_ble_eq_true rfl) (Nat.le_of_ble_eq_true rfl) ?_
  refine W.eq (g2 := F0 m 4 ls []) rfl ?_
  refine lv_aload_n hx hb dX6_init_4 rfl (lv_at hl 0 rfl) ?_
  refine lv_bipush (v := 54) hx hb dX6_init_5 (by decide) ?_
  refine k_ints hx hb hts hF hH kA_int 54 (by decide) (by decide) (by decide) (Nat.le_of_ble_eq_true rfl) (Nat.le_of_ble_eq_true rfl) dX6_init_7 (fun H hH => ?_)
  refine k_put hx hb hts hown hF hin hH (k := 1) (j := 0) (ci := 6) (n := 2) (C := RX6) (T := TX6) (fs := fs_X6) (v := .ref (B + 2)) (by decide) h0 rfl (by decide) (Nat.le_of_ble_eq_true rfl) kF_X6_9 (fun _ => rfl) rfl rfl dX6_init_9 (fun H locs hH => ?_)
  refine lv_aload_n hx hb dX6_init_12 rfl (lv_at hl 0 rfl) ?_
  refine lv_iconst (v := 0) hx hb dX6_init_13 (by decide) ?_
  refine k_put hx hb hts hown hF hin hH (k := 1) (j := 1) (ci := 6) (n := 2) (C := RX6) (T := TX6) (fs := [.ref (B + 2), .int 0]) (v := .int 0) (by decide) rfl rfl (by decide) (Nat.le_of_ble_eq_true rfl) kF_X6_15 (fun _ => rfl) rfl rfl dX6_init_14 (fun H locs hH => ?_)
  exact W.vret hx hb hr (fun t ht hW => ⟨⟨(), rfl, trivial, by rw [ht]; exact hH.1, by rw [ht]; exact hH.2.1⟩, hH.2.2.1.F ht⟩) hH.2.2.1.2.2 dX6_init_17
def w_X2_4 (E : EE) (B : Nat) (ω : OW) : OW := (wo (wo (wo (wo (wo (wo (wo (wo (wo (wo (wo (wo (wo (wo (wo (wo (wo (wo (wo (wo (wo (wo (wo (wo ω 4 (.inr (2, [.int 0, .int 0, .int 0, .int 0, .int 0, .int 0, .null, .null, .null, .null, .null, .null, .null, .null, .null]))) 4 (.inr (2, [.int 0, .int 0, .int 0, .int 0, .int 0, .int 0, .null, .null, .null, .null, .null, .null, .null, .null, .null]))) 4 (.inr (2, [.int 0, .int 0, .int 0, .int 0, .int 0, .int 0, .null, .null, .null, .null, .null, .null, .null, .null, .null]))) 4 (.inr (2, [.int 0, .int 0, .int 0, .int 0, .int 0, .int 0, .null, .null, .null, .null, .null, .null, .null, .null, .null]))) 4 (.inr (2, [.int 0, .int 0, .int 0, .int 0, .int 0, .int 0, .null, .null, .null, .null, .null, .null, .null, .null, .null]))) 4 (.inr (2, [.int 0, .int 0, .int 0, .int 0, .int 0, .int 0, .null, .null, .null, .null, .null, .null, .null, .null, .null]))) 5 (.inl (cI E, 6, .inl (fun _ => 0)))) 4 (.inr (2, [.int 0, .int 0, .int 0, .int 0, .int 0, .int 0, .ref (B + 5), .null, .null, .null, .null, .null, .null, .null, .null]))) 6 (.inl (cI E, 6, .inl (fun _ => 0)))) 4 (.inr (2, [.int 0, .int 0, .int 0, .int 0, .int 0, .int 0, .ref (B + 5), .ref (B + 6), .null, .null, .null, .null, .null, .null, .null]))) 7 (.inl (cI E, 6, .inl (fun _ => 0)))) 4 (.inr (2, [.int 0, .int 0, .int 0, .int 0, .int 0, .int 0, .ref (B + 5), .ref (B + 6), .ref (B + 7), .null, .null, .null, .null, .null, .null]))) 8 (.inl (cI E, 8, .inl (fun _ => 0)))) 4 (.inr (2, [.int 0, .int 0, .int 0, .int 0, .int 0, .int 0, .ref (B + 5), .ref (B + 6), .ref (B + 7), .ref (B + 8), .null, .null, .null, .null, .null]))) 9 (.inl (cI E, 8, .inl (fun _ => 0)))) 4 (.inr (2, [.int 0, .int 0, .int 0, .int 0, .int 0, .int 0, .ref (B + 5), .ref (B + 6), .ref (B + 7), .ref (B + 8), .ref (B + 9), .null, .null, .null, .null]))) 10 (.inl (cI E, 8, .inl (fun _ => 0)))) 4 (.inr (2, [.int 0, .int 0, .int 0, .int 0, .int 0, .int 0, .ref (B + 5), .ref (B + 6), .ref (B + 7), .ref (B + 8), .ref (B + 9), .ref (B + 10), .null, .null, .null]))) 11 (.inl (cI E, 6, .inl (fun _ => 0)))) 4 (.inr (2, [.int 0, .int 0, .int 0, .int 0, .int 0, .int 0, .ref (B + 5), .ref (B + 6), .ref (B + 7), .ref (B + 8), .ref (B + 9), .ref (B + 10), .ref (B + 11), .null, .null]))) 12 (.inl (cI E, 6, .inl (fun _ => 0)))) 4 (.inr (2, [.int 0, .int 0, .int 0, .int 0, .int 0, .int 0, .ref (B + 5), .ref (B + 6), .ref (B + 7), .ref (B + 8), .ref (B + 9), .ref (B + 10), .ref (B + 11), .ref (B + 12), .null]))) 13 (.inl (cZ E, 6, .inl (fun _ => 0)))) 4 (.inr (2, [.int 0, .int 0, .int 0, .int 0, .int 0, .int 0, .ref (B + 5), .ref (B + 6), .ref (B + 7), .ref (B + 8), .ref (B + 9), .ref (B + 10), .ref (B + 11), .ref (B + 12), .ref (B + 13)])))
set_option maxHeartbeats 4000000 in
set_option maxRecDepth 100000 in
theorem z_X2_4 (E : EE) (B : Nat) (ω : OW) (h0 : ω 4 = .inr (2, fs_X2)) : Mk E M_X2_init B 5 ω 4 9 60 14 (w_X2_4 E B ω) := by
  refine Met.ofW (cc := cX2_init) (maxL := 1) (ret := none) (by decide) rfl ?_
  intro p e s m args below meth c s₁ B1 hml hv
  obtain ⟨rfl, hsz, hP, hF⟩ := hv
  have hx := B1.exec
  have hb := B1.bytes
  have hr := B1.returns
  have hts : ∀ w ∈ TB, w.before _ s = true := fun w hw => atoms_spec (ws := mWs M_X2_init) B1.pre w (List.mem_cons_of_mem _ hw)
  have hown : s.vm.findClass RX2 = some m.cls := findClass_of_methodNamed B1.named
  have hin : meth.name = "<init>" := (name_of_methodNamed B1.named B1.method).1
  have hH : Hk E B 5 ω s s.heap [] := ⟨hsz, hP, va_S.rf, by omega⟩
  have hl := lv_entry ([.ref (B + 4)]) (n := 1) (Nat.le_of_ble_eq_true rfl)
  rw [lg_entry_eq]
  generalize (lg_sl ([.ref (B + 4)]) ++ List.replicate (1 - (lg_sl ([.ref (B + 4)])).length) Slot.unset).toArray = ls at hl ⊢
  have hl : lv_has ls 1 [(0, .ref (B + 4))] := hl
  refine lv_aload_n hx hb dX2_init_0 rfl (lv_at hl 0 rfl) ?_
  refine W.objInit hx hb hown (hts _ kMo_X2) (hts _ kO_i) (hts _ kO_c) rfl (by rw [hml]; exact hl.1) rfl dX2_init_1 (Nat.le_of_ble_eq_true rfl) (Nat.le_of_ble_eq_true rfl) ?_
  refine W.eq (g2 := F0 m 4 ls []) rfl ?_
  refine lv_aload_n hx hb dX2_init_4 rfl (lv_at hl 0 rfl) ?_
  refine lv_iconst (v := 0) hx hb dX2_init_5 (by decide) ?_
  refine k_put hx hb hts hown hF hin hH (k := 4) (j := 0) (ci := 2) (n := 15) (C := RX2) (T := TX2) (fs := fs_X2) (v := .int 0) (by decide) h0 rfl (by decide) (Nat.le_of_ble_eq_true rfl) kF_X2_9 (fun _ => rfl) rfl rfl dX2_init_6 (fun H locs hH => ?_)
  refine lv_aload_n hx hb dX2_init_9 rfl (lv_at hl 0 rfl) ?_
  refine lv_iconst (v := 0) hx hb dX2_init_10 (by decide) ?_
  refine k_put hx hb hts hown hF hin hH (k := 4) (j := 1) (ci := 2) (n := 15) (C := RX2) (T := TX2) (fs := [.int 0, .int 0, .int 0, .int 0, .int 0, .int 0, .null, .null, .null, .null, .null, .null, .null, .null, .null]) (v := .int 0) (by decide) rfl rfl (by decide) (Nat.le_of_ble_eq_true rfl) kF_X2_15 (fun _ => rfl) rfl rfl dX2_init_11 (fun H locs hH => ?_)
  refine lv_aload_n hx hb dX2_init_14 rfl (lv_at hl 0 rfl) ?_
  refine lv_iconst (v := 0) hx hb dX2_init_15 (by decide) ?_
  refine k_put hx hb hts hown hF hin hH (k := 4) (j := 2) (ci := 2) (n := 15) (C := RX2) (T := TX2) (fs := [.int 0, .int 0, .int 0, .int 0, .int 0, .int 0, .null, .null, .null, .null, .null, .null, .null, .null, .null]) (v := .int 0) (by decide) rfl rfl (by decide) (Nat.le_of_ble_eq_true rfl) kF_X2_18 (fun _ => rfl) rfl rfl dX2_init_16 (fun H locs hH => ?_)
  refine lv_aload_n hx hb dX2_init_19 rfl (lv_at hl 0 rfl) ?_
  refine lv_iconst (v := 0) hx hb dX2_init_20 (by decide) ?_
  refine k_put hx hb hts hown hF hin hH (k := 4) (j := 3) (ci := 2) (n := 15) (C := RX2) (T := TX2) (fs := [.int 0, .int 0, .int 0, .int 0, .int 0, .int 0, .null, .null, .null, .null, .null, .null, .null, .null, .null]) (v := .int 0) (by decide) rfl rfl (by decide) (Nat.le_of_ble_eq_true rfl) kF_X2_21 (fun _ => rfl) rfl rfl dX2_init_21 (fun H locs hH => ?_)
  refine lv_aload_n hx hb dX2_init_24 rfl (lv_at hl 0 rfl) ?_
  refine lv_iconst (v := 0) hx hb dX2_init_25 (by decide) ?_
  refine k_put hx hb hts hown hF hin hH (k := 4) (j := 4) (ci := 2) (n := 15) (C := RX2) (T := TX2) (fs := [.int 0, .int 0, .int 0, .int 0, .int 0, .int 0, .null, .null, .null, .null, .null, .null, .null, .null, .null]) (v := .int 0) (by decide) rfl rfl (by decide) (Nat.le_of_ble_eq_true rfl) kF_X2_24 (fun _ => rfl) rfl rfl dX2_init_26 (fun H locs hH => ?_)
  refine lv_aload_n hx hb dX2_init_29 rfl (lv_at hl 0 rfl) ?_
  refine lv_iconst (v := 0) hx hb dX2_init_30 (by decide) ?_
  refine k_put hx hb hts hown hF hin hH (k := 4) (j := 5) (ci := 2) (n := 15) (C := RX2) (T := TX2) (fs := [.int 0, .int 0, .int 0, .int 0, .int 0, .int 0, .null, .null, .null, .null, .null, .null, .null, .null, .null]) (v := .int 0) (by decide) rfl rfl (by decide) (Nat.le_of_ble_eq_true rfl) kF_X2_27 (fun _ => rfl) rfl rfl dX2_init_31 (fun H locs hH => ?_)
  refine lv_aload_n hx hb dX2_init_34 rfl (lv_at hl 0 rfl) ?_
  refine lv_bipush (v := 6) hx hb dX2_init_35 (by decide) ?_
  refine k_ints hx hb hts hF hH kA_int 6 (by decide) (by decide) (by decide) (Nat.le_of_ble_eq_true rfl) (Nat.le_of_ble_eq_true rfl) dX2_init_37 (fun H hH => ?_)
  refine k_put hx hb hts hown hF hin hH (k := 4) (j := 6) (ci := 2) (n := 15) (C := RX2) (T := TX2) (fs := [.int 0, .int 0, .int 0, .int 0, .int 0, .int 0, .null, .null, .null, .null, .null, .null, .null, .null, .null]) (v := .ref (B + 5)) (by decide) rfl rfl (by decide) (Nat.le_of_ble_eq_true rfl) kF_X2_30 (fun _ => rfl) rfl rfl dX2_init_39 (fun H locs hH => ?_)
  refine lv_aload_n hx hb dX2_init_42 rfl (lv_at hl 0 rfl) ?_
  refine lv_bipush (v := 6) hx hb dX2_init_43 (by decide) ?_
  refine k_ints hx hb hts hF hH kA_int 6 (by decide) (by decide) (by decide) (Nat.le_of_ble_eq_true rfl) (Nat.le_of_ble_eq_true rfl) dX2_init_45 (fun H hH => ?_)
  refine k_put hx hb hts hown hF hin hH (k := 4) (j := 7) (ci := 2) (n := 15) (C := RX2) (T := TX2) (fs := [.int 0, .int 0, .int 0, .int 0, .int 0, .int 0, .ref (B + 5), .null, .null, .null, .null, .null, .null, .null, .null]) (v := .ref (B + 6)) (by decide) rfl rfl (by decide) (Nat.le_of_ble_eq_true rfl) kF_X2_34 (fun _ => rfl) rfl rfl dX2_init_47 (fun H locs hH => ?_)
  refine lv_aload_n hx hb dX2_init_50 rfl (lv_at hl 0 rfl) ?_
  refine lv_bipush (v := 6) hx hb dX2_init_51 (by decide) ?_
  refine k_ints hx hb hts hF hH kA_int 6 (by decide) (by decide) (by decide) (Nat.le_of_ble_eq_true rfl) (Nat.le_of_ble_eq_true rfl) dX2_init_53 (fun H hH => ?_)
  refine k_put hx hb hts hown hF hin hH (k := 4) (j := 8) (ci := 2) (n := 15) (C := RX2) (T := TX2) (fs := [.int 0, .int 0, .int 0, .int 0, .int 0, .int 0, .ref (B + 5), .ref (B + 6), .null, .null, .null, .null, .null, .null, .null]) (v := .ref (B + 7)) (by decide) rfl rfl (by decide) (Nat.le_of_ble_eq_true rfl) kF_X2_37 (fun _ => rfl) rfl rfl dX2_init_55 (fun H locs hH => ?_)
  refine lv_aload_n hx hb dX2_init_58 rfl (lv_at hl 0 rfl) ?_
  refine lv_bipush (v := 8) hx hb dX2_init_59 (by decide) ?_
  refine k_ints hx hb hts hF hH kA_int 8 (by decide) (by decide) (by decide) (Nat.le_of_ble_eq_true rfl) (Nat.le_of_ble_eq_true rfl) dX2_init_61 (fun H hH => ?_)
  refine k_put hx hb hts hown hF hin hH (k := 4) (j := 9) (ci := 2) (n := 15) (C := RX2) (T := TX2) (fs := [.int 0, .int 0, .int 0, .int 0, .int 0, .int 0, .ref (B + 5), .ref (B + 6), .ref (B + 7), .null, .null, .null, .null, .null, .null]) (v := .ref (B + 8)) (by decide) rfl rfl (by decide) (Nat.le_of_ble_eq_true rfl) kF_X2_40 (fun _ => rfl) rfl rfl dX2_init_63 (fun H locs hH => ?_)
  refine lv_aload_n hx hb dX2_init_66 rfl (lv_at hl 0 rfl) ?_
  refine lv_bipush (v := 8) hx hb dX2_init_67 (by decide) ?_
  refine k_ints hx hb hts hF hH kA_int 8 (by decide) (by decide) (by decide) (Nat.le_of_ble_eq_true rfl) (Nat.le_of_ble_eq_true rfl) dX2_init_69 (fun H hH => ?_)
  refine k_put hx hb hts hown hF hin hH (k := 4) (j := 10) (ci := 2) (n := 15) (C := RX2) (T := TX2) (fs := [.int 0, .int 0, .int 0, .int 0, .int 0, .int 0, .ref (B + 5), .ref (B + 6), .ref (B + 7), .ref (B + 8), .null, .null, .null, .null, .null]) (v := .ref (B + 9)) (by decide) rfl rfl (by decide) (Nat.le_of_ble_eq_true rfl) kF_X2_43 (fun _ => rfl) rfl rfl dX2_init_71 (fun H locs hH => ?_)
  refine lv_aload_n hx hb dX2_init_74 rfl (lv_at hl 0 rfl) ?_
  refine lv_bipush (v := 8) hx hb dX2_init_75 (by decide) ?_
  refine k_ints hx hb hts hF hH kA_int 8 (by decide) (by decide) (by decide) (Nat.le_of_ble_eq_true rfl) (Nat.le_of_ble_eq_true rfl) dX2_init_77 (fun H hH => ?_)
  refine k_put hx hb hts hown hF hin hH (k := 4) (j := 11) (ci := 2) (n := 15) (C := RX2) (T := TX2) (fs := [.int 0, .int 0, .int 0, .int 0, .int 0, .int 0, .ref (B + 5), .ref (B + 6), .ref (B + 7), .ref (B + 8), .ref (B + 9), .null, .null, .null, .null]) (v := .ref (B + 10)) (by decide) rfl rfl (by decide) (Nat.le_of_ble_eq_true rfl) kF_X2_46 (fun _ => rfl) rfl rfl dX2_init_79 (fun H locs hH => ?_)
  refine lv_aload_n hx hb dX2_init_82 rfl (lv_at hl 0 rfl) ?_
  refine lv_bipush (v := 6) hx hb dX2_init_83 (by decide) ?_
  refine k_ints hx hb hts hF hH kA_int 6 (by decide) (by decide) (by decide) (Nat.le_of_ble_eq_true rfl) (Nat.le_of_ble_eq_true rfl) dX2_init_85 (fun H hH => ?_)
  refine k_put hx hb hts hown hF hin hH (k := 4) (j := 12) (ci := 2) (n := 15) (C := RX2) (T := TX2) (fs := [.int 0, .int 0, .int 0, .int 0, .int 0, .int 0, .ref (B + 5), .ref (B + 6), .ref (B + 7), .ref (B + 8), .ref (B + 9), .ref (B + 10), .null, .null, .null]) (v := .ref (B + 11)) (by decide) rfl rfl (by decide) (Nat.le_of_ble_eq_true rfl) kF_X2_49 (fun _ => rfl) rfl rfl dX2_init_87 (fun H locs hH => ?_)
  refine lv_aload_n hx hb dX2_init_90 rfl (lv_at hl 0 rfl) ?_
  refine lv_bipush (v := 6) hx hb dX2_init_91 (by decide) ?_
  refine k_ints hx hb hts hF hH kA_int 6 (by decide) (by decide) (by decide) (Nat.le_of_ble_eq_true rfl) (Nat.le_of_ble_eq_true rfl) dX2_init_93 (fun H hH => ?_)
  refine k_put hx hb hts hown hF hin hH (k := 4) (j := 13) (ci := 2) (n := 15) (C := RX2) (T := TX2) (fs := [.int 0, .int 0, .int 0, .int 0, .int 0, .int 0, .ref (B + 5), .ref (B + 6), .ref (B + 7), .ref (B + 8), .ref (B + 9), .ref (B + 10), .ref (B + 11), .null, .null]) (v := .ref (B + 12)) (by decide) rfl rfl (by decide) (Nat.le_of_ble_eq_true rfl) kF_X2_52 (fun _ => rfl) rfl rfl dX2_init_95 (fun H locs hH => ?_)
  refine lv_aload_n hx hb dX2_init_98 rfl (lv_at hl 0 rfl) ?_
  refine lv_bipush (v := 6) hx hb dX2_init_99 (by decide) ?_
  refine k_bools hx hb hts hF hH kA_bool 6 (by decide) (by decide) (by decide) (Nat.le_of_ble_eq_true rfl) (Nat.le_of_ble_eq_true rfl) dX2_init_101 (fun H hH => ?_)
  refine k_put hx hb hts hown hF hin hH (k := 4) (j := 14) (ci := 2) (n := 15) (C := RX2) (T := TX2) (fs := [.int 0, .int 0, .int 0, .int 0, .int 0, .int 0, .ref (B + 5), .ref (B + 6), .ref (B + 7), .ref (B + 8), .ref (B + 9), .ref (B + 10), .ref (B + 11), .ref (B + 12), .null]) (v := .ref (B + 13)) (by decide) rfl rfl (by decide) (Nat.le_of_ble_eq_true rfl) kF_X2_55 (fun _ => rfl) rfl rfl dX2_init_103 (fun H locs hH => ?_)
  exact W.vret hx hb hr (fun t ht hW => ⟨⟨(), rfl, trivial, by rw [ht]; exact hH.1, by rw [ht]; exact hH.2.1⟩, hH.2.2.1.F ht⟩) hH.2.2.1.2.2 dX2_init_106
def w_X7_3 (E : EE) (B : Nat) (ω : OW) : OW := (wo (wo (w_X2_4 E B (wo ω 4 (.inr (2, fs_X2)))) 3 (.inr (7, [.ref (B + 4), .int 0]))) 3 (.inr (7, [.ref (B + 4), .int 0])))
set_option maxHeartbeats 4000000 in
set_option maxRecDepth 100000 in
theorem z_X7_3 (E : EE) (B : Nat) (ω : OW) (h0 : ω 3 = .inr (7, fs_X7)) : Mk E M_X7_init B 4 ω 3 10 75 14 (w_X7_3 E B ω) := by
  refine Met.ofW (cc := cX7_init) (maxL := 1) (ret := none) (by decide) rfl ?_
  intro p e s m args below meth c s₁ B1 hml hv
  obtain ⟨rfl, hsz, hP, hF⟩ := hv
  have hx := B1.exec
  have hb := B1.bytes
  have hr := B1.returns
  have hts : ∀ w ∈ TB, w.before _ s = true := fun w hw => atoms_spec (ws := mWs M_X7_init) B1.pre w (List.mem_cons_of_mem _ hw)
  have hown : s.vm.findClass RX7 = some m.cls := findClass_of_methodNamed B1.named
  have hin : meth.name = "<init>" := (name_of_methodNamed B1.named B1.method).1
  have hH : Hk E B 4 ω s s.heap [] := ⟨hsz, hP, va_S.rf, by omega⟩
  have hl := lv_entry ([.ref (B + 3)]) (n := 1) (Nat.le_of_ble_eq_true rfl)
  rw [lg_entry_eq]
  generalize (lg_sl ([.ref (B + 3)]) ++ List.replicate (1 - (lg_sl ([.ref (B + 3)])).length) Slot.unset).toArray = ls at hl ⊢
  have hl : lv_has ls 1 [(0, .ref (B + 3))] := hl
  refine lv_aload_n hx hb dX7_init_0 rfl (lv_at hl 0 rfl) ?_
  refine W.objInit hx hb hown (hts _ kMo_X7) (hts _ kO_i) (hts _ kO_c) rfl (by rw [hml]; exact hl.1) rfl dX7_init_1 (Nat.le_of_ble_eq_true rfl) (Nat.le_of_ble_eq_true rfl) ?_
  refine W.eq (g2 := F0 m 4 ls []) rfl ?_
  refine lv_aload_n hx hb dX7_init_4 rfl (lv_at hl 0 rfl) ?_
  refine k_new hx hb hts hown hF hH (ci := 2) (C := RX2) (T := TX2) (n := 15) rfl kC_X7_9 kI_X2 kV_X2 df_X2 (Nat.le_of_ble_eq_true rfl) (Nat.le_of_ble_eq_true rfl) dX7_init_5 (fun H hH => ?_)
  refine lv_dup hx hb dX7_init_8 rfl ?_
  refine k_call (M2 := M_X2_init) (z_X2_4 E B _ rfl) hx hb hml hl.1 hts hown hF hH kc_X2_init ki_X2_init rfl rfl (Or.inr ⟨_, kN_X7_11⟩) (Nat.le_of_ble_eq_true rfl) ⟨(Nat.le_of_ble_eq_true rfl), (Nat.le_of_ble_eq_true rfl)⟩ ⟨(Nat.le_of_ble_eq_true rfl), (Nat.le_of_ble_eq_true rfl)⟩ dX7_init_9 (fun H locs hH => ?_)
  refine k_put hx hb hts hown hF hin hH (k := 3) (j := 0) (ci := 7) (n := 2) (C := RX7) (T := TX7) (fs := fs_X7) (v := .ref (B + 4)) (by decide) h0 rfl (by decide) (Nat.le_of_ble_eq_true rfl) kF_X7_12 (fun _ => rfl) rfl rfl dX7_init_12 (fun H locs hH => ?_)
  refine lv_aload_n hx hb dX7_init_15 rfl (lv_at hl 0 rfl) ?_
  refine lv_iconst (v := 0) hx hb dX7_init_16 (by decide) ?_
  refine k_put hx hb hts hown hF hin hH (k := 3) (j := 1) (ci := 7) (n := 2) (C := RX7) (T := TX7) (fs := [.ref (B + 4), .int 0]) (v := .int 0) (by decide) rfl rfl (by decide) (Nat.le_of_ble_eq_true rfl) kF_X7_18 (fun _ => rfl) rfl rfl dX7_init_17 (fun H locs hH => ?_)
  exact W.vret hx hb hr (fun t ht hW => ⟨⟨(), rfl, trivial, by rw [ht]; exact hH.1, by rw [ht]; exact hH.2.1⟩, hH.2.2.1.F ht⟩) hH.2.2.1.2.2 dX7_init_20
def w_X2_14 (E : EE) (B : Nat) (ω : OW) : OW := (wo (wo (wo (wo (wo (wo (wo (wo (wo (wo (wo (wo (wo (wo (wo (wo (wo (wo (wo (wo (wo (wo (wo (wo ω 14 (.inr (2, [.int 0, .int 0, .int 0, .int 0, .int 0, .int 0, .null, .null, .null, .null, .null, .null, .null, .null, .null]))) 14 (.inr (2, [.int 0, .int 0, .int 0, .int 0, .int 0, .int 0, .null, .null, .null, .null, .null, .null, .null, .null, .null]))) 14 (.inr (2, [.int 0, .int 0, .int 0, .int 0, .int 0, .int 0, .null, .null, .null, .null, .null, .null, .null, .null, .null]))) 14 (.inr (2, [.int 0, .int 0, .int 0, .int 0, .int 0, .int 0, .null, .null, .null, .null, .null, .null, .null, .null, .null]))) 14 (.inr (2, [.int 0, .int 0, .int 0, .int 0, .int 0, .int 0, .null, .null, .null, .null, .null, .null, .null, .null, .null]))) 14 (.inr (2, [.int 0, .int 0, .int 0, .int 0, .int 0, .int 0, .null, .null, .null, .null, .null, .null, .null, .null, .null]))) 15 (.inl (cI E, 6, .inl (fun _ => 0)))) 14 (.inr (2, [.int 0, .int 0, .int 0, .int 0, .int 0, .int 0, .ref (B + 15), .null, .null, .null, .null, .null, .null, .null, .null]))) 16 (.inl (cI E, 6, .inl (fun _ => 0)))) 14 (.inr (2, [.int 0, .int 0, .int 0, .int 0, .int 0, .int 0, .ref (B + 15), .ref (B + 16), .null, .null, .null, .null, .null, .null, .null]))) 17 (.inl (cI E, 6, .inl (fun _ => 0)))) 14 (.inr (2, [.int 0, .int 0, .int 0, .int 0, .int 0, .int 0, .ref (B + 15), .ref (B + 16), .ref (B + 17), .null, .null, .null, .null, .null, .null]))) 18 (.inl (cI E, 8, .inl (fun _ => 0)))) 14 (.inr (2, [.int 0, .int 0, .int 0, .int 0, .int 0, .int 0, .ref (B + 15), .ref (B + 16), .ref (B + 17), .ref (B + 18), .null, .null, .null, .null, .null]))) 19 (.inl (cI E, 8, .inl (fun _ => 0)))) 14 (.inr (2, [.int 0, .int 0, .int 0, .int 0, .int 0, .int 0, .ref (B + 15), .ref (B + 16), .ref (B + 17), .ref (B + 18), .ref (B + 19), .null, .null, .null, .null]))) 20 (.inl (cI E, 8, .inl (fun _ => 0)))) 14 (.inr (2, [.int 0, .int 0, .int 0, .int 0, .int 0, .int 0, .ref (B + 15), .ref (B + 16), .ref (B + 17), .ref (B + 18), .ref (B + 19), .ref (B + 20), .null, .null, .null]))) 21 (.inl (cI E, 6, .inl (fun _ => 0)))) 14 (.inr (2, [.int 0, .int 0, .int 0, .int 0, .int 0, .int 0, .ref (B + 15), .ref (B + 16), .ref (B + 17), .ref (B + 18), .ref (B + 19), .ref (B + 20), .ref (B + 21), .null, .null]))) 22 (.inl (cI E, 6, .inl (fun _ => 0)))) 14 (.inr (2, [.int 0, .int 0, .int 0, .int 0, .int 0, .int 0, .ref (B + 15), .ref (B + 16), .ref (B + 17), .ref (B + 18), .ref (B + 19), .ref (B + 20), .ref (B + 21), .ref (B + 22), .null]))) 23 (.inl (cZ E, 6, .inl (fun _ => 0)))) 14 (.inr (2, [.int 0, .int 0, .int 0, .int 0, .int 0, .int 0, .ref (B + 15), .ref (B + 16), .ref (B + 17), .ref (B + 18), .ref (B + 19), .ref (B + 20), .ref (B + 21), .ref (B + 22), .ref (B + 23)])))
set_option maxHeartbeats 4000000 in
set_option maxRecDepth 100000 in
theorem z_X2_14 (E : EE) (B : Nat) (ω : OW) (h0 : ω 14 = .inr (2, fs_X2)) : Mk E M_X2_init B 15 ω 14 9 60 24 (w_X2_14 E B ω) := by
  refine Met.ofW (cc := cX2_init) (maxL := 1) (ret := none) (by decide) rfl ?_
  intro p e s m args below meth c s₁ B1 hml hv
  obtain ⟨rfl, hsz, hP, hF⟩ := hv
  have hx := B1.exec
  have hb := B1.bytes
  have hr := B1.returns
  have hts : ∀ w ∈ TB, w.before _ s = true := fun w hw => atoms_spec (ws := mWs M_X2_init) B1.pre w (List.mem_cons_of_mem _ hw)
  have hown : s.vm.findClass RX2 = some m.cls := findClass_of_methodNamed B1.named
  have hin : meth.name = "<init>" := (name_of_methodNamed B1.named B1.method).1
  have hH : Hk E B 15 ω s s.heap [] := ⟨hsz, hP, va_S.rf, by omega⟩
  have hl := lv_entry ([.ref (B + 14)]) (n := 1) (Nat.le_of_ble_eq_true rfl)
  rw [lg_entry_eq]
  generalize (lg_sl ([.ref (B + 14)]) ++ List.replicate (1 - (lg_sl ([.ref (B + 14)])).length) Slot.unset).toArray = ls at hl ⊢
  have hl : lv_has ls 1 [(0, .ref (B + 14))] := hl
  refine lv_aload_n hx hb dX2_init_0 rfl (lv_at hl 0 rfl) ?_
  refine W.objInit hx hb hown (hts _ kMo_X2) (hts _ kO_i) (hts _ kO_c) rfl (by rw [hml]; exact hl.1) rfl dX2_init_1 (Nat.le_of_ble_eq_true rfl) (Nat.le_of_ble_eq_true rfl) ?_
  refine W.eq (g2 := F0 m 4 ls []) rfl ?_
  refine lv_aload_n hx hb dX2_init_4 rfl (lv_at hl 0 rfl) ?_
  refine lv_iconst (v := 0) hx hb dX2_init_5 (by decide) ?_
  refine k_put hx hb hts hown hF hin hH (k := 14) (j := 0) (ci := 2) (n := 15) (C := RX2) (T := TX2) (fs := fs_X2) (v := .int 0) (by decide) h0 rfl (by decide) (Nat.le_of_ble_eq_true rfl) kF_X2_9 (fun _ => rfl) rfl rfl dX2_init_6 (fun H locs hH => ?_)
  refine lv_aload_n hx hb dX2_init_9 rfl (lv_at hl 0 rfl) ?_
  refine lv_iconst (v := 0) hx hb dX2_init_10 (by decide) ?_
  refine k_put hx hb hts hown hF hin hH (k := 14) (j := 1) (ci := 2) (n := 15) (C := RX2) (T := TX2) (fs := [.int 0, .int 0, .int 0, .int 0, .int 0, .int 0, .null, .null, .null, .null, .null, .null, .null, .null, .null]) (v := .int 0) (by decide) rfl rfl (by decide) (Nat.le_of_ble_eq_true rfl) kF_X2_15 (fun _ => rfl) rfl rfl dX2_init_11 (fun H locs hH => ?_)
  refine lv_aload_n hx hb dX2_init_14 rfl (lv_at hl 0 rfl) ?_
  refine lv_iconst (v := 0) hx hb dX2_init_15 (by decide) ?_
  refine k_put hx hb hts hown hF hin hH (k := 14) (j := 2) (ci := 2) (n := 15) (C := RX2) (T := TX2) (fs := [.int 0, .int 0, .int 0, .int 0, .int 0, .int 0, .null, .null, .null, .null, .null, .null, .null, .null, .null]) (v := .int 0) (by decide) rfl rfl (by decide) (Nat.le_of_ble_eq_true rfl) kF_X2_18 (fun _ => rfl) rfl rfl dX2_init_16 (fun H locs hH => ?_)
  refine lv_aload_n hx hb dX2_init_19 rfl (lv_at hl 0 rfl) ?_
  refine lv_iconst (v := 0) hx hb dX2_init_20 (by decide) ?_
  refine k_put hx hb hts hown hF hin hH (k := 14) (j := 3) (ci := 2) (n := 15) (C := RX2) (T := TX2) (fs := [.int 0, .int 0, .int 0, .int 0, .int 0, .int 0, .null, .null, .null, .null, .null, .null, .null, .null, .null]) (v := .int 0) (by decide) rfl rfl (by decide) (Nat.le_of_ble_eq_true rfl) kF_X2_21 (fun _ => rfl) rfl rfl dX2_init_21 (fun H locs hH => ?_)
  refine lv_aload_n hx hb dX2_init_24 rfl (lv_at hl 0 rfl) ?_
  refine lv_iconst (v := 0) hx hb dX2_init_25 (by decide) ?_
  refine k_put hx hb hts hown hF hin hH (k := 14) (j := 4) (ci := 2) (n := 15) (C := RX2) (T := TX2) (fs := [.int 0, .int 0, .int 0, .int 0, .int 0, .int 0, .null, .null, .null, .null, .null, .null, .null, .null, .null]) (v := .int 0) (by decide) rfl rfl (by decide) (Nat.le_of_ble_eq_true rfl) kF_X2_24 (fun _ => rfl) rfl rfl dX2_init_26 (fun H locs hH => ?_)
  refine lv_aload_n hx hb dX2_init_29 rfl (lv_at hl 0 rfl) ?_
  refine lv_iconst (v := 0) hx hb dX2_init_30 (by decide) ?_
  refine k_put hx hb hts hown hF hin hH (k := 14) (j := 5) (ci := 2) (n := 15) (C := RX2) (T := TX2) (fs := [.int 0, .int 0, .int 0, .int 0, .int 0, .int 0, .null, .null, .null, .null, .null, .null, .null, .null, .null]) (v := .int 0) (by decide) rfl rfl (by decide) (Nat.le_of_ble_eq_true rfl) kF_X2_27 (fun _ => rfl) rfl rfl dX2_init_31 (fun H locs hH => ?_)
  refine lv_aload_n hx hb dX2_init_34 rfl (lv_at hl 0 rfl) ?_
  refine lv_bipush (v := 6) hx hb dX2_init_35 (by decide) ?_
  refine k_ints hx hb hts hF hH kA_int 6 (by decide) (by decide) (by decide) (Nat.le_of_ble_eq_true rfl) (Nat.le_of_ble_eq_true rfl) dX2_init_37 (fun H hH => ?_)
  refine k_put hx hb hts hown hF hin hH (k := 14) (j := 6) (ci := 2) (n := 15) (C := RX2) (T := TX2) (fs := [.int 0, .int 0, .int 0, .int 0, .int 0, .int 0, .null, .null, .null, .null, .null, .null, .null, .null, .null]) (v := .ref (B + 15)) (by decide) rfl rfl (by decide) (Nat.le_of_ble_eq_true rfl) kF_X2_30 (fun _ => rfl) rfl rfl dX2_init_39 (fun H locs hH => ?_)
  refine lv_aload_n hx hb dX2_init_42 rfl (lv_at hl 0 rfl) ?_
  refine lv_bipush (v := 6) hx hb dX2_init_43 (by decide) ?_
  refine k_ints hx hb hts hF hH kA_int 6 (by decide) (by decide) (by decide) (Nat.le_of_ble_eq_true rfl) (Nat.le_of_ble_eq_true rfl) dX2_init_45 (fun H hH => ?_)
  refine k_put hx hb hts hown hF hin hH (k := 14) (j := 7) (ci := 2) (n := 15) (C := RX2) (T := TX2) (fs := [.int 0, .int 0, .int 0, .int 0, .int 0, .int 0, .ref (B + 15), .null, .null, .null, .null, .null, .null, .null, .null]) (v := .ref (B + 16)) (by decide) rfl rfl (by decide) (Nat.le_of_ble_eq_true rfl) kF_X2_34 (fun _ => rfl) rfl rfl dX2_init_47 (fun H locs hH => ?_)
  refine lv_aload_n hx hb dX2_init_50 rfl (lv_at hl 0 rfl) ?_
  refine lv_bipush (v := 6) hx hb dX2_init_51 (by decide) ?_
  refine k_ints hx hb hts hF hH kA_int 6 (by decide) (by decide) (by decide) (Nat.le_of_ble_eq_true rfl) (Nat.le_of_ble_eq_true rfl) dX2_init_53 (fun H hH => ?_)
  refine k_put hx hb hts hown hF hin hH (k := 14) (j := 8) (ci := 2) (n := 15) (C := RX2) (T := TX2) (fs := [.int 0, .int 0, .int 0, .int 0, .int 0, .int 0, .ref (B + 15), .ref (B + 16), .null, .null, .null, .null, .null, .null, .null]) (v := .ref (B + 17)) (by decide) rfl rfl (by decide) (Nat.le_of_ble_eq_true rfl) kF_X2_37 (fun _ => rfl) rfl rfl dX2_init_55 (fun H locs hH => ?_)
  refine lv_aload_n hx hb dX2_init_58 rfl (lv_at hl 0 rfl) ?_
  refine lv_bipush (v := 8) hx hb dX2_init_59 (by decide) ?_
  refine k_ints hx hb hts hF hH kA_int 8 (by decide) (by decide) (by decide) (Nat.le_of_ble_eq_true rfl) (Nat.le_of_ble_eq_true rfl) dX2_init_61 (fun H hH => ?_)
  refine k_put hx hb hts hown hF hin hH (k := 14) (j := 9) (ci := 2) (n := 15) (C := RX2) (T := TX2) (fs := [.int 0, .int 0, .int 0, .int 0, .int 0, .int 0, .ref (B + 15), .ref (B + 16), .ref (B + 17), .null, .null, .null, .null, .null, .null]) (v := .ref (B + 18)) (by decide) rfl rfl (by decide) (Nat.le_of_ble_eq_true rfl) kF_X2_40 (fun _ => rfl) rfl rfl dX2_init_63 (fun H locs hH => ?_)
  refine lv_aload_n hx hb dX2_init_66 rfl (lv_at hl 0 rfl) ?_
  refine lv_bipush (v := 8) hx hb dX2_init_67 (by decide) ?_
  refine k_ints hx hb hts hF hH kA_int 8 (by decide) (by decide) (by decide) (Nat.le_of_ble_eq_true rfl) (Nat.le_of_ble_eq_true rfl) dX2_init_69 (fun H hH => ?_)
  refine k_put hx hb hts hown hF hin hH (k := 14) (j := 10) (ci := 2) (n := 15) (C := RX2) (T := TX2) (fs := [.int 0, .int 0, .int 0, .int 0, .int 0, .int 0, .ref (B + 15), .ref (B + 16), .ref (B + 17), .ref (B + 18), .null, .null, .null, .null, .null]) (v := .ref (B + 19)) (by decide) rfl rfl (by decide) (Nat.le_of_ble_eq_true rfl) kF_X2_43 (fun _ => rfl) rfl rfl dX2_init_71 (fun H locs hH => ?_)
  refine lv_aload_n hx hb dX2_init_74 rfl (lv_at hl 0 rfl) ?_
  refine lv_bipush (v := 8) hx hb dX2_init_75 (by decide) ?_
  refine k_ints hx hb hts hF hH kA_int 8 (by decide) (by decide) (by decide) (Nat.le_of_ble_eq_true rfl) (Nat.le_of_ble_eq_true rfl) dX2_init_77 (fun H hH => ?_)
  refine k_put hx hb hts hown hF hin hH (k := 14) (j := 11) (ci := 2) (n := 15) (C := RX2) (T := TX2) (fs := [.int 0, .int 0, .int 0, .int 0, .int 0, .int 0, .ref (B + 15), .ref (B + 16), .ref (B + 17), .ref (B + 18), .ref (B + 19), .null, .null, .null, .null]) (v := .ref (B + 20)) (by decide) rfl rfl (by decide) (Nat.le_of_ble_eq_true rfl) kF_X2_46 (fun _ => rfl) rfl rfl dX2_init_79 (fun H locs hH => ?_)
  refine lv_aload_n hx hb dX2_init_82 rfl (lv_at hl 0 rfl) ?_
  refine lv_bipush (v := 6) hx hb dX2_init_83 (by decide) ?_
  refine k_ints hx hb hts hF hH kA_int 6 (by decide) (by decide) (by decide) (Nat.le_of_ble_eq_true rfl) (Nat.le_of_ble_eq_true rfl) dX2_init_85 (fun H hH => ?_)
  refine k_put hx hb hts hown hF hin hH (k := 14) (j := 12) (ci := 2) (n := 15) (C := RX2) (T := TX2) (fs := [.int 0, .int 0, .int 0, .int 0, .int 0, .int 0, .ref (B + 15), .ref (B + 16), .ref (B + 17), .ref (B + 18), .ref (B + 19), .ref (B + 20), .null, .null, .null]) (v := .ref (B + 21)) (by decide) rfl rfl (by decide) (Nat.le_of_ble_eq_true rfl) kF_X2_49 (fun _ => rfl) rfl rfl dX2_init_87 (fun H locs hH => ?_)
  refine lv_aload_n hx hb dX2_init_90 rfl (lv_at hl 0 rfl) ?_
  refine lv_bipush (v := 6) hx hb dX2_init_91 (by decide) ?_
  refine k_ints hx hb hts hF hH kA_int 6 (by decide) (by decide) (by decide) (Nat.le_of_ble_eq_true rfl) (Nat.le_of_ble_eq_true rfl) dX2_init_93 (fun H hH => ?_)
  refine k_put hx hb hts hown hF hin hH (k := 14) (j := 13) (ci := 2) (n := 15) (C := RX2) (T := TX2) (fs := [.int 0, .int 0, .int 0, .int 0, .int 0, .int 0, .ref (B + 15), .ref (B + 16), .ref (B + 17), .ref (B + 18), .ref (B + 19), .ref (B + 20), .ref (B + 21), .null, .null]) (v := .ref (B + 22)) (by decide) rfl rfl (by decide) (Nat.le_of_ble_eq_true rfl) kF_X2_52 (fun _ => rfl) rfl rfl dX2_init_95 (fun H locs hH => ?_)
  refine lv_aload_n hx hb dX2_init_98 rfl (lv_at hl 0 rfl) ?_
  refine lv_bipush (v := 6) hx hb dX2_init_99 (by decide) ?_
  refine k_bools hx hb hts hF hH kA_bool 6 (by decide) (by decide) (by decide) (Nat.le_of_ble_eq_true rfl) (Nat.le_of_ble_eq_true rfl) dX2_init_101 (fun H hH => ?_)
  refine k_put hx hb hts hown hF hin hH (k := 14) (j := 14) (ci := 2) (n := 15) (C := RX2) (T := TX2) (fs := [.int 0, .int 0, .int 0, .int 0, .int 0, .int 0, .ref (B + 15), .ref (B + 16), .ref (B + 17), .ref (B + 18), .ref (B + 19), .ref (B + 20), .ref (B + 21), .ref (B + 22), .null]) (v := .ref (B + 23)) (by decide) rfl rfl (by decide) (Nat.le_of_ble_eq_true rfl) kF_X2_55 (fun _ => rfl) rfl rfl dX2_init_103 (fun H locs hH => ?_)
  exact W.vret hx hb hr (fun t ht hW => ⟨⟨(), rfl, trivial, by rw [ht]; exact hH.1, by rw [ht]; exact hH.2.1⟩, hH.2.2.1.F ht⟩) hH.2.2.1.2.2 dX2_init_106
def w_X2_24 (E : EE) (B : Nat) (ω : OW) : OW := (wo (wo (wo (wo (wo (wo (wo (wo (wo (wo (wo (wo (wo (wo (wo (wo (wo (wo (wo (wo (wo (wo (wo (wo ω 24 (.inr (2, [.int 0, .int 0, .int 0, .int 0, .int 0, .int 0, .null, .null, .null, .null, .null, .null, .null, .null, .null]))) 24 (.inr (2, [.int 0, .int 0, .int 0, .int 0, .int 0, .int 0, .null, .null, .null, .null, .null, .null, .null, .null, .null]))) 24 (.inr (2, [.int 0, .int 0, .int 0, .int 0, .int 0, .int 0, .null, .null, .null, .null, .null, .null, .null, .null, .null]))) 24 (.inr (2, [.int 0, .int 0, .int 0, .int 0, .int 0, .int 0, .null, .null, .null, .null, .null, .null, .null, .null, .null]))) 24 (.inr (2, [.int 0, .int 0, .int 0, .int 0, .int 0, .int 0, .null, .null, .null, .null, .null, .null, .null, .null, .null]))) 24 (.inr (2, [.int 0, .int 0, .int 0, .int 0, .int 0, .int 0, .null, .null, .null, .null, .null, .null, .null, .null, .null]))) 25 (.inl (cI E, 6, .inl (fun _ => 0)))) 24 (.inr (2, [.int 0, .int 0, .int 0, .int 0, .int 0, .int 0, .ref (B + 25), .null, .null, .null, .null, .null, .null, .null, .null]))) 26 (.inl (cI E, 6, .inl (fun _ => 0)))) 24 (.inr (2, [.int 0, .int 0, .int 0, .int 0, .int 0, .int 0, .ref (B + 25), .ref (B + 26), .null, .null, .null, .null, .null, .null, .null]))) 27 (.inl (cI E, 6, .inl (fun _ => 0)))) 24 (.inr (2, [.int 0, .int 0, .int 0, .int 0, .int 0, .int 0, .ref (B + 25), .ref (B + 26), .ref (B + 27), .null, .null, .null, .null, .null, .null]))) 28 (.inl (cI E, 8, .inl (fun _ => 0)))) 24 (.inr (2, [.int 0, .int 0, .int 0, .int 0, .int 0, .int 0, .ref (B + 25), .ref (B + 26), .ref (B + 27), .ref (B + 28), .null, .null, .null, .null, .null]))) 29 (.inl (cI E, 8, .inl (fun _ => 0)))) 24 (.inr (2, [.int 0, .int 0, .int 0, .int 0, .int 0, .int 0, .ref (B + 25), .ref (B + 26), .ref (B + 27), .ref (B + 28), .ref (B + 29), .null, .null, .null, .null]))) 30 (.inl (cI E, 8, .inl (fun _ => 0)))) 24 (.inr (2, [.int 0, .int 0, .int 0, .int 0, .int 0, .int 0, .ref (B + 25), .ref (B + 26), .ref (B + 27), .ref (B + 28), .ref (B + 29), .ref (B + 30), .null, .null, .null]))) 31 (.inl (cI E, 6, .inl (fun _ => 0)))) 24 (.inr (2, [.int 0, .int 0, .int 0, .int 0, .int 0, .int 0, .ref (B + 25), .ref (B + 26), .ref (B + 27), .ref (B + 28), .ref (B + 29), .ref (B + 30), .ref (B + 31), .null, .null]))) 32 (.inl (cI E, 6, .inl (fun _ => 0)))) 24 (.inr (2, [.int 0, .int 0, .int 0, .int 0, .int 0, .int 0, .ref (B + 25), .ref (B + 26), .ref (B + 27), .ref (B + 28), .ref (B + 29), .ref (B + 30), .ref (B + 31), .ref (B + 32), .null]))) 33 (.inl (cZ E, 6, .inl (fun _ => 0)))) 24 (.inr (2, [.int 0, .int 0, .int 0, .int 0, .int 0, .int 0, .ref (B + 25), .ref (B + 26), .ref (B + 27), .ref (B + 28), .ref (B + 29), .ref (B + 30), .ref (B + 31), .ref (B + 32), .ref (B + 33)])))
set_option maxHeartbeats 4000000 in
set_option maxRecDepth 100000 in
theorem z_X2_24 (E : EE) (B : Nat) (ω : OW) (h0 : ω 24 = .inr (2, fs_X2)) : Mk E M_X2_init B 25 ω 24 9 60 34 (w_X2_24 E B ω) := by
  refine Met.ofW (cc := cX2_init) (maxL := 1) (ret := none) (by decide) rfl ?_
  intro p e s m args below meth c s₁ B1 hml hv
  obtain ⟨rfl, hsz, hP, hF⟩ := hv
  have hx := B1.exec
  have hb := B1.bytes
  have hr := B1.returns
  have hts : ∀ w ∈ TB, w.before _ s = true := fun w hw => atoms_spec (ws := mWs M_X2_init) B1.pre w (List.mem_cons_of_mem _ hw)
  have hown : s.vm.findClass RX2 = some m.cls := findClass_of_methodNamed B1.named
  have hin : meth.name = "<init>" := (name_of_methodNamed B1.named B1.method).1
  have hH : Hk E B 25 ω s s.heap [] := ⟨hsz, hP, va_S.rf, by omega⟩
  have hl := lv_entry ([.ref (B + 24)]) (n := 1) (Nat.le_of_ble_eq_true rfl)
  rw [lg_entry_eq]
  generalize (lg_sl ([.ref (B + 24)]) ++ List.replicate (1 - (lg_sl ([.ref (B + 24)])).length) Slot.unset).toArray = ls at hl ⊢
  have hl : lv_has ls 1 [(0, .ref (B + 24))] := hl
  refine lv_aload_n hx hb dX2_init_0 rfl (lv_at hl 0 rfl) ?_
  refine W.objInit hx hb hown (hts _ kMo_X2) (hts _ kO_i) (hts _ kO_c) rfl (by rw [hml]; exact hl.1) rfl dX2_init_1 (Nat.le_of_ble_eq_true rfl) (Nat.le_of_ble_eq_true rfl) ?_
  refine W.eq (g2 := F0 m 4 ls []) rfl ?_
  refine lv_aload_n hx hb dX2_init_4 rfl (lv_at hl 0 rfl) ?_
  refine lv_iconst (v := 0) hx hb dX2_init_5 (by decide) ?_
  refine k_put hx hb hts hown hF hin hH (k := 24) (j := 0) (ci := 2) (n := 15) (C := RX2) (T := TX2) (fs := fs_X2) (v := .int 0) (by decide) h0 rfl (by decide) (Nat.le_of_ble_eq_true rfl) kF_X2_9 (fun _ => rfl) rfl rfl dX2_init_6 (fun H locs hH => ?_)
  refine lv_aload_n hx hb dX2_init_9 rfl (lv_at hl 0 rfl) ?_
  refine lv_iconst (v := 0) hx hb dX2_init_10 (by decide) ?_
  refine k_put hx hb hts hown hF hin hH (k := 24) (j := 1) (ci := 2) (n := 15) (C := RX2) (T := TX2) (fs := [.int 0, .int 0, .int 0, .int 0, .int 0, .int 0, .null, .null, .null, .null, .null, .null, .null, .null, .null]) (v := .int 0) (by decide) rfl rfl (by decide) (Nat.le_of_ble_eq_true rfl) kF_X2_15 (fun _ => rfl) rfl rfl dX2_init_11 (fun H locs hH => ?_)
  refine lv_aload_n hx hb dX2_init_14 rfl (lv_at hl 0 rfl) ?_
  refine lv_iconst (v := 0) hx hb dX2_init_15 (by decide) ?_
  refine k_put hx hb hts hown hF hin hH (k := 24) (j := 2) (ci := 2) (n := 15) (C := RX2) (T := TX2) (fs := [.int 0, .int 0, .int 0, .int 0, .int 0, .int 0, .null, .null, .null, .null, .null, .null, .null, .null, .null]) (v := .int 0) (by decide) rfl rfl (by decide) (Nat.le_of_ble_eq_true rfl) kF_X2_18 (fun _ => rfl) rfl rfl dX2_init_16 (fun H locs hH => ?_)
  refine lv_aload_n hx hb dX2_init_19 rfl (lv_at hl 0 rfl) ?_
  refine lv_iconst (v := 0) hx hb dX2_init_20 (by decide) ?_
  refine k_put hx hb hts hown hF hin hH (k := 24) (j := 3) (ci := 2) (n := 15) (C := RX2) (T := TX2) (fs := [.int 0, .int 0, .int 0, .int 0, .int 0, .int 0, .null, .null, .null, .null, .null, .null, .null, .null, .null]) (v := .int 0) (by decide) rfl rfl (by decide) (Nat.le_of_ble_eq_true rfl) kF_X2_21 (fun _ => rfl) rfl rfl dX2_init_21 (fun H locs hH => ?_)
  refine lv_aload_n hx hb dX2_init_24 rfl (lv_at hl 0 rfl) ?_
  refine lv_iconst (v := 0) hx hb dX2_init_25 (by decide) ?_
  refine k_put hx hb hts hown hF hin hH (k := 24) (j := 4) (ci := 2) (n := 15) (C := RX2) (T := TX2) (fs := [.int 0, .int 0, .int 0, .int 0, .int 0, .int 0, .null, .null, .null, .null, .null, .null, .null, .null, .null]) (v := .int 0) (by decide) rfl rfl (by decide) (Nat.le_of_ble_eq_true rfl) kF_X2_24 (fun _ => rfl) rfl rfl dX2_init_26 (fun H locs hH => ?_)
  refine lv_aload_n hx hb dX2_init_29 rfl (lv_at hl 0 rfl) ?_
  refine lv_iconst (v := 0) hx hb dX2_init_30 (by decide) ?_
  refine k_put hx hb hts hown hF hin hH (k := 24) (j := 5) (ci := 2) (n := 15) (C := RX2) (T := TX2) (fs := [.int 0, .int 0, .int 0, .int 0, .int 0, .int 0, .null, .null, .null, .null, .null, .null, .null, .null, .null]) (v := .int 0) (by decide) rfl rfl (by decide) (Nat.le_of_ble_eq_true rfl) kF_X2_27 (fun _ => rfl) rfl rfl dX2_init_31 (fun H locs hH => ?_)
  refine lv_aload_n hx hb dX2_init_34 rfl (lv_at hl 0 rfl) ?_
  refine lv_bipush (v := 6) hx hb dX2_init_35 (by decide) ?_
  refine k_ints hx hb hts hF hH kA_int 6 (by decide) (by decide) (by decide) (Nat.le_of_ble_eq_true rfl) (Nat.le_of_ble_eq_true rfl) dX2_init_37 (fun H hH => ?_)
  refine k_put hx hb hts hown hF hin hH (k := 24) (j := 6) (ci := 2) (n := 15) (C := RX2) (T := TX2) (fs := [.int 0, .int 0, .int 0, .int 0, .int 0, .int 0, .null, .null, .null, .null, .null, .null, .null, .null, .null]) (v := .ref (B + 25)) (by decide) rfl rfl (by decide) (Nat.le_of_ble_eq_true rfl) kF_X2_30 (fun _ => rfl) rfl rfl dX2_init_39 (fun H locs hH => ?_)
  refine lv_aload_n hx hb dX2_init_42 rfl (lv_at hl 0 rfl) ?_
  refine lv_bipush (v := 6) hx hb dX2_init_43 (by decide) ?_
  refine k_ints hx hb hts hF hH kA_int 6 (by decide) (by decide) (by decide) (Nat.le_of_ble_eq_true rfl) (Nat.le_of_ble_eq_true rfl) dX2_init_45 (fun H hH => ?_)
  refine k_put hx hb hts hown hF hin hH (k := 24) (j := 7) (ci := 2) (n := 15) (C := RX2) (T := TX2) (fs := [.int 0, .int 0, .int 0, .int 0, .int 0, .int 0, .ref (B + 25), .null, .null, .null, .null, .null, .null, .null, .null]) (v := .ref (B + 26)) (by decide) rfl rfl (by decide) (Nat.le_of_ble_eq_true rfl) kF_X2_34 (fun _ => rfl) rfl rfl dX2_init_47 (fun H locs hH => ?_)
  refine lv_aload_n hx hb dX2_init_50 rfl (lv_at hl 0 rfl) ?_
  refine lv_bipush (v := 6) hx hb dX2_init_51 (by decide) ?_
  refine k_ints hx hb hts hF hH kA_int 6 (by decide) (by decide) (by decide) (Nat.le_of_ble_eq_true rfl) (Nat.le_of_ble_eq_true rfl) dX2_init_53 (fun H hH => ?_)
  refine k_put hx hb hts hown hF hin hH (k := 24) (j := 8) (ci := 2) (n := 15) (C := RX2) (T := TX2) (fs := [.int 0, .int 0, .int 0, .int 0, .int 0, .int 0, .ref (B + 25), .ref (B + 26), .null, .null, .null, .null, .null, .null, .null]) (v := .ref (B + 27)) (by decide) rfl rfl (by decide) (Nat.le_of_ble_eq_true rfl) kF_X2_37 (fun _ => rfl) rfl rfl dX2_init_55 (fun H locs hH => ?_)
  refine lv_aload_n hx hb dX2_init_58 rfl (lv_at hl 0 rfl) ?_
  refine lv_bipush (v := 8) hx hb dX2_init_59 (by decide) ?_
  refine k_ints hx hb hts hF hH kA_int 8 (by decide) (by decide) (by decide) (Nat.le_of_ble_eq_true rfl) (Nat.le_of_ble_eq_true rfl) dX2_init_61 (fun H hH => ?_)
  refine k_put hx hb hts hown hF hin hH (k := 24) (j := 9) (ci := 2) (n := 15) (C := RX2) (T := TX2) (fs := [.int 0, .int 0, .int 0, .int 0, .int 0, .int 0, .ref (B + 25), .ref (B + 26), .ref (B + 27), .null, .null, .null, .null, .null, .null]) (v := .ref (B + 28)) (by decide) rfl rfl (by decide) (Nat.le_of_ble_eq_true rfl) kF_X2_40 (fun _ => rfl) rfl rfl dX2_init_63 (fun H locs hH => ?_)
  refine lv_aload_n hx hb dX2_init_66 rfl (lv_at hl 0 rfl) ?_
  refine lv_bipush (v := 8) hx hb dX2_init_67 (by decide) ?_
  refine k_ints hx hb hts hF hH kA_int 8 (by decide) (by decide) (by decide) (Nat.le_of_ble_eq_true rfl) (Nat.le_of_ble_eq_true rfl) dX2_init_69 (fun H hH => ?_)
  refine k_put hx hb hts hown hF hin hH (k := 24) (j := 10) (ci := 2) (n := 15) (C := RX2) (T := TX2) (fs := [.int 0, .int 0, .int 0, .int 0, .int 0, .int 0, .ref (B + 25), .ref (B + 26), .ref (B + 27), .ref (B + 28), .null, .null, .null, .null, .null]) (v := .ref (B + 29)) (by decide) rfl rfl (by decide) (Nat.le_of_ble_eq_true rfl) kF_X2_43 (fun _ => rfl) rfl rfl dX2_init_71 (fun H locs hH => ?_)
  refine lv_aload_n hx hb dX2_init_74 rfl (lv_at hl 0 rfl) ?_
  refine lv_bipush (v := 8) hx hb dX2_init_75 (by decide) ?_
  refine k_ints hx hb hts hF hH kA_int 8 (by decide) (by decide) (by decide) (Nat.le_of_ble_eq_true rfl) (Nat.le_of_ble_eq_true rfl) dX2_init_77 (fun H hH => ?_)
  refine k_put hx hb hts hown hF hin hH (k := 24) (j := 11) (ci := 2) (n := 15) (C := RX2) (T := TX2) (fs := [.int 0, .int 0, .int 0, .int 0, .int 0, .int 0, .ref (B + 25), .ref (B + 26), .ref (B + 27), .ref (B + 28), .ref (B + 29), .null, .null, .null, .null]) (v := .ref (B + 30)) (by decide) rfl rfl (by decide) (Nat.le_of_ble_eq_true rfl) kF_X2_46 (fun _ => rfl) rfl rfl dX2_init_79 (fun H locs hH => ?_)
  refine lv_aload_n hx hb dX2_init_82 rfl (lv_at hl 0 rfl) ?_
  refine lv_bipush (v := 6) hx hb dX2_init_83 (by decide) ?_
  refine k_ints hx hb hts hF hH kA_int 6 (by decide) (by decide) (by decide) (Nat.le_of_ble_eq_true rfl) (Nat.le_of_ble_eq_true rfl) dX2_init_85 (fun H hH => ?_)
  refine k_put hx hb hts hown hF hin hH (k := 24) (j := 12) (ci := 2) (n := 15) (C := RX2) (T := TX2) (fs := [.int 0, .int 0, .int 0, .int 0, .int 0, .int 0, .ref (B + 25), .ref (B + 26), .ref (B + 27), .ref (B + 28), .ref (B + 29), .ref (B + 30), .null, .null, .null]) (v := .ref (B + 31)) (by decide) rfl rfl (by decide) (Nat.le_of_ble_eq_true rfl) kF_X2_49 (fun _ => rfl) rfl rfl dX2_init_87 (fun H locs hH => ?_)
  refine lv_aload_n hx hb dX2_init_90 rfl (lv_at hl 0 rfl) ?_
  refine lv_bipush (v := 6) hx hb dX2_init_91 (by decide) ?_
  refine k_ints hx hb hts hF hH kA_int 6 (by decide) (by decide) (by decide) (Nat.le_of_ble_eq_true rfl) (Nat.le_of_ble_eq_true rfl) dX2_init_93 (fun H hH => ?_)
  refine k_put hx hb hts hown hF hin hH (k := 24) (j := 13) (ci := 2) (n := 15) (C := RX2) (T := TX2) (fs := [.int 0, .int 0, .int 0, .int 0, .int 0, .int 0, .ref (B + 25), .ref (B + 26), .ref (B + 27), .ref (B + 28), .ref (B + 29), .ref (B + 30), .ref (B + 31), .null, .null]) (v := .ref (B + 32)) (by decide) rfl rfl (by decide) (Nat.le_of_ble_eq_true rfl) kF_X2_52 (fun _ => rfl) rfl rfl dX2_init_95 (fun H locs hH => ?_)
  refine lv_aload_n hx hb dX2_init_98 rfl (lv_at hl 0 rfl) ?_
  refine lv_bipush (v := 6) hx hb dX2_init_99 (by decide) ?_
  refine k_bools hx hb hts hF hH kA_bool 6 (by decide) (by decide) (by decide) (Nat.le_of_ble_eq_true rfl) (Nat.le_of_ble_eq_true rfl) dX2_init_101 (fun H hH => ?_)
  refine k_put hx hb hts hown hF hin hH (k := 24) (j := 14) (ci := 2) (n := 15) (C := RX2) (T := TX2) (fs := [.int 0, .int 0, .int 0, .int 0, .int 0, .int 0, .ref (B + 25), .ref (B + 26), .ref (B + 27), .ref (B + 28), .ref (B + 29), .ref (B + 30), .ref (B + 31), .ref (B + 32), .null]) (v := .ref (B + 33)) (by decide) rfl rfl (by decide) (Nat.le_of_ble_eq_true rfl) kF_X2_55 (fun _ => rfl) rfl rfl dX2_init_103 (fun H locs hH => ?_)
  exact W.vret hx hb hr (fun t ht hW => ⟨⟨(), rfl, trivial, by rw [ht]; exact hH.1, by rw [ht]; exact hH.2.1⟩, hH.2.2.1.F ht⟩) hH.2.2.1.2.2 dX2_init_106
def w_X2_34 (E : EE) (B : Nat) (ω : OW) : OW := (wo (wo (wo (wo (wo (wo (wo (wo (wo (wo (wo (wo (wo (wo (wo (wo (wo (wo (wo (wo (wo (wo (wo (wo ω 34 (.inr (2, [.int 0, .int 0, .int 0, .int 0, .int 0, .int 0, .null, .null, .null, .null, .null, .null, .null, .null, .null]))) 34 (.inr (2, [.int 0, .int 0, .int 0, .int 0, .int 0, .int 0, .null, .null, .null, .null, .null, .null, .null, .null, .null]))) 34 (.inr (2, [.int 0, .int 0, .int 0, .int 0, .int 0, .int 0, .null, .null, .null, .null, .null, .null, .null, .null, .null]))) 34 (.inr (2, [.int 0, .int 0, .int 0, .int 0, .int 0, .int 0, .null, .null, .null, .null, .null, .null, .null, .null, .null]))) 34 (.inr (2, [.int 0, .int 0, .int 0, .int 0, .int 0, .int 0, .null, .null, .null, .null, .null, .null, .null, .null, .null]))) 34 (.inr (2, [.int 0, .int 0, .int 0, .int 0, .int 0, .int 0, .null, .null, .null, .null, .null, .null, .null, .null, .null]))) 35 (.inl (cI E, 6, .inl (fun _ => 0)))) 34 (.inr (2, [.int 0, .int 0, .int 0, .int 0, .int 0, .int 0, .ref (B + 35), .null, .null, .null, .null, .null, .null, .null, .null]))) 36 (.inl (cI E, 6, .inl (fun _ => 0)))) 34 (.inr (2, [.int 0, .int 0, .int 0, .int 0, .int 0, .int 0, .ref (B + 35), .ref (B + 36), .null, .null, .null, .null, .null, .null, .null]))) 37 (.inl (cI E, 6, .inl (fun _ => 0)))) 34 (.inr (2, [.int 0, .int 0, .int 0, .int 0, .int 0, .int 0, .ref (B + 35), .ref (B + 36), .ref (B + 37), .null, .null, .null, .null, .null, .null]))) 38 (.inl (cI E, 8, .inl (fun _ => 0)))) 34 (.inr (2, [.int 0, .int 0, .int 0, .int 0, .int 0, .int 0, .ref (B + 35), .ref (B + 36), .ref (B + 37), .ref (B + 38), .null, .null, .null, .null, .null]))) 39 (.inl (cI E, 8, .inl (fun _ => 0)))) 34 (.inr (2, [.int 0, .int 0, .int 0, .int 0, .int 0, .int 0, .ref (B + 35), .ref (B + 36), .ref (B + 37), .ref (B + 38), .ref (B + 39), .null, .null, .null, .null]))) 40 (.inl (cI E, 8, .inl (fun _ => 0)))) 34 (.inr (2, [.int 0, .int 0, .int 0, .int 0, .int 0, .int 0, .ref (B + 35), .ref (B + 36), .ref (B + 37), .ref (B + 38), .ref (B + 39), .ref (B + 40), .null, .null, .null]))) 41 (.inl (cI E, 6, .inl (fun _ => 0)))) 34 (.inr (2, [.int 0, .int 0, .int 0, .int 0, .int 0, .int 0, .ref (B + 35), .ref (B + 36), .ref (B + 37), .ref (B + 38), .ref (B + 39), .ref (B + 40), .ref (B + 41), .null, .null]))) 42 (.inl (cI E, 6, .inl (fun _ => 0)))) 34 (.inr (2, [.int 0, .int 0, .int 0, .int 0, .int 0, .int 0, .ref (B + 35), .ref (B + 36), .ref (B + 37), .ref (B + 38), .ref (B + 39), .ref (B + 40), .ref (B + 41), .ref (B + 42), .null]))) 43 (.inl (cZ E, 6, .inl (fun _ => 0)))) 34 (.inr (2, [.int 0, .int 0, .int 0, .int 0, .int 0, .int 0, .ref (B + 35), .ref (B + 36), .ref (B + 37), .ref (B + 38), .ref (B + 39), .ref (B + 40), .ref (B + 41), .ref (B + 42), .ref (B + 43)])))
set_option maxHeartbeats 4000000 in
set_option maxRecDepth 100000 in
theorem z_X2_34 (E : EE) (B : Nat) (ω : OW) (h0 : ω 34 = .inr (2, fs_X2)) : Mk E M_X2_init B 35 ω 34 9 60 44 (w_X2_34 E B ω) := by
  refine Met.ofW (cc := cX2_init) (maxL := 1) (ret := none) (by decide) rfl ?_
  intro p e s m args below meth c s₁ B1 hml hv
  obtain ⟨rfl, hsz, hP, hF⟩ := hv
  have hx := B1.exec
  have hb := B1.bytes
  have hr := B1.returns
  have hts : ∀ w ∈ TB, w.before _ s = true := fun w hw => atoms_spec (ws := mWs M_X2_init) B1.pre w (List.mem_cons_of_mem _ hw)
  have hown : s.vm.findClass RX2 = some m.cls := findClass_of_methodNamed B1.named
  have hin : meth.name = "<init>" := (name_of_methodNamed B1.named B1.method).1
  have hH : Hk E B 35 ω s s.heap [] := ⟨hsz, hP, va_S.rf, by omega⟩
  have hl := lv_entry ([.ref (B + 34)]) (n := 1) (Nat.le_of_ble_eq_true rfl)
  rw [lg_entry_eq]
  generalize (lg_sl ([.ref (B + 34)]) ++ List.replicate (1 - (lg_sl ([.ref (B + 34)])).length) Slot.unset).toArray = ls at hl ⊢
  have hl : lv_has ls 1 [(0, .ref (B + 34))] := hl
  refine lv_aload_n hx hb dX2_init_0 rfl (lv_at hl 0 rfl) ?_
  refine W.objInit hx hb hown (hts _ kMo_X2) (hts _ kO_i) (hts _ kO_c) rfl (by rw [hml]; exact hl.1) rfl dX2_init_1 (Nat.le_of_ble_eq_true rfl) (Nat.le_of_ble_eq_true rfl) ?_
  refine W.eq (g2 := F0 m 4 ls []) rfl ?_
  refine lv_aload_n hx hb dX2_init_4 rfl (lv_at hl 0 rfl) ?_
  refine lv_iconst (v := 0) hx hb dX2_init_5 (by decide) ?_
  refine k_put hx hb hts hown hF hin hH (k := 34) (j := 0) (ci := 2) (n := 15) (C := RX2) (T := TX2) (fs := fs_X2) (v := .int 0) (by decide) h0 rfl (by decide) (Nat.le_of_ble_eq_true rfl) kF_X2_9 (fun _ => rfl) rfl rfl dX2_init_6 (fun H locs hH => ?_)
  refine lv_aload_n hx hb dX2_init_9 rfl (lv_at hl 0 rfl) ?_
  refine lv_iconst (v := 0) hx hb dX2_init_10 (by decide) ?_
  refine k_put hx hb hts hown hF hin hH (k := 34) (j := 1) (ci := 2) (n := 15) (C := RX2) (T := TX2) (fs := [.int 0, .int 0, .int 0, .int 0, .int 0, .int 0, .null, .null, .null, .null, .null, .null, .null, .null, .null]) (v := .int 0) (by decide) rfl rfl (by decide) (Nat.le_of_ble_eq_true rfl) kF_X2_15 (fun _ => rfl) rfl rfl dX2_init_11 (fun H locs hH => ?_)
  refine lv_aload_n hx hb dX2_init_14 rfl (lv_at hl 0 rfl) ?_
  refine lv_iconst (v := 0) hx hb dX2_init_15 (by decide) ?_
  refine k_put hx hb hts hown hF hin hH (k := 34) (j := 2) (ci := 2) (n := 15) (C := RX2) (T := TX2) (fs := [.int 0, .int 0, .int 0, .int 0, .int 0, .int 0, .null, .null, .null, .null, .null, .null, .null, .null, .null]) (v := .int 0) (by decide) rfl rfl (by decide) (Nat.le_of_ble_eq_true rfl) kF_X2_18 (fun _ => rfl) rfl rfl dX2_init_16 (fun H locs hH => ?_)
  refine lv_aload_n hx hb dX2_init_19 rfl (lv_at hl 0 rfl) ?_
  refine lv_iconst (v := 0) hx hb dX2_init_20 (by decide) ?_
  refine k_put hx hb hts hown hF hin hH (k := 34) (j := 3) (ci := 2) (n := 15) (C := RX2) (T := TX2) (fs := [.int 0, .int 0, .int 0, .int 0, .int 0, .int 0, .null, .null, .null, .null, .null, .null, .null, .null, .null]) (v := .int 0) (by decide) rfl rfl (by decide) (Nat.le_of_ble_eq_true rfl) kF_X2_21 (fun _ => rfl) rfl rfl dX2_init_21 (fun H locs hH => ?_)
  refine lv_aload_n hx hb dX2_init_24 rfl (lv_at hl 0 rfl) ?_
  refine lv_iconst (v := 0) hx hb dX2_init_25 (by decide) ?_
  refine k_put hx hb hts hown hF hin hH (k := 34) (j := 4) (ci := 2) (n := 15) (C := RX2) (T := TX2) (fs := [.int 0, .int 0, .int 0, .int 0, .int 0, .int 0, .null, .null, .null, .null, .null, .null, .null, .null, .null]) (v := .int 0) (by decide) rfl rfl (by decide) (Nat.le_of_ble_eq_true rfl) kF_X2_24 (fun _ => rfl) rfl rfl dX2_init_26 (fun H locs hH => ?_)
  refine lv_aload_n hx hb dX2_init_29 rfl (lv_at hl 0 rfl) ?_
  refine lv_iconst (v := 0) hx hb dX2_init_30 (by decide) ?_
  refine k_put hx hb hts hown hF hin hH (k := 34) (j := 5) (ci := 2) (n := 15) (C := RX2) (T := TX2) (fs := [.int 0, .int 0, .int 0, .int 0, .int 0, .int 0, .null, .null, .null, .null, .null, .null, .null, .null, .null]) (v := .int 0) (by decide) rfl rfl (by decide) (Nat.le_of_ble_eq_true rfl) kF_X2_27 (fun _ => rfl) rfl rfl dX2_init_31 (fun H locs hH => ?_)
  refine lv_aload_n hx hb dX2_init_34 rfl (lv_at hl 0 rfl) ?_
  refine lv_bipush (v := 6) hx hb dX2_init_35 (by decide) ?_
  refine k_ints hx hb hts hF hH kA_int 6 (by decide) (by decide) (by decide) (Nat.le_of_ble_eq_true rfl) (Nat.le_of_ble_eq_true rfl) dX2_init_37 (fun H hH => ?_)
  refine k_put hx hb hts hown hF hin hH (k := 34) (j := 6) (ci := 2) (n := 15) (C := RX2) (T := TX2) (fs := [.int 0, .int 0, .int 0, .int 0, .int 0, .int 0, .null, .null, .null, .null, .null, .null, .null, .null, .null]) (v := .ref (B + 35)) (by decide) rfl rfl (by decide) (Nat.le_of_ble_eq_true rfl) kF_X2_30 (fun _ => rfl) rfl rfl dX2_init_39 (fun H locs hH => ?_)
  refine lv_aload_n hx hb dX2_init_42 rfl (lv_at hl 0 rfl) ?_
  refine lv_bipush (v := 6) hx hb dX2_init_43 (by decide) ?_
  refine k_ints hx hb hts hF hH kA_int 6 (by decide) (by decide) (by decide) (Nat.le_of_ble_eq_true rfl) (Nat.le_of_ble_eq_true rfl) dX2_init_45 (fun H hH => ?_)
  refine k_put hx hb hts hown hF hin hH (k := 34) (j := 7) (ci := 2) (n := 15) (C := RX2) (T := TX2) (fs := [.int 0, .int 0, .int 0, .int 0, .int 0, .int 0, .ref (B + 35), .null, .null, .null, .null, .null, .null, .null, .null]) (v := .ref (B + 36)) (by decide) rfl rfl (by decide) (Nat.le_of_ble_eq_true rfl) kF_X2_34 (fun _ => rfl) rfl rfl dX2_init_47 (fun H locs hH => ?_)
  refine lv_aload_n hx hb dX2_init_50 rfl (lv_at hl 0 rfl) ?_
  refine lv_bipush (v := 6) hx hb dX2_init_51 (by decide) ?_
  refine k_ints hx hb hts hF hH kA_int 6 (by decide) (by decide) (by decide) (Nat.le_of_ble_eq_true rfl) (Nat.le_of_ble_eq_true rfl) dX2_init_53 (fun H hH => ?_)
  refine k_put hx hb hts hown hF hin hH (k := 34) (j := 8) (ci := 2) (n := 15) (C := RX2) (T := TX2) (fs := [.int 0, .int 0, .int 0, .int 0, .int 0, .int 0, .ref (B + 35), .ref (B + 36), .null, .null, .null, .null, .null, .null, .null]) (v := .ref (B + 37)) (by decide) rfl rfl (by decide) (Nat.le_of_ble_eq_true rfl) kF_X2_37 (fun _ => rfl) rfl rfl dX2_init_55 (fun H locs hH => ?_)
  refine lv_aload_n hx hb dX2_init_58 rfl (lv_at hl 0 rfl) ?_
  refine lv_bipush (v := 8) hx hb dX2_init_59 (by decide) ?_
  refine k_ints hx hb hts hF hH kA_int 8 (by decide) (by decide) (by decide) (Nat.le_of_ble_eq_true rfl) (Nat.le_of_ble_eq_true rfl) dX2_init_61 (fun H hH => ?_)
  refine k_put hx hb hts hown hF hin hH (k := 34) (j := 9) (ci := 2) (n := 15) (C := RX2) (T := TX2) (fs := [.int 0, .int 0, .int 0, .int 0, .int 0, .int 0, .ref (B + 35), .ref (B + 36), .ref (B + 37), .null, .null, .null, .null, .null, .null]) (v := .ref (B + 38)) (by decide) rfl rfl (by decide) (Nat.le_of_ble_eq_true rfl) kF_X2_40 (fun _ => rfl) rfl rfl dX2_init_63 (fun H locs hH => ?_)
  refine lv_aload_n hx hb dX2_init_66 rfl (lv_at hl 0 rfl) ?_
  refine lv_bipush (v := 8) hx hb dX2_init_67 (by decide) ?_
  refine k_ints hx hb hts hF hH kA_int 8 (by decide) (by decide) (by decide) (Nat.le_of_ble_eq_true rfl) (Nat.le_of_ble_eq_true rfl) dX2_init_69 (fun H hH => ?_)
  refine k_put hx hb hts hown hF hin hH (k := 34) (j := 10) (ci := 2) (n := 15) (C := RX2) (T := TX2) (fs := [.int 0, .int 0, .int 0, .int 0, .int 0, .int 0, .ref (B + 35), .ref (B + 36), .ref (B + 37), .ref (B + 38), .null, .null, .null, .null, .null]) (v := .ref (B + 39)) (by decide) rfl rfl (by decide) (Nat.le_of_ble_eq_true rfl) kF_X2_43 (fun _ => rfl) rfl rfl dX2_init_71 (fun H locs hH => ?_)
  refine lv_aload_n hx hb dX2_init_74 rfl (lv_at hl 0 rfl) ?_
  refine lv_bipush (v := 8) hx hb dX2_init_75 (by decide) ?_
  refine k_ints hx hb hts hF hH kA_int 8 (by decide) (by decide) (by decide) (Nat.le_of_ble_eq_true rfl) (Nat.le_of_ble_eq_true rfl) dX2_init_77 (fun H hH => ?_)
  refine k_put hx hb hts hown hF hin hH (k := 34) (j := 11) (ci := 2) (n := 15) (C := RX2) (T := TX2) (fs := [.int 0, .int 0, .int 0, .int 0, .int 0, .int 0, .ref (B + 35), .ref (B + 36), .ref (B + 37), .ref (B + 38), .ref (B + 39), .null, .null, .null, .null]) (v := .ref (B + 40)) (by decide) rfl rfl (by decide) (Nat.le_of_ble_eq_true rfl) kF_X2_46 (fun _ => rfl) rfl rfl dX2_init_79 (fun H locs hH => ?_)
  refine lv_aload_n hx hb dX2_init_82 rfl (lv_at hl 0 rfl) ?_
  refine lv_bipush (v := 6) hx hb dX2_init_83 (by decide) ?_
  refine k_ints hx hb hts hF hH kA_int 6 (by decide) (by decide) (by decide) (Nat.le_of_ble_eq_true rfl) (Nat.le_of_ble_eq_true rfl) dX2_init_85 (fun H hH => ?_)
  refine k_put hx hb hts hown hF hin hH (k := 34) (j := 12) (ci := 2) (n := 15) (C := RX2) (T := TX2) (fs := [.int 0, .int 0, .int 0, .int 0, .int 0, .int 0, .ref (B + 35), .ref (B + 36), .ref (B + 37), .ref (B + 38), .ref (B + 39), .ref (B + 40), .null, .null, .null]) (v := .ref (B + 41)) (by decide) rfl rfl (by decide) (Nat.le_of_ble_eq_true rfl) kF_X2_49 (fun _ => rfl) rfl rfl dX2_init_87 (fun H locs hH => ?_)
  refine lv_aload_n hx hb dX2_init_90 rfl (lv_at hl 0 rfl) ?_
  refine lv_bipush (v := 6) hx hb dX2_init_91 (by decide) ?_
  refine k_ints hx hb hts hF hH kA_int 6 (by decide) (by decide) (by decide) (Nat.le_of_ble_eq_true rfl) (Nat.le_of_ble_eq_true rfl) dX2_init_93 (fun H hH => ?_)
  refine k_put hx hb hts hown hF hin hH (k := 34) (j := 13) (ci := 2) (n := 15) (C := RX2) (T := TX2) (fs := [.int 0, .int 0, .int 0, .int 0, .int 0, .int 0, .ref (B + 35), .ref (B + 36), .ref (B + 37), .ref (B + 38), .ref (B + 39), .ref (B + 40), .ref (B + 41), .null, .null]) (v := .ref (B + 42)) (by decide) rfl rfl (by decide) (Nat.le_of_ble_eq_true rfl) kF_X2_52 (fun _ => rfl) rfl rfl dX2_init_95 (fun H locs hH => ?_)
  refine lv_aload_n hx hb dX2_init_98 rfl (lv_at hl 0 rfl) ?_
  refine lv_bipush (v := 6) hx hb dX2_init_99 (by decide) ?_
  refine k_bools hx hb hts hF hH kA_bool 6 (by decide) (by decide) (by decide) (Nat.le_of_ble_eq_true rfl) (Nat.le_of_ble_eq_true rfl) dX2_init_101 (fun H hH => ?_)
  refine k_put hx hb hts hown hF hin hH (k := 34) (j := 14) (ci := 2) (n := 15) (C := RX2) (T := TX2) (fs := [.int 0, .int 0, .int 0, .int 0, .int 0, .int 0, .ref (B + 35), .ref (B + 36), .ref (B + 37), .ref (B + 38), .ref (B + 39), .ref (B + 40), .ref (B + 41), .ref (B + 42), .null]) (v := .ref (B + 43)) (by decide) rfl rfl (by decide) (Nat.le_of_ble_eq_true rfl) kF_X2_55 (fun _ => rfl) rfl rfl dX2_init_103 (fun H locs hH => ?_)
  exact W.vret hx hb hr (fun t ht hW => ⟨⟨(), rfl, trivial, by rw [ht]; exact hH.1, by rw [ht]; exact hH.2.1⟩, hH.2.2.1.F ht⟩) hH.2.2.1.2.2 dX2_init_106
def w_X0_44 (E : EE) (B : Nat) (ω : OW) : OW := (wo (wo (wo (wo (wo ω 45 (.inl (cI E, 6, .inl (fun _ => 0)))) 44 (.inr (0, [.ref (B + 45), .null, .int 0]))) 46 (.inl (cI E, 6, .inl (fun _ => 0)))) 44 (.inr (0, [.ref (B + 45), .ref (B + 46), .int 0]))) 44 (.inr (0, [.ref (B + 45), .ref (B + 46), .int 0])))
set_option maxHeartbeats 4000000 in
set_option maxRecDepth 100000 in
theorem z_X0_44 (E : EE) (B : Nat) (ω : OW) (h0 : ω 44 = .inr (0, fs_X0)) : Mk E M_X0_init B 45 ω 44 2 12 47 (w_X0_44 E B ω) := by
  refine Met.ofW (cc := cX0_init) (maxL := 1) (ret := none) (by decide) rfl ?_
  intro p e s m args below meth c s₁ B1 hml hv
  obtain ⟨rfl, hsz, hP, hF⟩ := hv
  have hx := B1.exec
  have hb := B1.bytes
  have hr := B1.returns
  have hts : ∀ w ∈ TB, w.before _ s = true := fun w hw => atoms_spec (ws := mWs M_X0_init) B1.pre w (List.mem_cons_of_mem _ hw)
  have hown : s.vm.findClass RX0 = some m.cls := findClass_of_methodNamed B1.named
  have hin : meth.name = "<init>" := (name_of_methodNamed B1.named B1.method).1
  have hH : Hk E B 45 ω s s.heap [] := ⟨hsz, hP, va_S.rf, by omega⟩
  have hl := lv_entry ([.ref (B + 44)]) (n := 1) (Nat.le_of_ble_eq_true rfl)
  rw [lg_entry_eq]
  generalize (lg_sl ([.ref (B + 44)]) ++ List.replicate (1 - (lg_sl ([.ref (B + 44)])).length) Slot.unset).toArray = ls at hl ⊢
  have hl : lv_has ls 1 [(0, .ref (B + 44))] := hl
  refine lv_aload_n hx hb dX0_init_0 rfl (lv_at hl 0 rfl) ?_
  refine W.objInit hx hb hown (hts _ kMo_X0) (hts _ kO_i) (hts _ kO_c) rfl (by rw [hml]; exact hl.1) rfl dX0_init_1 (Nat.le_of_ble_eq_true rfl) (Nat.le_of_ble_eq_true rfl) ?_
  refine W.eq (g2 := F0 m 4 ls []) rfl ?_
  refine lv_aload_n hx hb dX0_init_4 rfl (lv_at hl 0 rfl) ?_
  refine lv_bipush (v := 6) hx hb dX0_init_5 (by decide) ?_
  refine k_ints hx hb hts hF hH kA_int 6 (by decide) (by decide) (by decide) (Nat.le_of_ble_eq_true rfl) (Nat.le_of_ble_eq_true rfl) dX0_init_7 (fun H hH => ?_)
  refine k_put hx hb hts hown hF hin hH (k := 44) (j := 0) (ci := 0) (n := 3) (C := RX0) (T := TX0) (fs := fs_X0) (v := .ref (B + 45)) (by decide) h0 rfl (by decide) (Nat.le_of_ble_eq_true rfl) kF_X0_9 (fun _ => rfl) rfl rfl dX0_init_9 (fun H locs hH => ?_)
  refine lv_aload_n hx hb dX0_init_12 rfl (lv_at hl 0 rfl) ?_
  refine lv_bipush (v := 6) hx hb dX0_init_13 (by decide) ?_
  refine k_ints hx hb hts hF hH kA_int 6 (by decide) (by decide) (by decide) (Nat.le_of_ble_eq_true rfl) (Nat.le_of_ble_eq_true rfl) dX0_init_15 (fun H hH => ?_)
  refine k_put hx hb hts hown hF hin hH (k := 44) (j := 1) (ci := 0) (n := 3) (C := RX0) (T := TX0) (fs := [.ref (B + 45), .null, .int 0]) (v := .ref (B + 46)) (by decide) rfl rfl (by decide) (Nat.le_of_ble_eq_true rfl) kF_X0_15 (fun _ => rfl) rfl rfl dX0_init_17 (fun H locs hH => ?_)
  refine lv_aload_n hx hb dX0_init_20 rfl (lv_at hl 0 rfl) ?_
  refine lv_iconst (v := 0) hx hb dX0_init_21 (by decide) ?_
  refine k_put hx hb hts hown hF hin hH (k := 44) (j := 2) (ci := 0) (n := 3) (C := RX0) (T := TX0) (fs := [.ref (B + 45), .ref (B + 46), .int 0]) (v := .int 0) (by decide) rfl rfl (by decide) (Nat.le_of_ble_eq_true rfl) kF_X0_18 (fun _ => rfl) rfl rfl dX0_init_22 (fun H locs hH => ?_)
  exact W.vret hx hb hr (fun t ht hW => ⟨⟨(), rfl, trivial, by rw [ht]; exact hH.1, by rw [ht]; exact hH.2.1⟩, hH.2.2.1.F ht⟩) hH.2.2.1.2.2 dX0_init_25
def w_X4_47 (E : EE) (B : Nat) (ω : OW) : OW := (wo (wo (wo ω 48 (.inl (cI E, 6, .inl (fun _ => 0)))) 47 (.inr (4, [.ref (B + 48), .int 0]))) 47 (.inr (4, [.ref (B + 48), .int 0])))
set_option maxHeartbeats 4000000 in
set_option maxRecDepth 100000 in
theorem z_X4_47 (E : EE) (B : Nat) (ω : OW) (h0 : ω 47 = .inr (4, fs_X4)) : Mk E M_X4_init B 48 ω 47 1 6 49 (w_X4_47 E B ω) := by
  refine Met.ofW (cc := cX4_init) (maxL := 1) (ret := none) (by decide) rfl ?_
  intro p e s m args below meth c s₁ B1 hml hv
  obtain ⟨rfl, hsz, hP, hF⟩ := hv
  have hx := B1.exec
  have hb := B1.bytes
  have hr := B1.returns
  have hts : ∀ w ∈ TB, w.before _ s = true := fun w hw => atoms_spec (ws := mWs M_X4_init) B1.pre w (List.mem_cons_of_mem _ hw)
  have hown : s.vm.findClass RX4 = some m.cls := findClass_of_methodNamed B1.named
  have hin : meth.name = "<init>" := (name_of_methodNamed B1.named B1.method).1
  have hH : Hk E B 48 ω s s.heap [] := ⟨hsz, hP, va_S.rf, by omega⟩
  have hl := lv_entry ([.ref (B + 47)]) (n := 1) (Nat.le_of_ble_eq_true rfl)
  rw [lg_entry_eq]
  generalize (lg_sl ([.ref (B + 47)]) ++ List.replicate (1 - (lg_sl ([.ref (B + 47)])).length) Slot.unset).toArray = ls at hl ⊢
  have hl : lv_has ls 1 [(0, .ref (B + 47))] := hl
  refine lv_aload_n hx hb dX4_init_0 rfl (lv_at hl 0 rfl) ?_
  refine W.objInit hx hb hown (hts _ kMo_X4) (hts _ kO_i) (hts _ kO_c) rfl (by rw [hml]; exact hl.1) rfl dX4_init_1 (Nat.le_of_ble_eq_true rfl) (Nat.le_of_ble_eq_true rfl) ?_
  refine W.eq (g2 := F0 m 4 ls []) rfl ?_
  refine lv_aload_n hx hb dX4_init_4 rfl (lv_at hl 0 rfl) ?_
  refine lv_bipush (v := 6) hx hb dX4_init_5 (by decide) ?_
  refine k_ints hx hb hts hF hH kA_int 6 (by decide) (by decide) (by decide) (Nat.le_of_ble_eq_true rfl) (Nat.le_of_ble_eq_true rfl) dX4_init_7 (fun H hH => ?_)
  refine k_put hx hb hts hown hF hin hH (k := 47) (j := 0) (ci := 4) (n := 2) (C := RX4) (T := TX4) (fs := fs_X4) (v := .ref (B + 48)) (by decide) h0 rfl (by decide) (Nat.le_of_ble_eq_true rfl) kF_X4_9 (fun _ => rfl) rfl rfl dX4_init_9 (fun H locs hH => ?_)
  refine lv_aload_n hx hb dX4_init_12 rfl (lv_at hl 0 rfl) ?_
  refine lv_iconst (v := 0) hx hb dX4_init_13 (by decide) ?_
  refine k_put hx hb hts hown hF hin hH (k := 47) (j := 1) (ci := 4) (n := 2) (C := RX4) (T := TX4) (fs := [.ref (B + 48), .int 0]) (v := .int 0) (by decide) rfl rfl (by decide) (Nat.le_of_ble_eq_true rfl) kF_X4_15 (fun _ => rfl) rfl rfl dX4_init_14 (fun H locs hH => ?_)
  exact W.vret hx hb hr (fun t ht hW => ⟨⟨(), rfl, trivial, by rw [ht]; exact hH.1, by rw [ht]; exact hH.2.1⟩, hH.2.2.1.F ht⟩) hH.2.2.1.2.2 dX4_init_17
def w_X5_49 (E : EE) (B : Nat) (ω : OW) : OW := (wo (wo (wo (wo (wo (wo (wo (wo (wo (wo (wo ω 50 (.inl (cII E, 2, .inr (.inr (.inr (.inr (fun i => if i < 2 then some (B + 50 + 1 + i) else none))))))) 51 (.inl (cI E, 6, .inl (fun _ => 0)))) 52 (.inl (cI E, 6, .inl (fun _ => 0)))) 49 (.inr (5, [.ref (B + 50), .null, .int 0, .int 0, .int 0]))) 53 (.inl (cII E, 2, .inr (.inr (.inr (.inr (fun i => if i < 2 then some (B + 53 + 1 + i) else none))))))) 54 (.inl (cI E, 6, .inl (fun _ => 0)))) 55 (.inl (cI E, 6, .inl (fun _ => 0)))) 49 (.inr (5, [.ref (B + 50), .ref (B + 53), .int 0, .int 0, .int 0]))) 49 (.inr (5, [.ref (B + 50), .ref (B + 53), .int 0, .int 0, .int 0]))) 49 (.inr (5, [.ref (B + 50), .ref (B + 53), .int 0, .int 0, .int 0]))) 49 (.inr (5, [.ref (B + 50), .ref (B + 53), .int 0, .int 0, .int 0])))
set_option maxHeartbeats 4000000 in
set_option maxRecDepth 100000 in
theorem z_X5_49 (E : EE) (B : Nat) (ω : OW) (h0 : ω 49 = .inr (5, fs_X5)) : Mk E M_X5_init B 50 ω 49 6 28 56 (w_X5_49 E B ω) := by
  refine Met.ofW (cc := cX5_init) (maxL := 1) (ret := none) (by decide) rfl ?_
  intro p e s m args below meth c s₁ B1 hml hv
  obtain ⟨rfl, hsz, hP, hF⟩ := hv
  have hx := B1.exec
  have hb := B1.bytes
  have hr := B1.returns
  have hts : ∀ w ∈ TB, w.before _ s = true := fun w hw => atoms_spec (ws := mWs M_X5_init) B1.pre w (List.mem_cons_of_mem _ hw)
  have hown : s.vm.findClass RX5 = some m.cls := findClass_of_methodNamed B1.named
  have hin : meth.name = "<init>" := (name_of_methodNamed B1.named B1.method).1
  have hH : Hk E B 50 ω s s.heap [] := ⟨hsz, hP, va_S.rf, by omega⟩
  have hl := lv_entry ([.ref (B + 49)]) (n := 1) (Nat.le_of_ble_eq_true rfl)
  rw [lg_entry_eq]
  generalize (lg_sl ([.ref (B + 49)]) ++ List.replicate (1 - (lg_sl ([.ref (B + 49)])).length) Slot.unset).toArray = ls at hl ⊢
  have hl : lv_has ls 1 [(0, .ref (B + 49))] := hl
  refine lv_aload_n hx hb dX5_init_0 rfl (lv_at hl 0 rfl) ?_
  refine W.objInit hx hb hown (hts _ kMo_X5) (hts _ kO_i) (hts _ kO_c) rfl (by rw [hml]; exact hl.1) rfl dX5_init_1 (Nat.le_of_ble_eq_true rfl) (Nat.le_of_ble_eq_true rfl) ?_
  refine W.eq (g2 := F0 m 4 ls []) rfl ?_
  refine lv_aload_n hx hb dX5_init_4 rfl (lv_at hl 0 rfl) ?_
  refine lv_iconst (v := 2) hx hb dX5_init_5 (by decide) ?_
  refine lv_bipush (v := 6) hx hb dX5_init_6 (by decide) ?_
  refine k_mna hx hb hts hown hF hH kC_X5_9 kA_int (Nat.le_of_ble_eq_true rfl) (Nat.le_of_ble_eq_true rfl) dX5_init_8 (fun H hH => ?_)
  refine k_put hx hb hts hown hF hin hH (k := 49) (j := 0) (ci := 5) (n := 5) (C := RX5) (T := TX5) (fs := fs_X5) (v := .ref (B + 50)) (by decide) h0 rfl (by decide) (Nat.le_of_ble_eq_true rfl) kF_X5_11 (fun _ => rfl) rfl rfl dX5_init_12 (fun H locs hH => ?_)
  refine lv_aload_n hx hb dX5_init_15 rfl (lv_at hl 0 rfl) ?_
  refine lv_iconst (v := 2) hx hb dX5_init_16 (by decide) ?_
  refine lv_bipush (v := 6) hx hb dX5_init_17 (by decide) ?_
  refine k_mna hx hb hts hown hF hH kC_X5_9 kA_int (Nat.le_of_ble_eq_true rfl) (Nat.le_of_ble_eq_true rfl) dX5_init_19 (fun H hH => ?_)
  refine k_put hx hb hts hown hF hin hH (k := 49) (j := 1) (ci := 5) (n := 5) (C := RX5) (T := TX5) (fs := [.ref (B + 50), .null, .int 0, .int 0, .int 0]) (v := .ref (B + 53)) (by decide) rfl rfl (by decide) (Nat.le_of_ble_eq_true rfl) kF_X5_16 (fun _ => rfl) rfl rfl dX5_init_23 (fun H locs hH => ?_)
  refine lv_aload_n hx hb dX5_init_26 rfl (lv_at hl 0 rfl) ?_
  refine lv_iconst (v := 0) hx hb dX5_init_27 (by decide) ?_
  refine k_put hx hb hts hown hF hin hH (k := 49) (j := 2) (ci := 5) (n := 5) (C := RX5) (T := TX5) (fs := [.ref (B + 50), .ref (B + 53), .int 0, .int 0, .int 0]) (v := .int 0) (by decide) rfl rfl (by decide) (Nat.le_of_ble_eq_true rfl) kF_X5_19 (fun _ => rfl) rfl rfl dX5_init_28 (fun H locs hH => ?_)
  refine lv_aload_n hx hb dX5_init_31 rfl (lv_at hl 0 rfl) ?_
  refine lv_iconst (v := 0) hx hb dX5_init_32 (by decide) ?_
  refine k_put hx hb hts hown hF hin hH (k := 49) (j := 3) (ci := 5) (n := 5) (C := RX5) (T := TX5) (fs := [.ref (B + 50), .ref (B + 53), .int 0, .int 0, .int 0]) (v := .int 0) (by decide) rfl rfl (by decide) (Nat.le_of_ble_eq_true rfl) kF_X5_23 (fun _ => rfl) rfl rfl dX5_init_33 (fun H locs hH => ?_)
  refine lv_aload_n hx hb dX5_init_36 rfl (lv_at hl 0 rfl) ?_
  refine lv_iconst (v := 0) hx hb dX5_init_37 (by decide) ?_
  refine k_put hx hb hts hown hF hin hH (k := 49) (j := 4) (ci := 5) (n := 5) (C := RX5) (T := TX5) (fs := [.ref (B + 50), .ref (B + 53), .int 0, .int 0, .int 0]) (v := .int 0) (by decide) rfl rfl (by decide) (Nat.le_of_ble_eq_true rfl) kF_X5_26 (fun _ => rfl) rfl rfl dX5_init_38 (fun H locs hH => ?_)
  exact W.vret hx hb hr (fun t ht hW => ⟨⟨(), rfl, trivial, by rw [ht]; exact hH.1, by rw [ht]; exact hH.2.1⟩, hH.2.2.1.F ht⟩) hH.2.2.1.2.2 dX5_init_41
def w_X1_56 (E : EE) (B : Nat) (ω : OW) : OW := (wo (wo (wo (wo (wo (wo (wo ω 57 (.inl (cI E, 6, .inl (fun _ => 0)))) 56 (.inr (1, [.ref (B + 57), .null, .null, .int 0]))) 58 (.inl (cI E, 9, .inl (fun _ => 0)))) 56 (.inr (1, [.ref (B + 57), .ref (B + 58), .null, .int 0]))) 59 (.inl (cI E, 9, .inl (fun _ => 0)))) 56 (.inr (1, [.ref (B + 57), .ref (B + 58), .ref (B + 59), .int 0]))) 56 (.inr (1, [.ref (B + 57), .ref (B + 58), .ref (B + 59), .int 1])))
set_option maxHeartbeats 4000000 in
set_option maxRecDepth 100000 in
theorem z_X1_56 (E : EE) (B : Nat) (ω : OW) (h0 : ω 56 = .inr (1, fs_X1)) : Mk E M_X1_init B 57 ω 56 3 24 60 (w_X1_56 E B ω) := by
  refine Met.ofW (cc := cX1_init) (maxL := 1) (ret := none) (by decide) rfl ?_
  intro p e s m args below meth c s₁ B1 hml hv
  obtain ⟨rfl, hsz, hP, hF⟩ := hv
  have hx := B1.exec
  have hb := B1.bytes
  have hr := B1.returns
  have hts : ∀ w ∈ TB, w.before _ s = true := fun w hw => atoms_spec (ws := mWs M_X1_init) B1.pre w (List.mem_cons_of_mem _ hw)
  have hown : s.vm.findClass RX1 = some m.cls := findClass_of_methodNamed B1.named
  have hin : meth.name = "<init>" := (name_of_methodNamed B1.named B1.method).1
  have hH : Hk E B 57 ω s s.heap [] := ⟨hsz, hP, va_S.rf, by omega⟩
  have hl := lv_entry ([.ref (B + 56)]) (n := 1) (Nat.le_of_ble_eq_true rfl)
  rw [lg_entry_eq]
  generalize (lg_sl ([.ref (B + 56)]) ++ List.replicate (1 - (lg_sl ([.ref (B + 56)])).length) Slot.unset).toArray = ls at hl ⊢
  have hl : lv_has ls 1 [(0, .ref (B + 56))] := hl
  refine lv_aload_n hx hb dX1_init_0 rfl (lv_at hl 0 rfl) ?_
  refine W.objInit hx hb hown (hts _ kMo_X1) (hts _ kO_i) (hts _ kO_c) rfl (by rw [hml]; exact hl.1) rfl dX1_init_1 (Nat.le_of_ble_eq_true rfl) (Nat.le_of_ble_eq_true rfl) ?_
  refine W.eq (g2 := F0 m 4 ls []) rfl ?_
  refine lv_aload_n hx hb dX1_init_4 rfl (lv_at hl 0 rfl) ?_
  refine lv_bipush (v := 6) hx hb dX1_init_5 (by decide) ?_
  refine k_ints hx hb hts hF hH kA_int 6 (by decide) (by decide) (by decide) (Nat.le_of_ble_eq_true rfl) (Nat.le_of_ble_eq_true rfl) dX1_init_7 (fun H hH => ?_)
  refine k_put hx hb hts hown hF hin hH (k := 56) (j := 0) (ci := 1) (n := 4) (C := RX1) (T := TX1) (fs := fs_X1) (v := .ref (B + 57)) (by decide) h0 rfl (by decide) (Nat.le_of_ble_eq_true rfl) kF_X1_9 (fun _ => rfl) rfl rfl dX1_init_9 (fun H locs hH => ?_)
  refine lv_aload_n hx hb dX1_init_12 rfl (lv_at hl 0 rfl) ?_
  refine lv_bipush (v := 9) hx hb dX1_init_13 (by decide) ?_
  refine k_ints hx hb hts hF hH kA_int 9 (by decide) (by decide) (by decide) (Nat.le_of_ble_eq_true rfl) (Nat.le_of_ble_eq_true rfl) dX1_init_15 (fun H hH => ?_)
  refine k_put hx hb hts hown hF hin hH (k := 56) (j := 1) (ci := 1) (n := 4) (C := RX1) (T := TX1) (fs := [.ref (B + 57), .null, .null, .int 0]) (v := .ref (B + 58)) (by decide) rfl rfl (by decide) (Nat.le_of_ble_eq_true rfl) kF_X1_15 (fun _ => rfl) rfl rfl dX1_init_17 (fun H locs hH => ?_)
  refine lv_aload_n hx hb dX1_init_20 rfl (lv_at hl 0 rfl) ?_
  refine lv_bipush (v := 9) hx hb dX1_init_21 (by decide) ?_
  refine k_ints hx hb hts hF hH kA_int 9 (by decide) (by decide) (by decide) (Nat.le_of_ble_eq_true rfl) (Nat.le_of_ble_eq_true rfl) dX1_init_23 (fun H hH => ?_)
  refine k_put hx hb hts hown hF hin hH (k := 56) (j := 2) (ci := 1) (n := 4) (C := RX1) (T := TX1) (fs := [.ref (B + 57), .ref (B + 58), .null, .int 0]) (v := .ref (B + 59)) (by decide) rfl rfl (by decide) (Nat.le_of_ble_eq_true rfl) kF_X1_18 (fun _ => rfl) rfl rfl dX1_init_25 (fun H locs hH => ?_)
  refine lv_aload_n hx hb dX1_init_28 rfl (lv_at hl 0 rfl) ?_
  refine lv_iconst (v := 1) hx hb dX1_init_29 (by decide) ?_
  refine k_put hx hb hts hown hF hin hH (k := 56) (j := 3) (ci := 1) (n := 4) (C := RX1) (T := TX1) (fs := [.ref (B + 57), .ref (B + 58), .ref (B + 59), .int 0]) (v := .int 1) (by decide) rfl rfl (by decide) (Nat.le_of_ble_eq_true rfl) kF_X1_21 (fun _ => rfl) rfl rfl dX1_init_30 (fun H locs hH => ?_)
  exact W.vret hx hb hr (fun t ht hW => ⟨⟨(), rfl, trivial, by rw [ht]; exact hH.1, by rw [ht]; exact hH.2.1⟩, hH.2.2.1.F ht⟩) hH.2.2.1.2.2 dX1_init_33
def w_X3_60 (E : EE) (B : Nat) (ω : OW) : OW := (wo (wo (wo ω 61 (.inl (cI E, 10, .inl (fun _ => 0)))) 60 (.inr (3, [.ref (B + 61), .int 0]))) 60 (.inr (3, [.ref (B + 61), .int 0])))
set_option maxHeartbeats 4000000 in
set_option maxRecDepth 100000 in
theorem z_X3_60 (E : EE) (B : Nat) (ω : OW) (h0 : ω 60 = .inr (3, fs_X3)) : Mk E M_X3_init B 61 ω 60 1 10 62 (w_X3_60 E B ω) := by
  refine Met.ofW (cc := cX3_init) (maxL := 1) (ret := none) (by decide) rfl ?_
  intro p e s m args below meth c s₁ B1 hml hv
  obtain ⟨rfl, hsz, hP, hF⟩ := hv
  have hx := B1.exec
  have hb := B1.bytes
  have hr := B1.returns
  have hts : ∀ w ∈ TB, w.before _ s = true := fun w hw => atoms_spec (ws := mWs M_X3_init) B1.pre w (List.mem_cons_of_mem _ hw)
  have hown : s.vm.findClass RX3 = some m.cls := findClass_of_methodNamed B1.named
  have hin : meth.name = "<init>" := (name_of_methodNamed B1.named B1.method).1
  have hH : Hk E B 61 ω s s.heap [] := ⟨hsz, hP, va_S.rf, by omega⟩
  have hl := lv_entry ([.ref (B + 60)]) (n := 1) (Nat.le_of_ble_eq_true rfl)
  rw [lg_entry_eq]
  generalize (lg_sl ([.ref (B + 60)]) ++ List.replicate (1 - (lg_sl ([.ref (B + 60)])).length) Slot.unset).toArray = ls at hl ⊢
  have hl : lv_has ls 1 [(0, .ref (B + 60))] := hl
  refine lv_aload_n hx hb dX3_init_0 rfl (lv_at hl 0 rfl) ?_
  refine W.objInit hx hb hown (hts _ kMo_X3) (hts _ kO_i) (hts _ kO_c) rfl (by rw [hml]; exact hl.1) rfl dX3_init_1 (Nat.le_of_ble_eq_true rfl) (Nat.le_of_ble_eq_true rfl) ?_
  refine W.eq (g2 := F0 m 4 ls []) rfl ?_
  refine lv_aload_n hx hb dX3_init_4 rfl (lv_at hl 0 rfl) ?_
  refine lv_bipush (v := 10) hx hb dX3_init_5 (by decide) ?_
  refine k_ints hx hb hts hF hH kA_int 10 (by decide) (by decide) (by decide) (Nat.le_of_ble_eq_true rfl) (Nat.le_of_ble_eq_true rfl) dX3_init_7 (fun H hH => ?_)
  refine k_put hx hb hts hown hF hin hH (k := 60) (j := 0) (ci := 3) (n := 2) (C := RX3) (T := TX3) (fs := fs_X3) (v := .ref (B + 61)) (by decide) h0 rfl (by decide) (Nat.le_of_ble_eq_true rfl) kF_X3_9 (fun _ => rfl) rfl rfl dX3_init_9 (fun H locs hH => ?_)
  refine lv_aload_n hx hb dX3_init_12 rfl (lv_at hl 0 rfl) ?_
  refine lv_iconst (v := 0) hx hb dX3_init_13 (by decide) ?_
  refine k_put hx hb hts hown hF hin hH (k := 60) (j := 1) (ci := 3) (n := 2) (C := RX3) (T := TX3) (fs := [.ref (B + 61), .int 0]) (v := .int 0) (by decide) rfl rfl (by decide) (Nat.le_of_ble_eq_true rfl) kF_X3_15 (fun _ => rfl) rfl rfl dX3_init_14 (fun H locs hH => ?_)
  exact W.vret hx hb hr (fun t ht hW => ⟨⟨(), rfl, trivial, by rw [ht]; exact hH.1, by rw [ht]; exact hH.2.1⟩, hH.2.2.1.F ht⟩) hH.2.2.1.2.2 dX3_init_17
def w_X8_62 (E : EE) (B : Nat) (ω : OW) : OW := (wo (wo ω 62 (.inr (8, [.int 0, .int 0]))) 62 (.inr (8, [.int 0, .int 0])))
set_option maxHeartbeats 4000000 in
set_option maxRecDepth 100000 in
theorem z_X8_62 (E : EE) (B : Nat) (ω : OW) (h0 : ω 62 = .inr (8, fs_X8)) : Mk E M_X8_init B 63 ω 62 0 0 63 (w_X8_62 E B ω) := by
  refine Met.ofW (cc := cX8_init) (maxL := 1) (ret := none) (by decide) rfl ?_
  intro p e s m args below meth c s₁ B1 hml hv
  obtain ⟨rfl, hsz, hP, hF⟩ := hv
  have hx := B1.exec
  have hb := B1.bytes
  have hr := B1.returns
  have hts : ∀ w ∈ TB, w.before _ s = true := fun w hw => atoms_spec (ws := mWs M_X8_init) B1.pre w (List.mem_cons_of_mem _ hw)
  have hown : s.vm.findClass RX8 = some m.cls := findClass_of_methodNamed B1.named
  have hin : meth.name = "<init>" := (name_of_methodNamed B1.named B1.method).1
  have hH : Hk E B 63 ω s s.heap [] := ⟨hsz, hP, va_S.rf, by omega⟩
  have hl := lv_entry ([.ref (B + 62)]) (n := 1) (Nat.le_of_ble_eq_true rfl)
  rw [lg_entry_eq]
  generalize (lg_sl ([.ref (B + 62)]) ++ List.replicate (1 - (lg_sl ([.ref (B + 62)])).length) Slot.unset).toArray = ls at hl ⊢
  have hl : lv_has ls 1 [(0, .ref (B + 62))] := hl
  refine lv_aload_n hx hb dX8_init_0 rfl (lv_at hl 0 rfl) ?_
  refine W.objInit hx hb hown (hts _ kMo_X8) (hts _ kO_i) (hts _ kO_c) rfl (by rw [hml]; exact hl.1) rfl dX8_init_1 (Nat.le_of_ble_eq_true rfl) (Nat.le_of_ble_eq_true rfl) ?_
  refine W.eq (g2 := F0 m 4 ls []) rfl ?_
  refine lv_aload_n hx hb dX8_init_4 rfl (lv_at hl 0 rfl) ?_
  refine lv_iconst (v := 0) hx hb dX8_init_5 (by decide) ?_
  refine k_put hx hb hts hown hF hin hH (k := 62) (j := 0) (ci := 8) (n := 2) (C := RX8) (T := TX8) (fs := fs_X8) (v := .int 0) (by decide) h0 rfl (by decide) (Nat.le_of_ble_eq_true rfl) kF_X8_7 (fun _ => rfl) rfl rfl dX8_init_6 (fun H locs hH => ?_)
  refine lv_aload_n hx hb dX8_init_9 rfl (lv_at hl 0 rfl) ?_
  refine lv_iconst (v := 0) hx hb dX8_init_10 (by decide) ?_
  refine k_put hx hb hts hown hF hin hH (k := 62) (j := 1) (ci := 8) (n := 2) (C := RX8) (T := TX8) (fs := [.int 0, .int 0]) (v := .int 0) (by decide) rfl rfl (by decide) (Nat.le_of_ble_eq_true rfl) kF_X8_13 (fun _ => rfl) rfl rfl dX8_init_11 (fun H locs hH => ?_)
  exact W.vret hx hb hr (fun t ht hW => ⟨⟨(), rfl, trivial, by rw [ht]; exact hH.1, by rw [ht]; exact hH.2.1⟩, hH.2.2.1.F ht⟩) hH.2.2.1.2.2 dX8_init_14
def w_X9_0 (E : EE) (B : Nat) (ω : OW) : OW := (wo (wo (wo (wo (w_X8_62 E B (wo (wo (w_X3_60 E B (wo (wo (w_X1_56 E B (wo (wo (w_X5_49 E B (wo (wo (w_X4_47 E B (wo (wo (w_X0_44 E B (wo (wo (w_X2_34 E B (wo (wo (w_X2_24 E B (wo (wo (w_X2_14 E B (wo (wo (w_X7_3 E B (wo (wo (w_X6_1 E B (wo ω 1 (.inr (6, fs_X6)))) 0 (.inr (9, [.ref (B + 1), .null, .null, .null, .null, .null, .null, .null, .null, .null, .null, .int 0, .int 0, .int 0]))) 3 (.inr (7, fs_X7)))) 0 (.inr (9, [.ref (B + 1), .ref (B + 3), .null, .null, .null, .null, .null, .null, .null, .null, .null, .int 0, .int 0, .int 0]))) 14 (.inr (2, fs_X2)))) 0 (.inr (9, [.ref (B + 1), .ref (B + 3), .ref (B + 14), .null, .null, .null, .null, .null, .null, .null, .null, .int 0, .int 0, .int 0]))) 24 (.inr (2, fs_X2)))) 0 (.inr (9, [.ref (B + 1), .ref (B + 3), .ref (B + 14), .ref (B + 24), .null, .null, .null, .null, .null, .null, .null, .int 0, .int 0, .int 0]))) 34 (.inr (2, fs_X2)))) 0 (.inr (9, [.ref (B + 1), .ref (B + 3), .ref (B + 14), .ref (B + 24), .ref (B + 34), .null, .null, .null, .null, .null, .null, .int 0, .int 0, .int 0]))) 44 (.inr (0, fs_X0)))) 0 (.inr (9, [.ref (B + 1), .ref (B + 3), .ref (B + 14), .ref (B + 24), .ref (B + 34), .ref (B + 44), .null, .null, .null, .null, .null, .int 0, .int 0, .int 0]))) 47 (.inr (4, fs_X4)))) 0 (.inr (9, [.ref (B + 1), .ref (B + 3), .ref (B + 14), .ref (B + 24), .ref (B + 34), .ref (B + 44), .ref (B + 47), .null, .null, .null, .null, .int 0, .int 0, .int 0]))) 49 (.inr (5, fs_X5)))) 0 (.inr (9, [.ref (B + 1), .ref (B + 3), .ref (B + 14), .ref (B + 24), .ref (B + 34), .ref (B + 44), .ref (B + 47), .ref (B + 49), .null, .null, .null, .int 0, .int 0, .int 0]))) 56 (.inr (1, fs_X1)))) 0 (.inr (9, [.ref (B + 1), .ref (B + 3), .ref (B + 14), .ref (B + 24), .ref (B + 34), .ref (B + 44), .ref (B + 47), .ref (B + 49), .ref (B + 56), .null, .null, .int 0, .int 0, .int 0]))) 60 (.inr (3, fs_X3)))) 0 (.inr (9, [.ref (B + 1), .ref (B + 3), .ref (B + 14), .ref (B + 24), .ref (B + 34), .ref (B + 44), .ref (B + 47), .ref (B + 49), .ref (B + 56), .ref (B + 60), .null, .int 0, .int 0, .int 0]))) 62 (.inr (8, fs_X8)))) 0 (.inr (9, [.ref (B + 1), .ref (B + 3), .ref (B + 14), .ref (B + 24), .ref (B + 34), .ref (B + 44), .ref (B + 47), .ref (B + 49), .ref (B + 56), .ref (B + 60), .ref (B + 62), .int 0, .int 0, .int 0]))) 0 (.inr (9, [.ref (B + 1), .ref (B + 3), .ref (B + 14), .ref (B + 24), .ref (B + 34), .ref (B + 44), .ref (B + 47), .ref (B + 49), .ref (B + 56), .ref (B + 60), .ref (B + 62), .int 0, .int 0, .int 0]))) 0 (.inr (9, [.ref (B + 1), .ref (B + 3), .ref (B + 14), .ref (B + 24), .ref (B + 34), .ref (B + 44), .ref (B + 47), .ref (B + 49), .ref (B + 56), .ref (B + 60), .ref (B + 62), .int 0, .int 0, .int 0]))) 0 (.inr (9, [.ref (B + 1), .ref (B + 3), .ref (B + 14), .ref (B + 24), .ref (B + 34), .ref (B + 44), .ref (B + 47), .ref (B + 49), .ref (B + 56), .ref (B + 60), .ref (B + 62), .int 0, .int 0, .int 0])))
set_option maxHeartbeats 4000000 in
set_option maxRecDepth 100000 in
theorem z_X9_0 (E : EE) (B : Nat) (ω : OW) (h0 : ω 0 = .inr (9, fs_X9)) : Mk E M_X9_init B 1 ω 0 62 456 63 (w_X9_0 E B ω) := by
  refine Met.ofW (cc := cX9_init) (maxL := 1) (ret := none) (by decide) rfl ?_
  intro p e s m args below meth c s₁ B1 hml hv
  obtain ⟨rfl, hsz, hP, hF⟩ := hv
  have hx := B1.exec
  have hb := B1.bytes
  have hr := B1.returns
  have hts : ∀ w ∈ TB, w.before _ s = true := fun w hw => atoms_spec (ws := mWs M_X9_init) B1.pre w (List.mem_cons_of_mem _ hw)
  have hown : s.vm.findClass RX9 = some m.cls := findClass_of_methodNamed B1.named
  have hin : meth.name = "<init>" := (name_of_methodNamed B1.named B1.method).1
  have hH : Hk E B 1 ω s s.heap [] := ⟨hsz, hP, va_S.rf, by omega⟩
  have hl := lv_entry ([.ref (B + 0)]) (n := 1) (Nat.le_of_ble_eq_true rfl)
  rw [lg_entry_eq]
  generalize (lg_sl ([.ref (B + 0)]) ++ List.replicate (1 - (lg_sl ([.ref (B + 0)])).length) Slot.unset).toArray = ls at hl ⊢
  have hl : lv_has ls 1 [(0, .ref (B + 0))] := hl
  refine lv_aload_n hx hb dX9_init_0 rfl (lv_at hl 0 rfl) ?_
  refine W.objInit hx hb hown (hts _ kMo_X9) (hts _ kO_i) (hts _ kO_c) rfl (by rw [hml]; exact hl.1) rfl dX9_init_1 (Nat.le_of_ble_eq_true rfl) (Nat.le_of_ble_eq_true rfl) ?_
  refine W.eq (g2 := F0 m 4 ls []) rfl ?_
  refine lv_aload_n hx hb dX9_init_4 rfl (lv_at hl 0 rfl) ?_
  refine k_new hx hb hts hown hF hH (ci := 6) (C := RX6) (T := TX6) (n := 2) rfl kC_X9_7 kI_X6 kV_X6 df_X6 (Nat.le_of_ble_eq_true rfl) (Nat.le_of_ble_eq_true rfl) dX9_init_5 (fun H hH => ?_)
  refine lv_dup hx hb dX9_init_8 rfl ?_
  refine k_call (M2 := M_X6_init) (z_X6_1 E B _ rfl) hx hb hml hl.1 hts hown hF hH kc_X6_init ki_X6_init rfl rfl (Or.inr ⟨_, kN_X9_9⟩) (Nat.le_of_ble_eq_true rfl) ⟨(Nat.le_of_ble_eq_true rfl), (Nat.le_of_ble_eq_true rfl)⟩ ⟨(Nat.le_of_ble_eq_true rfl), (Nat.le_of_ble_eq_true rfl)⟩ dX9_init_9 (fun H locs hH => ?_)
  refine k_put hx hb hts hown hF hin hH (k := 0) (j := 0) (ci := 9) (n := 14) (C := RX9) (T := TX9) (fs := fs_X9) (v := .ref (B + 1)) (by decide) h0 rfl (by decide) (Nat.le_of_ble_eq_true rfl) kF_X9_10 (fun _ => rfl) rfl rfl dX9_init_12 (fun H locs hH => ?_)
  refine lv_aload_n hx hb dX9_init_15 rfl (lv_at hl 0 rfl) ?_
  refine k_new hx hb hts hown hF hH (ci := 7) (C := RX7) (T := TX7) (n := 2) rfl kC_X9_16 kI_X7 kV_X7 df_X7 (Nat.le_of_ble_eq_true rfl) (Nat.le_of_ble_eq_true rfl) dX9_init_16 (fun H hH => ?_)
  refine lv_dup hx hb dX9_init_19 rfl ?_
  refine k_call (M2 := M_X7_init) (z_X7_3 E B _ rfl) hx hb hml hl.1 hts hown hF hH kc_X7_init ki_X7_init rfl rfl (Or.inr ⟨_, kN_X9_18⟩) (Nat.le_of_ble_eq_true rfl) ⟨(Nat.le_of_ble_eq_true rfl), (Nat.le_of_ble_eq_true rfl)⟩ ⟨(Nat.le_of_ble_eq_true rfl), (Nat.le_of_ble_eq_true rfl)⟩ dX9_init_20 (fun H locs hH => ?_)
  refine k_put hx hb hts hown hF hin hH (k := 0) (j := 1) (ci := 9) (n := 14) (C := RX9) (T := TX9) (fs := [.ref (B + 1), .null, .null, .null, .null, .null, .null, .null, .null, .null, .null, .int 0, .int 0, .int 0]) (v := .ref (B + 3)) (by decide) rfl rfl (by decide) (Nat.le_of_ble_eq_true rfl) kF_X9_19 (fun _ => rfl) rfl rfl dX9_init_23 (fun H locs hH => ?_)
  refine lv_aload_n hx hb dX9_init_26 rfl (lv_at hl 0 rfl) ?_
  refine k_new hx hb hts hown hF hH (ci := 2) (C := RX2) (T := TX2) (n := 15) rfl kC_X9_23 kI_X2 kV_X2 df_X2 (Nat.le_of_ble_eq_true rfl) (Nat.le_of_ble_eq_true rfl) dX9_init_27 (fun H hH => ?_)
  refine lv_dup hx hb dX9_init_30 rfl ?_
  refine k_call (M2 := M_X2_init) (z_X2_14 E B _ rfl) hx hb hml hl.1 hts hown hF hH kc_X2_init ki_X2_init rfl rfl (Or.inr ⟨_, kN_X9_25⟩) (Nat.le_of_ble_eq_true rfl) ⟨(Nat.le_of_ble_eq_true rfl), (Nat.le_of_ble_eq_true rfl)⟩ ⟨(Nat.le_of_ble_eq_true rfl), (Nat.le_of_ble_eq_true rfl)⟩ dX9_init_31 (fun H locs hH => ?_)
  refine k_put hx hb hts hown hF hin hH (k := 0) (j := 2) (ci := 9) (n := 14) (C := RX9) (T := TX9) (fs := [.ref (B + 1), .ref (B + 3), .null, .null, .null, .null, .null, .null, .null, .null, .null, .int 0, .int 0, .int 0]) (v := .ref (B + 14)) (by decide) rfl rfl (by decide) (Nat.le_of_ble_eq_true rfl) kF_X9_26 (fun _ => rfl) rfl rfl dX9_init_34 (fun H locs hH => ?_)
  refine lv_aload_n hx hb dX9_init_37 rfl (lv_at hl 0 rfl) ?_
  refine k_new hx hb hts hown hF hH (ci := 2) (C := RX2) (T := TX2) (n := 15) rfl kC_X9_23 kI_X2 kV_X2 df_X2 (Nat.le_of_ble_eq_true rfl) (Nat.le_of_ble_eq_true rfl) dX9_init_38 (fun H hH => ?_)
  refine lv_dup hx hb dX9_init_41 rfl ?_
  refine k_call (M2 := M_X2_init) (z_X2_24 E B _ rfl) hx hb hml hl.1 hts hown hF hH kc_X2_init ki_X2_init rfl rfl (Or.inr ⟨_, kN_X9_25⟩) (Nat.le_of_ble_eq_true rfl) ⟨(Nat.le_of_ble_eq_true rfl), (Nat.le_of_ble_eq_true rfl)⟩ ⟨(Nat.le_of_ble_eq_true rfl), (Nat.le_of_ble_eq_true rfl)⟩ dX9_init_42 (fun H locs hH => ?_)
  refine k_put hx hb hts hown hF hin hH (k := 0) (j := 3) (ci := 9) (n := 14) (C := RX9) (T := TX9) (fs := [.ref (B + 1), .ref (B + 3), .ref (B + 14), .null, .null, .null, .null, .null, .null, .null, .null, .int 0, .int 0, .int 0]) (v := .ref (B + 24)) (by decide) rfl rfl (by decide) (Nat.le_of_ble_eq_true rfl) kF_X9_30 (fun _ => rfl) rfl rfl dX9_init_45 (fun H locs hH => ?_)
  refine lv_aload_n hx hb dX9_init_48 rfl (lv_at hl 0 rfl) ?_
  refine k_new hx hb hts hown hF hH (ci := 2) (C := RX2) (T := TX2) (n := 15) rfl kC_X9_23 kI_X2 kV_X2 df_X2 (Nat.le_of_ble_eq_true rfl) (Nat.le_of_ble_eq_true rfl) dX9_init_49 (fun H hH => ?_)
  refine lv_dup hx hb dX9_init_52 rfl ?_
  refine k_call (M2 := M_X2_init) (z_X2_34 E B _ rfl) hx hb hml hl.1 hts hown hF hH kc_X2_init ki_X2_init rfl rfl (Or.inr ⟨_, kN_X9_25⟩) (Nat.le_of_ble_eq_true rfl) ⟨(Nat.le_of_ble_eq_true rfl), (Nat.le_of_ble_eq_true rfl)⟩ ⟨(Nat.le_of_ble_eq_true rfl), (Nat.le_of_ble_eq_true rfl)⟩ dX9_init_53 (fun H locs hH => ?_)
  refine k_put hx hb hts hown hF hin hH (k := 0) (j := 4) (ci := 9) (n := 14) (C := RX9) (T := TX9) (fs := [.ref (B + 1), .ref (B + 3), .ref (B + 14), .ref (B + 24), .null, .null, .null, .null, .null, .null, .null, .int 0, .int 0, .int 0]) (v := .ref (B + 34)) (by decide) rfl rfl (by decide) (Nat.le_of_ble_eq_true rfl) kF_X9_33 (fun _ => rfl) rfl rfl dX9_init_56 (fun H locs hH => ?_)
  refine lv_aload_n hx hb dX9_init_59 rfl (lv_at hl 0 rfl) ?_
  refine k_new hx hb hts hown hF hH (ci := 0) (C := RX0) (T := TX0) (n := 3) rfl kC_X9_36 kI_X0 kV_X0 df_X0 (Nat.le_of_ble_eq_true rfl) (Nat.le_of_ble_eq_true rfl) dX9_init_60 (fun H hH => ?_)
  refine lv_dup hx hb dX9_init_63 rfl ?_
  refine k_call (M2 := M_X0_init) (z_X0_44 E B _ rfl) hx hb hml hl.1 hts hown hF hH kc_X0_init ki_X0_init rfl rfl (Or.inr ⟨_, kN_X9_38⟩) (Nat.le_of_ble_eq_true rfl) ⟨(Nat.le_of_ble_eq_true rfl), (Nat.le_of_ble_eq_true rfl)⟩ ⟨(Nat.le_of_ble_eq_true rfl), (Nat.le_of_ble_eq_true rfl)⟩ dX9_init_64 (fun H locs hH => ?_)
  refine k_put hx hb hts hown hF hin hH (k := 0) (j := 5) (ci := 9) (n := 14) (C := RX9) (T := TX9) (fs := [.ref (B + 1), .ref (B + 3), .ref (B + 14), .ref (B + 24), .ref (B + 34), .null, .null, .null, .null, .null, .null, .int 0, .int 0, .int 0]) (v := .ref (B + 44)) (by decide) rfl rfl (by decide) (Nat.le_of_ble_eq_true rfl) kF_X9_39 (fun _ => rfl) rfl rfl dX9_init_67 (fun H locs hH => ?_)
  refine lv_aload_n hx hb dX9_init_70 rfl (lv_at hl 0 rfl) ?_
  refine k_new hx hb hts hown hF hH (ci := 4) (C := RX4) (T := TX4) (n := 2) rfl kC_X9_43 kI_X4 kV_X4 df_X4 (Nat.le_of_ble_eq_true rfl) (Nat.le_of_ble_eq_true rfl) dX9_init_71 (fun H hH => ?_)
  refine lv_dup hx hb dX9_init_74 rfl ?_
  refine k_call (M2 := M_X4_init) (z_X4_47 E B _ rfl) hx hb hml hl.1 hts hown hF hH kc_X4_init ki_X4_init rfl rfl (Or.inr ⟨_, kN_X9_45⟩) (Nat.le_of_ble_eq_true rfl) ⟨(Nat.le_of_ble_eq_true rfl), (Nat.le_of_ble_eq_true rfl)⟩ ⟨(Nat.le_of_ble_eq_true rfl), (Nat.le_of_ble_eq_true rfl)⟩ dX9_init_75 (fun H locs hH => ?_)
  refine k_put hx hb hts hown hF hin hH (k := 0) (j := 6) (ci := 9) (n := 14) (C := RX9) (T := TX9) (fs := [.ref (B + 1), .ref (B + 3), .ref (B + 14), .ref (B + 24), .ref (B + 34), .ref (B + 44), .null, .null, .null, .null, .null, .int 0, .int 0, .int 0]) (v := .ref (B + 47)) (by decide) rfl rfl (by decide) (Nat.le_of_ble_eq_true rfl) kF_X9_46 (fun _ => rfl) rfl rfl dX9_init_78 (fun H locs hH => ?_)
  refine lv_aload_n hx hb dX9_init_81 rfl (lv_at hl 0 rfl) ?_
  refine k_new hx hb hts hown hF hH (ci := 5) (C := RX5) (T := TX5) (n := 5) rfl kC_X9_50 kI_X5 kV_X5 df_X5 (Nat.le_of_ble_eq_true rfl) (Nat.le_of_ble_eq_true rfl) dX9_init_82 (fun H hH => ?_)
  refine lv_dup hx hb dX9_init_85 rfl ?_
  refine k_call (M2 := M_X5_init) (z_X5_49 E B _ rfl) hx hb hml hl.1 hts hown hF hH kc_X5_init ki_X5_init rfl rfl (Or.inr ⟨_, kN_X9_52⟩) (Nat.le_of_ble_eq_true rfl) ⟨(Nat.le_of_ble_eq_true rfl), (Nat.le_of_ble_eq_true rfl)⟩ ⟨(Nat.le_of_ble_eq_true rfl), (Nat.le_of_ble_eq_true rfl)⟩ dX9_init_86 (fun H locs hH => ?_)
  refine k_put hx hb hts hown hF hin hH (k := 0) (j := 7) (ci := 9) (n := 14) (C := RX9) (T := TX9) (fs := [.ref (B + 1), .ref (B + 3), .ref (B + 14), .ref (B + 24), .ref (B + 34), .ref (B + 44), .ref (B + 47), .null, .null, .null, .null, .int 0, .int 0, .int 0]) (v := .ref (B + 49)) (by decide) rfl rfl (by decide) (Nat.le_of_ble_eq_true rfl) kF_X9_53 (fun _ => rfl) rfl rfl dX9_init_89 (fun H locs hH => ?_)
  refine lv_aload_n hx hb dX9_init_92 rfl (lv_at hl 0 rfl) ?_
  refine k_new hx hb hts hown hF hH (ci := 1) (C := RX1) (T := TX1) (n := 4) rfl kC_X9_57 kI_X1 kV_X1 df_X1 (Nat.le_of_ble_eq_true rfl) (Nat.le_of_ble_eq_true rfl) dX9_init_93 (fun H hH => ?_)
  refine lv_dup hx hb dX9_init_96 rfl ?_
  refine k_call (M2 := M_X1_init) (z_X1_56 E B _ rfl) hx hb hml hl.1 hts hown hF hH kc_X1_init ki_X1_init rfl rfl (Or.inr ⟨_, kN_X9_59⟩) (Nat.le_of_ble_eq_true rfl) ⟨(Nat.le_of_ble_eq_true rfl), (Nat.le_of_ble_eq_true rfl)⟩ ⟨(Nat.le_of_ble_eq_true rfl), (Nat.le_of_ble_eq_true rfl)⟩ dX9_init_97 (fun H locs hH => ?_)
  refine k_put hx hb hts hown hF hin hH (k := 0) (j := 8) (ci := 9) (n := 14) (C := RX9) (T := TX9) (fs := [.ref (B + 1), .ref (B + 3), .ref (B + 14), .ref (B + 24), .ref (B + 34), .ref (B + 44), .ref (B + 47), .ref (B + 49), .null, .null, .null, .int 0, .int 0, .int 0]) (v := .ref (B + 56)) (by decide) rfl rfl (by decide) (Nat.le_of_ble_eq_true rfl) kF_X9_60 (fun _ => rfl) rfl rfl dX9_init_100 (fun H locs hH => ?_)
  refine lv_aload_n hx hb dX9_init_103 rfl (lv_at hl 0 rfl) ?_
  refine k_new hx hb hts hown hF hH (ci := 3) (C := RX3) (T := TX3) (n := 2) rfl kC_X9_64 kI_X3 kV_X3 df_X3 (Nat.le_of_ble_eq_true rfl) (Nat.le_of_ble_eq_true rfl) dX9_init_104 (fun H hH => ?_)
  refine lv_dup hx hb dX9_init_107 rfl ?_
  refine k_call (M2 := M_X3_init) (z_X3_60 E B _ rfl) hx hb hml hl.1 hts hown hF hH kc_X3_init ki_X3_init rfl rfl (Or.inr ⟨_, kN_X9_66⟩) (Nat.le_of_ble_eq_true rfl) ⟨(Nat.le_of_ble_eq_true rfl), (Nat.le_of_ble_eq_true rfl)⟩ ⟨(Nat.le_of_ble_eq_true rfl), (Nat.le_of_ble_eq_true rfl)⟩ dX9_init_108 (fun H locs hH => ?_)
  refine k_put hx hb hts hown hF hin hH (k := 0) (j := 9) (ci := 9) (n := 14) (C := RX9) (T := TX9) (fs := [.ref (B + 1), .ref (B + 3), .ref (B + 14), .ref (B + 24), .ref (B + 34), .ref (B + 44), .ref (B + 47), .ref (B + 49), .ref (B + 56), .null, .null, .int 0, .int 0, .int 0]) (v := .ref (B + 60)) (by decide) rfl rfl (by decide) (Nat.le_of_ble_eq_true rfl) kF_X9_67 (fun _ => rfl) rfl rfl dX9_init_111 (fun H locs hH => ?_)
  refine lv_aload_n hx hb dX9_init_114 rfl (lv_at hl 0 rfl) ?_
  refine k_new hx hb hts hown hF hH (ci := 8) (C := RX8) (T := TX8) (n := 2) rfl kC_X9_71 kI_X8 kV_X8 df_X8 (Nat.le_of_ble_eq_true rfl) (Nat.le_of_ble_eq_true rfl) dX9_init_115 (fun H hH => ?_)
  refine lv_dup hx hb dX9_init_118 rfl ?_
  refine k_call (M2 := M_X8_init) (z_X8_62 E B _ rfl) hx hb hml hl.1 hts hown hF hH kc_X8_init ki_X8_init rfl rfl (Or.inr ⟨_, kN_X9_73⟩) (Nat.le_of_ble_eq_true rfl) ⟨(Nat.le_of_ble_eq_true rfl), (Nat.le_of_ble_eq_true rfl)⟩ ⟨(Nat.le_of_ble_eq_true rfl), (Nat.le_of_ble_eq_true rfl)⟩ dX9_init_119 (fun H locs hH => ?_)
  refine k_put hx hb hts hown hF hin hH (k := 0) (j := 10) (ci := 9) (n := 14) (C := RX9) (T := TX9) (fs := [.ref (B + 1), .ref (B + 3), .ref (B + 14), .ref (B + 24), .ref (B + 34), .ref (B + 44), .ref (B + 47), .ref (B + 49), .ref (B + 56), .ref (B + 60), .null, .int 0, .int 0, .int 0]) (v := .ref (B + 62)) (by decide) rfl rfl (by decide) (Nat.le_of_ble_eq_true rfl) kF_X9_74 (fun _ => rfl) rfl rfl dX9_init_122 (fun H locs hH => ?_)
  refine lv_aload_n hx hb dX9_init_125 rfl (lv_at hl 0 rfl) ?_
  refine lv_iconst (v := 0) hx hb dX9_init_126 (by decide) ?_
  refine k_put hx hb hts hown hF hin hH (k := 0) (j := 11) (ci := 9) (n := 14) (C := RX9) (T := TX9) (fs := [.ref (B + 1), .ref (B + 3), .ref (B + 14), .ref (B + 24), .ref (B + 34), .ref (B + 44), .ref (B + 47), .ref (B + 49), .ref (B + 56), .ref (B + 60), .ref (B + 62), .int 0, .int 0, .int 0]) (v := .int 0) (by decide) rfl rfl (by decide) (Nat.le_of_ble_eq_true rfl) kF_X9_78 (fun _ => rfl) rfl rfl dX9_init_127 (fun H locs hH => ?_)
  refine lv_aload_n hx hb dX9_init_130 rfl (lv_at hl 0 rfl) ?_
  refine lv_iconst (v := 0) hx hb dX9_init_131 (by decide) ?_
  refine k_put hx hb hts hown hF hin hH (k := 0) (j := 12) (ci := 9) (n := 14) (C := RX9) (T := TX9) (fs := [.ref (B + 1), .ref (B + 3), .ref (B + 14), .ref (B + 24), .ref (B + 34), .ref (B + 44), .ref (B + 47), .ref (B + 49), .ref (B + 56), .ref (B + 60), .ref (B + 62), .int 0, .int 0, .int 0]) (v := .int 0) (by decide) rfl rfl (by decide) (Nat.le_of_ble_eq_true rfl) kF_X9_82 (fun _ => rfl) rfl rfl dX9_init_132 (fun H locs hH => ?_)
  refine lv_aload_n hx hb dX9_init_135 rfl (lv_at hl 0 rfl) ?_
  refine lv_iconst (v := 0) hx hb dX9_init_136 (by decide) ?_
  refine k_put hx hb hts hown hF hin hH (k := 0) (j := 13) (ci := 9) (n := 14) (C := RX9) (T := TX9) (fs := [.ref (B + 1), .ref (B + 3), .ref (B + 14), .ref (B + 24), .ref (B + 34), .ref (B + 44), .ref (B + 47), .ref (B + 49), .ref (B + 56), .ref (B + 60), .ref (B + 62), .int 0, .int 0, .int 0]) (v := .int 0) (by decide) rfl rfl (by decide) (Nat.le_of_ble_eq_true rfl) kF_X9_86 (fun _ => rfl) rfl rfl dX9_init_137 (fun H locs hH => ?_)
  exact W.vret hx hb hr (fun t ht hW => ⟨⟨(), rfl, trivial, by rw [ht]; exact hH.1, by rw [ht]; exact hH.2.1⟩, hH.2.2.1.F ht⟩) hH.2.2.1.2.2 dX9_init_140
def w_X10_63 (E : EE) (B : Nat) (ω : OW) : OW := (wo (wo (wo (wo (wo (wo (wo (wo (wo (wo (wo (wo (wo (wo (wo (wo (wo (wo (wo (wo (wo (wo (wo (wo (wo (wo (wo (wo (wo (wo (wo ω 64 (.inl (cI E, 54, .inl (fun _ => 0)))) 63 (.inr (10, [.ref (B + 64), .int 0, .int 0, .int 0, .int 0, .int 0, .int 0, .int 0, .int 0, .null, .null, .null, .null, .null, .null, .null, .null, .int 0, .int 0, .int 0, .int 0, .null, .int 0, .int 0, .int 0, .int 0, .int 0, .int 0, .null, .null, .null, .null, .null, .long 0]))) 65 (.inl (cI E, 6, .inl (fun _ => 0)))) 63 (.inr (10, [.ref (B + 64), .int 0, .int 0, .int 0, .int 0, .int 0, .int 0, .int 0, .int 0, .ref (B + 65), .null, .null, .null, .null, .null, .null, .null, .int 0, .int 0, .int 0, .int 0, .null, .int 0, .int 0, .int 0, .int 0, .int 0, .int 0, .null, .null, .null, .null, .null, .long 0]))) 66 (.inl (cI E, 6, .inl (fun _ => 0)))) 63 (.inr (10, [.ref (B + 64), .int 0, .int 0, .int 0, .int 0, .int 0, .int 0, .int 0, .int 0, .ref (B + 65), .ref (B + 66), .null, .null, .null, .null, .null, .null, .int 0, .int 0, .int 0, .int 0, .null, .int 0, .int 0, .int 0, .int 0, .int 0, .int 0, .null, .null, .null, .null, .null, .long 0]))) 67 (.inl (cI E, 6, .inl (fun _ => 0)))) 63 (.inr (10, [.ref (B + 64), .int 0, .int 0, .int 0, .int 0, .int 0, .int 0, .int 0, .int 0, .ref (B + 65), .ref (B + 66), .ref (B + 67), .null, .null, .null, .null, .null, .int 0, .int 0, .int 0, .int 0, .null, .int 0, .int 0, .int 0, .int 0, .int 0, .int 0, .null, .null, .null, .null, .null, .long 0]))) 68 (.inl (cI E, 8, .inl (fun _ => 0)))) 63 (.inr (10, [.ref (B + 64), .int 0, .int 0, .int 0, .int 0, .int 0, .int 0, .int 0, .int 0, .ref (B + 65), .ref (B + 66), .ref (B + 67), .ref (B + 68), .null, .null, .null, .null, .int 0, .int 0, .int 0, .int 0, .null, .int 0, .int 0, .int 0, .int 0, .int 0, .int 0, .null, .null, .null, .null, .null, .long 0]))) 69 (.inl (cI E, 8, .inl (fun _ => 0)))) 63 (.inr (10, [.ref (B + 64), .int 0, .int 0, .int 0, .int 0, .int 0, .int 0, .int 0, .int 0, .ref (B + 65), .ref (B + 66), .ref (B + 67), .ref (B + 68), .ref (B + 69), .null, .null, .null, .int 0, .int 0, .int 0, .int 0, .null, .int 0, .int 0, .int 0, .int 0, .int 0, .int 0, .null, .null, .null, .null, .null, .long 0]))) 70 (.inl (cI E, 8, .inl (fun _ => 0)))) 63 (.inr (10, [.ref (B + 64), .int 0, .int 0, .int 0, .int 0, .int 0, .int 0, .int 0, .int 0, .ref (B + 65), .ref (B + 66), .ref (B + 67), .ref (B + 68), .ref (B + 69), .ref (B + 70), .null, .null, .int 0, .int 0, .int 0, .int 0, .null, .int 0, .int 0, .int 0, .int 0, .int 0, .int 0, .null, .null, .null, .null, .null, .long 0]))) 71 (.inl (cI E, 6, .inl (fun _ => 0)))) 63 (.inr (10, [.ref (B + 64), .int 0, .int 0, .int 0, .int 0, .int 0, .int 0, .int 0, .int 0, .ref (B + 65), .ref (B + 66), .ref (B + 67), .ref (B + 68), .ref (B + 69), .ref (B + 70), .ref (B + 71), .null, .int 0, .int 0, .int 0, .int 0, .null, .int 0, .int 0, .int 0, .int 0, .int 0, .int 0, .null, .null, .null, .null, .null, .long 0]))) 72 (.inl (cI E, 6, .inl (fun _ => 0)))) 63 (.inr (10, [.ref (B + 64), .int 0, .int 0, .int 0, .int 0, .int 0, .int 0, .int 0, .int 0, .ref (B + 65), .ref (B + 66), .ref (B + 67), .ref (B + 68), .ref (B + 69), .ref (B + 70), .ref (B + 71), .ref (B + 72), .int 0, .int 0, .int 0, .int 0, .null, .int 0, .int 0, .int 0, .int 0, .int 0, .int 0, .null, .null, .null, .null, .null, .long 0]))) 73 (.inl (cI E, 18, .inl (fun _ => 0)))) 63 (.inr (10, [.ref (B + 64), .int 0, .int 0, .int 0, .int 0, .int 0, .int 0, .int 0, .int 0, .ref (B + 65), .ref (B + 66), .ref (B + 67), .ref (B + 68), .ref (B + 69), .ref (B + 70), .ref (B + 71), .ref (B + 72), .int 0, .int 0, .int 0, .int 0, .ref (B + 73), .int 0, .int 0, .int 0, .int 0, .int 0, .int 0, .null, .null, .null, .null, .null, .long 0]))) 74 (.inl (cI E, 6, .inl (fun _ => 0)))) 63 (.inr (10, [.ref (B + 64), .int 0, .int 0, .int 0, .int 0, .int 0, .int 0, .int 0, .int 0, .ref (B + 65), .ref (B + 66), .ref (B + 67), .ref (B + 68), .ref (B + 69), .ref (B + 70), .ref (B + 71), .ref (B + 72), .int 0, .int 0, .int 0, .int 0, .ref (B + 73), .int 0, .int 0, .int 0, .int 0, .int 0, .int 0, .ref (B + 74), .null, .null, .null, .null, .long 0]))) 75 (.inl (cI E, 6, .inl (fun _ => 0)))) 63 (.inr (10, [.ref (B + 64), .int 0, .int 0, .int 0, .int 0, .int 0, .int 0, .int 0, .int 0, .ref (B + 65), .ref (B + 66), .ref (B + 67), .ref (B + 68), .ref (B + 69), .ref (B + 70), .ref (B + 71), .ref (B + 72), .int 0, .int 0, .int 0, .int 0, .ref (B + 73), .int 0, .int 0, .int 0, .int 0, .int 0, .int 0, .ref (B + 74), .ref (B + 75), .null, .null, .null, .long 0]))) 76 (.inl (cI E, 6, .inl (fun _ => 0)))) 63 (.inr (10, [.ref (B + 64), .int 0, .int 0, .int 0, .int 0, .int 0, .int 0, .int 0, .int 0, .ref (B + 65), .ref (B + 66), .ref (B + 67), .ref (B + 68), .ref (B + 69), .ref (B + 70), .ref (B + 71), .ref (B + 72), .int 0, .int 0, .int 0, .int 0, .ref (B + 73), .int 0, .int 0, .int 0, .int 0, .int 0, .int 0, .ref (B + 74), .ref (B + 75), .ref (B + 76), .null, .null, .long 0]))) 77 (.inl (cI E, 8, .inl (fun _ => 0)))) 63 (.inr (10, [.ref (B + 64), .int 0, .int 0, .int 0, .int 0, .int 0, .int 0, .int 0, .int 0, .ref (B + 65), .ref (B + 66), .ref (B + 67), .ref (B + 68), .ref (B + 69), .ref (B + 70), .ref (B + 71), .ref (B + 72), .int 0, .int 0, .int 0, .int 0, .ref (B + 73), .int 0, .int 0, .int 0, .int 0, .int 0, .int 0, .ref (B + 74), .ref (B + 75), .ref (B + 76), .ref (B + 77), .null, .long 0]))) 78 (.inl (cI E, 18, .inl (fun _ => 0)))) 63 (.inr (10, [.ref (B + 64), .int 0, .int 0, .int 0, .int 0, .int 0, .int 0, .int 0, .int 0, .ref (B + 65), .ref (B + 66), .ref (B + 67), .ref (B + 68), .ref (B + 69), .ref (B + 70), .ref (B + 71), .ref (B + 72), .int 0, .int 0, .int 0, .int 0, .ref (B + 73), .int 0, .int 0, .int 0, .int 0, .int 0, .int 0, .ref (B + 74), .ref (B + 75), .ref (B + 76), .ref (B + 77), .ref (B + 78), .long 0]))) 63 (.inr (10, [.ref (B + 64), .int 0, .int 0, .int 0, .int 0, .int 0, .int 0, .int 0, .int 0, .ref (B + 65), .ref (B + 66), .ref (B + 67), .ref (B + 68), .ref (B + 69), .ref (B + 70), .ref (B + 71), .ref (B + 72), .int 0, .int 0, .int 0, .int 0, .ref (B + 73), .int 0, .int (-1), .int 0, .int 0, .int 0, .int 0, .ref (B + 74), .ref (B + 75), .ref (B + 76), .ref (B + 77), .ref (B + 78), .long 0])))
set_option maxHeartbeats 4000000 in
set_option maxRecDepth 100000 in
theorem z_X10_63 (E : EE) (B : Nat) (ω : OW) (h0 : ω 63 = .inr (10, fs_X10)) : Mk E M_X10_init B 64 ω 63 15 170 79 (w_X10_63 E B ω) := by
  refine Met.ofW (cc := cX10_init) (maxL := 1) (ret := none) (by decide) rfl ?_
  intro p e s m args below meth c s₁ B1 hml hv
  obtain ⟨rfl, hsz, hP, hF⟩ := hv
  have hx := B1.exec
  have hb := B1.bytes
  have hr := B1.returns
  have hts : ∀ w ∈ TB, w.before _ s = true := fun w hw => atoms_spec (ws := mWs M_X10_init) B1.pre w (List.mem_cons_of_mem _ hw)
  have hown : s.vm.findClass RX10 = some m.cls := findClass_of_methodNamed B1.named
  have hin : meth.name = "<init>" := (name_of_methodNamed B1.named B1.method).1
  have hH : Hk E B 64 ω s s.heap [] := ⟨hsz, hP, va_S.rf, by omega⟩
  have hl := lv_entry ([.ref (B + 63)]) (n := 1) (Nat.le_of_ble_eq_true rfl)
  rw [lg_entry_eq]
  generalize (lg_sl ([.ref (B + 63)]) ++ List.replicate (1 - (lg_sl ([.ref (B + 63)])).length) Slot.unset).toArray = ls at hl ⊢
  have hl : lv_has ls 1 [(0, .ref (B + 63))] := hl
  refine lv_aload_n hx hb dX10_init_0 rfl (lv_at hl 0 rfl) ?_
  refine W.objInit hx hb hown (hts _ kMo_X10) (hts _ kO_i) (hts _ kO_c) rfl (by rw [hml]; exact hl.1) rfl dX10_init_1 (Nat.le_of_ble_eq_true rfl) (Nat.le_of_ble_eq_true rfl) ?_
  refine W.eq (g2 := F0 m 4 ls []) rfl ?_
  refine lv_aload_n hx hb dX10_init_4 rfl (lv_at hl 0 rfl) ?_
  refine lv_bipush (v := 54) hx hb dX10_init_5 (by decide) ?_
  refine k_ints hx hb hts hF hH kA_int 54 (by decide) (by decide) (by decide) (Nat.le_of_ble_eq_true rfl) (Nat.le_of_ble_eq_true rfl) dX10_init_7 (fun H hH => ?_)
  refine k_put hx hb hts hown hF hin hH (k := 63) (j := 0) (ci := 10) (n := 34) (C := RX10) (T := TX10) (fs := fs_X10) (v := .ref (B + 64)) (by decide) h0 rfl (by decide) (Nat.le_of_ble_eq_true rfl) kF_X10_7 (fun _ => rfl) rfl rfl dX10_init_9 (fun H locs hH => ?_)
  refine lv_aload_n hx hb dX10_init_12 rfl (lv_at hl 0 rfl) ?_
  refine lv_bipush (v := 6) hx hb dX10_init_13 (by decide) ?_
  refine k_ints hx hb hts hF hH kA_int 6 (by decide) (by decide) (by decide) (Nat.le_of_ble_eq_true rfl) (Nat.le_of_ble_eq_true rfl) dX10_init_15 (fun H hH => ?_)
  refine k_put hx hb hts hown hF hin hH (k := 63) (j := 9) (ci := 10) (n := 34) (C := RX10) (T := TX10) (fs := [.ref (B + 64), .int 0, .int 0, .int 0, .int 0, .int 0, .int 0, .int 0, .int 0, .null, .null, .null, .null, .null, .null, .null, .null, .int 0, .int 0, .int 0, .int 0, .null, .int 0, .int 0, .int 0, .int 0, .int 0, .int 0, .null, .null, .null, .null, .null, .long 0]) (v := .ref (B + 65)) (by decide) rfl rfl (by decide) (Nat.le_of_ble_eq_true rfl) kF_X10_13 (fun _ => rfl) rfl rfl dX10_init_17 (fun H locs hH => ?_)
  refine lv_aload_n hx hb dX10_init_20 rfl (lv_at hl 0 rfl) ?_
  refine lv_bipush (v := 6) hx hb dX10_init_21 (by decide) ?_
  refine k_ints hx hb hts hF hH kA_int 6 (by decide) (by decide) (by decide) (Nat.le_of_ble_eq_true rfl) (Nat.le_of_ble_eq_true rfl) dX10_init_23 (fun H hH => ?_)
  refine k_put hx hb hts hown hF hin hH (k := 63) (j := 10) (ci := 10) (n := 34) (C := RX10) (T := TX10) (fs := [.ref (B + 64), .int 0, .int 0, .int 0, .int 0, .int 0, .int 0, .int 0, .int 0, .ref (B + 65), .null, .null, .null, .null, .null, .null, .null, .int 0, .int 0, .int 0, .int 0, .null, .int 0, .int 0, .int 0, .int 0, .int 0, .int 0, .null, .null, .null, .null, .null, .long 0]) (v := .ref (B + 66)) (by decide) rfl rfl (by decide) (Nat.le_of_ble_eq_true rfl) kF_X10_16 (fun _ => rfl) rfl rfl dX10_init_25 (fun H locs hH => ?_)
  refine lv_aload_n hx hb dX10_init_28 rfl (lv_at hl 0 rfl) ?_
  refine lv_bipush (v := 6) hx hb dX10_init_29 (by decide) ?_
  refine k_ints hx hb hts hF hH kA_int 6 (by decide) (by decide) (by decide) (Nat.le_of_ble_eq_true rfl) (Nat.le_of_ble_eq_true rfl) dX10_init_31 (fun H hH => ?_)
  refine k_put hx hb hts hown hF hin hH (k := 63) (j := 11) (ci := 10) (n := 34) (C := RX10) (T := TX10) (fs := [.ref (B + 64), .int 0, .int 0, .int 0, .int 0, .int 0, .int 0, .int 0, .int 0, .ref (B + 65), .ref (B + 66), .null, .null, .null, .null, .null, .null, .int 0, .int 0, .int 0, .int 0, .null, .int 0, .int 0, .int 0, .int 0, .int 0, .int 0, .null, .null, .null, .null, .null, .long 0]) (v := .ref (B + 67)) (by decide) rfl rfl (by decide) (Nat.le_of_ble_eq_true rfl) kF_X10_19 (fun _ => rfl) rfl rfl dX10_init_33 (fun H locs hH => ?_)
  refine lv_aload_n hx hb dX10_init_36 rfl (lv_at hl 0 rfl) ?_
  refine lv_bipush (v := 8) hx hb dX10_init_37 (by decide) ?_
  refine k_ints hx hb hts hF hH kA_int 8 (by decide) (by decide) (by decide) (Nat.le_of_ble_eq_true rfl) (Nat.le_of_ble_eq_true rfl) dX10_init_39 (fun H hH => ?_)
  refine k_put hx hb hts hown hF hin hH (k := 63) (j := 12) (ci := 10) (n := 34) (C := RX10) (T := TX10) (fs := [.ref (B + 64), .int 0, .int 0, .int 0, .int 0, .int 0, .int 0, .int 0, .int 0, .ref (B + 65), .ref (B + 66), .ref (B + 67), .null, .null, .null, .null, .null, .int 0, .int 0, .int 0, .int 0, .null, .int 0, .int 0, .int 0, .int 0, .int 0, .int 0, .null, .null, .null, .null, .null, .long 0]) (v := .ref (B + 68)) (by decide) rfl rfl (by decide) (Nat.le_of_ble_eq_true rfl) kF_X10_22 (fun _ => rfl) rfl rfl dX10_init_41 (fun H locs hH => ?_)
  refine lv_aload_n hx hb dX10_init_44 rfl (lv_at hl 0 rfl) ?_
  refine lv_bipush (v := 8) hx hb dX10_init_45 (by decide) ?_
  refine k_ints hx hb hts hF hH kA_int 8 (by decide) (by decide) (by decide) (Nat.le_of_ble_eq_true rfl) (Nat.le_of_ble_eq_true rfl) dX10_init_47 (fun H hH => ?_)
  refine k_put hx hb hts hown hF hin hH (k := 63) (j := 13) (ci := 10) (n := 34) (C := RX10) (T := TX10) (fs := [.ref (B + 64), .int 0, .int 0, .int 0, .int 0, .int 0, .int 0, .int 0, .int 0, .ref (B + 65), .ref (B + 66), .ref (B + 67), .ref (B + 68), .null, .null, .null, .null, .int 0, .int 0, .int 0, .int 0, .null, .int 0, .int 0, .int 0, .int 0, .int 0, .int 0, .null, .null, .null, .null, .null, .long 0]) (v := .ref (B + 69)) (by decide) rfl rfl (by decide) (Nat.le_of_ble_eq_true rfl) kF_X10_25 (fun _ => rfl) rfl rfl dX10_init_49 (fun H locs hH => ?_)
  refine lv_aload_n hx hb dX10_init_52 rfl (lv_at hl 0 rfl) ?_
  refine lv_bipush (v := 8) hx hb dX10_init_53 (by decide) ?_
  refine k_ints hx hb hts hF hH kA_int 8 (by decide) (by decide) (by decide) (Nat.le_of_ble_eq_true rfl) (Nat.le_of_ble_eq_true rfl) dX10_init_55 (fun H hH => ?_)
  refine k_put hx hb hts hown hF hin hH (k := 63) (j := 14) (ci := 10) (n := 34) (C := RX10) (T := TX10) (fs := [.ref (B + 64), .int 0, .int 0, .int 0, .int 0, .int 0, .int 0, .int 0, .int 0, .ref (B + 65), .ref (B + 66), .ref (B + 67), .ref (B + 68), .ref (B + 69), .null, .null, .null, .int 0, .int 0, .int 0, .int 0, .null, .int 0, .int 0, .int 0, .int 0, .int 0, .int 0, .null, .null, .null, .null, .null, .long 0]) (v := .ref (B + 70)) (by decide) rfl rfl (by decide) (Nat.le_of_ble_eq_true rfl) kF_X10_28 (fun _ => rfl) rfl rfl dX10_init_57 (fun H locs hH => ?_)
  refine lv_aload_n hx hb dX10_init_60 rfl (lv_at hl 0 rfl) ?_
  refine lv_bipush (v := 6) hx hb dX10_init_61 (by decide) ?_
  refine k_ints hx hb hts hF hH kA_int 6 (by decide) (by decide) (by decide) (Nat.le_of_ble_eq_true rfl) (Nat.le_of_ble_eq_true rfl) dX10_init_63 (fun H hH => ?_)
  refine k_put hx hb hts hown hF hin hH (k := 63) (j := 15) (ci := 10) (n := 34) (C := RX10) (T := TX10) (fs := [.ref (B + 64), .int 0, .int 0, .int 0, .int 0, .int 0, .int 0, .int 0, .int 0, .ref (B + 65), .ref (B + 66), .ref (B + 67), .ref (B + 68), .ref (B + 69), .ref (B + 70), .null, .null, .int 0, .int 0, .int 0, .int 0, .null, .int 0, .int 0, .int 0, .int 0, .int 0, .int 0, .null, .null, .null, .null, .null, .long 0]) (v := .ref (B + 71)) (by decide) rfl rfl (by decide) (Nat.le_of_ble_eq_true rfl) kF_X10_31 (fun _ => rfl) rfl rfl dX10_init_65 (fun H locs hH => ?_)
  refine lv_aload_n hx hb dX10_init_68 rfl (lv_at hl 0 rfl) ?_
  refine lv_bipush (v := 6) hx hb dX10_init_69 (by decide) ?_
  refine k_ints hx hb hts hF hH kA_int 6 (by decide) (by decide) (by decide) (Nat.le_of_ble_eq_true rfl) (Nat.le_of_ble_eq_true rfl) dX10_init_71 (fun H hH => ?_)
  refine k_put hx hb hts hown hF hin hH (k := 63) (j := 16) (ci := 10) (n := 34) (C := RX10) (T := TX10) (fs := [.ref (B + 64), .int 0, .int 0, .int 0, .int 0, .int 0, .int 0, .int 0, .int 0, .ref (B + 65), .ref (B + 66), .ref (B + 67), .ref (B + 68), .ref (B + 69), .ref (B + 70), .ref (B + 71), .null, .int 0, .int 0, .int 0, .int 0, .null, .int 0, .int 0, .int 0, .int 0, .int 0, .int 0, .null, .null, .null, .null, .null, .long 0]) (v := .ref (B + 72)) (by decide) rfl rfl (by decide) (Nat.le_of_ble_eq_true rfl) kF_X10_34 (fun _ => rfl) rfl rfl dX10_init_73 (fun H locs hH => ?_)
  refine lv_aload_n hx hb dX10_init_76 rfl (lv_at hl 0 rfl) ?_
  refine lv_bipush (v := 18) hx hb dX10_init_77 (by decide) ?_
  refine k_ints hx hb hts hF hH kA_int 18 (by decide) (by decide) (by decide) (Nat.le_of_ble_eq_true rfl) (Nat.le_of_ble_eq_true rfl) dX10_init_79 (fun H hH => ?_)
  refine k_put hx hb hts hown hF hin hH (k := 63) (j := 21) (ci := 10) (n := 34) (C := RX10) (T := TX10) (fs := [.ref (B + 64), .int 0, .int 0, .int 0, .int 0, .int 0, .int 0, .int 0, .int 0, .ref (B + 65), .ref (B + 66), .ref (B + 67), .ref (B + 68), .ref (B + 69), .ref (B + 70), .ref (B + 71), .ref (B + 72), .int 0, .int 0, .int 0, .int 0, .null, .int 0, .int 0, .int 0, .int 0, .int 0, .int 0, .null, .null, .null, .null, .null, .long 0]) (v := .ref (B + 73)) (by decide) rfl rfl (by decide) (Nat.le_of_ble_eq_true rfl) kF_X10_37 (fun _ => rfl) rfl rfl dX10_init_81 (fun H locs hH => ?_)
  refine lv_aload_n hx hb dX10_init_84 rfl (lv_at hl 0 rfl) ?_
  refine lv_bipush (v := 6) hx hb dX10_init_85 (by decide) ?_
  refine k_ints hx hb hts hF hH kA_int 6 (by decide) (by decide) (by decide) (Nat.le_of_ble_eq_true rfl) (Nat.le_of_ble_eq_true rfl) dX10_init_87 (fun H hH => ?_)
  refine k_put hx hb hts hown hF hin hH (k := 63) (j := 28) (ci := 10) (n := 34) (C := RX10) (T := TX10) (fs := [.ref (B + 64), .int 0, .int 0, .int 0, .int 0, .int 0, .int 0, .int 0, .int 0, .ref (B + 65), .ref (B + 66), .ref (B + 67), .ref (B + 68), .ref (B + 69), .ref (B + 70), .ref (B + 71), .ref (B + 72), .int 0, .int 0, .int 0, .int 0, .ref (B + 73), .int 0, .int 0, .int 0, .int 0, .int 0, .int 0, .null, .null, .null, .null, .null, .long 0]) (v := .ref (B + 74)) (by decide) rfl rfl (by decide) (Nat.le_of_ble_eq_true rfl) kF_X10_40 (fun _ => rfl) rfl rfl dX10_init_89 (fun H locs hH => ?_)
  refine lv_aload_n hx hb dX10_init_92 rfl (lv_at hl 0 rfl) ?_
  refine lv_bipush (v := 6) hx hb dX10_init_93 (by decide) ?_
  refine k_ints hx hb hts hF hH kA_int 6 (by decide) (by decide) (by decide) (Nat.le_of_ble_eq_true rfl) (Nat.le_of_ble_eq_true rfl) dX10_init_95 (fun H hH => ?_)
  refine k_put hx hb hts hown hF hin hH (k := 63) (j := 29) (ci := 10) (n := 34) (C := RX10) (T := TX10) (fs := [.ref (B + 64), .int 0, .int 0, .int 0, .int 0, .int 0, .int 0, .int 0, .int 0, .ref (B + 65), .ref (B + 66), .ref (B + 67), .ref (B + 68), .ref (B + 69), .ref (B + 70), .ref (B + 71), .ref (B + 72), .int 0, .int 0, .int 0, .int 0, .ref (B + 73), .int 0, .int 0, .int 0, .int 0, .int 0, .int 0, .ref (B + 74), .null, .null, .null, .null, .long 0]) (v := .ref (B + 75)) (by decide) rfl rfl (by decide) (Nat.le_of_ble_eq_true rfl) kF_X10_43 (fun _ => rfl) rfl rfl dX10_init_97 (fun H locs hH => ?_)
  refine lv_aload_n hx hb dX10_init_100 rfl (lv_at hl 0 rfl) ?_
  refine lv_bipush (v := 6) hx hb dX10_init_101 (by decide) ?_
  refine k_ints hx hb hts hF hH kA_int 6 (by decide) (by decide) (by decide) (Nat.le_of_ble_eq_true rfl) (Nat.le_of_ble_eq_true rfl) dX10_init_103 (fun H hH => ?_)
  refine k_put hx hb hts hown hF hin hH (k := 63) (j := 30) (ci := 10) (n := 34) (C := RX10) (T := TX10) (fs := [.ref (B + 64), .int 0, .int 0, .int 0, .int 0, .int 0, .int 0, .int 0, .int 0, .ref (B + 65), .ref (B + 66), .ref (B + 67), .ref (B + 68), .ref (B + 69), .ref (B + 70), .ref (B + 71), .ref (B + 72), .int 0, .int 0, .int 0, .int 0, .ref (B + 73), .int 0, .int 0, .int 0, .int 0, .int 0, .int 0, .ref (B + 74), .ref (B + 75), .null, .null, .null, .long 0]) (v := .ref (B + 76)) (by decide) rfl rfl (by decide) (Nat.le_of_ble_eq_true rfl) kF_X10_46 (fun _ => rfl) rfl rfl dX10_init_105 (fun H locs hH => ?_)
  refine lv_aload_n hx hb dX10_init_108 rfl (lv_at hl 0 rfl) ?_
  refine lv_bipush (v := 8) hx hb dX10_init_109 (by decide) ?_
  refine k_ints hx hb hts hF hH kA_int 8 (by decide) (by decide) (by decide) (Nat.le_of_ble_eq_true rfl) (Nat.le_of_ble_eq_true rfl) dX10_init_111 (fun H hH => ?_)
  refine k_put hx hb hts hown hF hin hH (k := 63) (j := 31) (ci := 10) (n := 34) (C := RX10) (T := TX10) (fs := [.ref (B + 64), .int 0, .int 0, .int 0, .int 0, .int 0, .int 0, .int 0, .int 0, .ref (B + 65), .ref (B + 66), .ref (B + 67), .ref (B + 68), .ref (B + 69), .ref (B + 70), .ref (B + 71), .ref (B + 72), .int 0, .int 0, .int 0, .int 0, .ref (B + 73), .int 0, .int 0, .int 0, .int 0, .int 0, .int 0, .ref (B + 74), .ref (B + 75), .ref (B + 76), .null, .null, .long 0]) (v := .ref (B + 77)) (by decide) rfl rfl (by decide) (Nat.le_of_ble_eq_true rfl) kF_X10_49 (fun _ => rfl) rfl rfl dX10_init_113 (fun H locs hH => ?_)
  refine lv_aload_n hx hb dX10_init_116 rfl (lv_at hl 0 rfl) ?_
  refine lv_bipush (v := 18) hx hb dX10_init_117 (by decide) ?_
  refine k_ints hx hb hts hF hH kA_int 18 (by decide) (by decide) (by decide) (Nat.le_of_ble_eq_true rfl) (Nat.le_of_ble_eq_true rfl) dX10_init_119 (fun H hH => ?_)
  refine k_put hx hb hts hown hF hin hH (k := 63) (j := 32) (ci := 10) (n := 34) (C := RX10) (T := TX10) (fs := [.ref (B + 64), .int 0, .int 0, .int 0, .int 0, .int 0, .int 0, .int 0, .int 0, .ref (B + 65), .ref (B + 66), .ref (B + 67), .ref (B + 68), .ref (B + 69), .ref (B + 70), .ref (B + 71), .ref (B + 72), .int 0, .int 0, .int 0, .int 0, .ref (B + 73), .int 0, .int 0, .int 0, .int 0, .int 0, .int 0, .ref (B + 74), .ref (B + 75), .ref (B + 76), .ref (B + 77), .null, .long 0]) (v := .ref (B + 78)) (by decide) rfl rfl (by decide) (Nat.le_of_ble_eq_true rfl) kF_X10_52 (fun _ => rfl) rfl rfl dX10_init_121 (fun H locs hH => ?_)
  refine lv_aload_n hx hb dX10_init_124 rfl (lv_at hl 0 rfl) ?_
  refine lv_iconst (v := (-1)) hx hb dX10_init_125 (by decide) ?_
  refine k_put hx hb hts hown hF hin hH (k := 63) (j := 23) (ci := 10) (n := 34) (C := RX10) (T := TX10) (fs := [.ref (B + 64), .int 0, .int 0, .int 0, .int 0, .int 0, .int 0, .int 0, .int 0, .ref (B + 65), .ref (B + 66), .ref (B + 67), .ref (B + 68), .ref (B + 69), .ref (B + 70), .ref (B + 71), .ref (B + 72), .int 0, .int 0, .int 0, .int 0, .ref (B + 73), .int 0, .int 0, .int 0, .int 0, .int 0, .int 0, .ref (B + 74), .ref (B + 75), .ref (B + 76), .ref (B + 77), .ref (B + 78), .long 0]) (v := .int (-1)) (by decide) rfl rfl (by decide) (Nat.le_of_ble_eq_true rfl) kF_X10_55 (fun _ => rfl) rfl rfl dX10_init_126 (fun H locs hH => ?_)
  exact W.vret hx hb hr (fun t ht hW => ⟨⟨(), rfl, trivial, by rw [ht]; exact hH.1, by rw [ht]; exact hH.2.1⟩, hH.2.2.1.F ht⟩) hH.2.2.1.2.2 dX10_init_129
