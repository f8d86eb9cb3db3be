def r_X10_countOf_0 (E : EE) (x1 : Int32) (σ : Mm) (Q : Int32 → Mm → Prop) : Prop := Rn E M_X10_countOf 0 [(0, .ref (Ad E 63)), (1, .int x1)] [] σ (qi Q)
set_option maxRecDepth 20000 in
set_option maxHeartbeats 4000000 in
theorem s_X10_countOf_0 (E : EE) (x1 : Int32) (σ : Mm) (Q : Int32 → Mm → Prop) (h : ((x1 = 0 → Q (σ 63 3) σ) ∧ (x1 = 1 → Q (σ 63 4) σ) ∧ (x1 = 2 → Q (σ 63 5) σ) ∧ (x1 = 3 → r_X10_sitsNow_0 E  σ (fun r6 τ5 => r_X10_ones_0 E r6 τ5 (fun r8 τ7 => Q r8 τ7))) ∧ (x1 = 4 → r_X10_warmAll_66_0 E  σ (fun r11 τ10 => Q r11 τ10)) ∧ (x1 = 5 → r_X10_guiltAll_0 E  σ (fun r14 τ13 => Q r14 τ13)) ∧ (x1 = 6 → r_X10_ones_0 E (σ 63 6) σ (fun r17 τ16 => Q r17 τ16)) ∧ (x1 = 7 → Q (σ 63 7) σ) ∧ (x1 = 8 → r_X10_warmAll_67_0 E  σ (fun r21 τ20 => Q r21 τ20)) ∧ (x1 = 9 → Q (σ 63 20) σ) ∧ (x1 = 10 → Q (σ 63 1) σ) ∧ (x1 = 11 → Q (σ 63 8) σ) ∧ (x1 = 12 → Q (σ 63 17) σ) ∧ (¬ x1 = 0 → ¬ x1 = 1 → ¬ x1 = 2 → ¬ x1 = 3 → ¬ x1 = 4 → ¬ x1 = 5 → ¬ x1 = 6 → ¬ x1 = 7 → ¬ x1 = 8 → ¬ x1 = 9 → ¬ x1 = 10 → ¬ x1 = 11 → ¬ x1 = 12 → Q (-102) σ))) : r_X10_countOf_0 E x1 σ Q := by
  intro p e R s m args below meth c Z cells slots H locs ls C0 hH hl hret
  have hx := C0.1
  have hb : c.code = cX10_countOf := C0.2.1
  have hl : lv_has ls 2 [(0, .ref (Ad E 63)), (1, .int x1)] := hl
  refine lv_iload_n hx hb dX10_countOf_0 rfl (lv_at hl 1 rfl) ?_
  by_cases hs1 : x1 = 0
  · have h := h.1 hs1
    refine m_tin (v := 0) (tgt := 68) C0 dX10_countOf_1 hs1 (by decide) (by decide) rfl (by decide) ?_
    refine lv_aload_n hx hb dX10_countOf_68 rfl (lv_at hl 0 rfl) ?_
    refine m_geti (x := σ 63 3) C0 hH f_63_3 kF_X10_103 dX10_countOf_69 rfl ?_
    exact hret (some (.int (σ 63 3))) _ _ _ _ _ ⟨_, rfl, h⟩ hH ⟨dX10_countOf_72, .int, rfl, rfl⟩
  have h := h.2
  by_cases hs2 : x1 = 1
  · have h := h.1 hs2
    refine m_tin (v := 1) (tgt := 73) C0 dX10_countOf_1 hs2 (by decide) (by decide) rfl (by decide) ?_
    refine lv_aload_n hx hb dX10_countOf_73 rfl (lv_at hl 0 rfl) ?_
    refine m_geti (x := σ 63 4) C0 hH f_63_4 kF_X10_106 dX10_countOf_74 rfl ?_
    exact hret (some (.int (σ 63 4))) _ _ _ _ _ ⟨_, rfl, h⟩ hH ⟨dX10_countOf_77, .int, rfl, rfl⟩
  have h := h.2
  by_cases hs3 : x1 = 2
  · have h := h.1 hs3
    refine m_tin (v := 2) (tgt := 78) C0 dX10_countOf_1 hs3 (by decide) (by decide) rfl (by decide) ?_
    refine lv_aload_n hx hb dX10_countOf_78 rfl (lv_at hl 0 rfl) ?_
    refine m_geti (x := σ 63 5) C0 hH f_63_5 kF_X10_100 dX10_countOf_79 rfl ?_
    exact hret (some (.int (σ 63 5))) _ _ _ _ _ ⟨_, rfl, h⟩ hH ⟨dX10_countOf_82, .int, rfl, rfl⟩
  have h := h.2
  by_cases hs4 : x1 = 3
  · have h := h.1 hs4
    refine m_tin (v := 3) (tgt := 83) C0 dX10_countOf_1 hs4 (by decide) (by decide) rfl (by decide) ?_
    refine lv_aload_n hx hb dX10_countOf_83 rfl (lv_at hl 0 rfl) ?_
    refine m_cV (M2 := M_X10_sitsNow) (As := []) (rest := []) h C0 hH hl kc_X10_sitsNow ki_X10_sitsNow kx_X10_sitsNow ob_63 kM_X10_128 rfl (Nat.le_of_ble_eq_true rfl) (Nat.le_of_ble_eq_true rfl) ⟨Nat.le_of_ble_eq_true rfl, Nat.le_of_ble_eq_true rfl⟩ dX10_countOf_84 rfl (fun r τ5 H locs hq hH => ?_)
    obtain ⟨r6, rfl, h⟩ := hq
    refine m_cS (M2 := M_X10_ones) (As := [.int r6]) (rest := []) h C0 hH hl kc_X10_ones ks_X10_ones kM_X10_172 rfl (Nat.le_of_ble_eq_true rfl) (Nat.le_of_ble_eq_true rfl) ⟨Nat.le_of_ble_eq_true rfl, Nat.le_of_ble_eq_true rfl⟩ dX10_countOf_87 rfl (fun r τ7 H locs hq hH => ?_)
    obtain ⟨r8, rfl, h⟩ := hq
    exact hret (some (.int r8)) _ _ _ _ _ ⟨_, rfl, h⟩ hH ⟨dX10_countOf_90, .int, rfl, rfl⟩
  have h := h.2
  by_cases hs9 : x1 = 4
  · have h := h.1 hs9
    refine m_tin (v := 4) (tgt := 91) C0 dX10_countOf_1 hs9 (by decide) (by decide) rfl (by decide) ?_
    refine lv_aload_n hx hb dX10_countOf_91 rfl (lv_at hl 0 rfl) ?_
    refine lv_aload_n hx hb dX10_countOf_92 rfl (lv_at hl 0 rfl) ?_
    refine m_getr C0 hH f_63_10 66 rfl kF_X10_16 dX10_countOf_93 ?_
    refine m_cV (M2 := M_X10_warmAll) (As := [.ref (Ad E 66)]) (rest := []) h C0 hH hl kc_X10_warmAll ki_X10_warmAll kx_X10_warmAll ob_63 kM_X10_228 rfl (Nat.le_of_ble_eq_true rfl) (Nat.le_of_ble_eq_true rfl) ⟨Nat.le_of_ble_eq_true rfl, Nat.le_of_ble_eq_true rfl⟩ dX10_countOf_96 rfl (fun r τ10 H locs hq hH => ?_)
    obtain ⟨r11, rfl, h⟩ := hq
    exact hret (some (.int r11)) _ _ _ _ _ ⟨_, rfl, h⟩ hH ⟨dX10_countOf_99, .int, rfl, rfl⟩
  have h := h.2
  by_cases hs12 : x1 = 5
  · have h := h.1 hs12
    refine m_tin (v := 5) (tgt := 100) C0 dX10_countOf_1 hs12 (by decide) (by decide) rfl (by decide) ?_
    refine lv_aload_n hx hb dX10_countOf_100 rfl (lv_at hl 0 rfl) ?_
    refine m_cV (M2 := M_X10_guiltAll) (As := []) (rest := []) h C0 hH hl kc_X10_guiltAll ki_X10_guiltAll kx_X10_guiltAll ob_63 kM_X10_244 rfl (Nat.le_of_ble_eq_true rfl) (Nat.le_of_ble_eq_true rfl) ⟨Nat.le_of_ble_eq_true rfl, Nat.le_of_ble_eq_true rfl⟩ dX10_countOf_101 rfl (fun r τ13 H locs hq hH => ?_)
    obtain ⟨r14, rfl, h⟩ := hq
    exact hret (some (.int r14)) _ _ _ _ _ ⟨_, rfl, h⟩ hH ⟨dX10_countOf_104, .int, rfl, rfl⟩
  have h := h.2
  by_cases hs15 : x1 = 6
  · have h := h.1 hs15
    refine m_tin (v := 6) (tgt := 105) C0 dX10_countOf_1 hs15 (by decide) (by decide) rfl (by decide) ?_
    refine lv_aload_n hx hb dX10_countOf_105 rfl (lv_at hl 0 rfl) ?_
    refine m_geti (x := σ 63 6) C0 hH f_63_6 kF_X10_109 dX10_countOf_106 rfl ?_
    refine m_cS (M2 := M_X10_ones) (As := [.int (σ 63 6)]) (rest := []) h C0 hH hl kc_X10_ones ks_X10_ones kM_X10_172 rfl (Nat.le_of_ble_eq_true rfl) (Nat.le_of_ble_eq_true rfl) ⟨Nat.le_of_ble_eq_true rfl, Nat.le_of_ble_eq_true rfl⟩ dX10_countOf_109 rfl (fun r τ16 H locs hq hH => ?_)
    obtain ⟨r17, rfl, h⟩ := hq
    exact hret (some (.int r17)) _ _ _ _ _ ⟨_, rfl, h⟩ hH ⟨dX10_countOf_112, .int, rfl, rfl⟩
  have h := h.2
  by_cases hs18 : x1 = 7
  · have h := h.1 hs18
    refine m_tin (v := 7) (tgt := 113) C0 dX10_countOf_1 hs18 (by decide) (by decide) rfl (by decide) ?_
    refine lv_aload_n hx hb dX10_countOf_113 rfl (lv_at hl 0 rfl) ?_
    refine m_geti (x := σ 63 7) C0 hH f_63_7 kF_X10_112 dX10_countOf_114 rfl ?_
    exact hret (some (.int (σ 63 7))) _ _ _ _ _ ⟨_, rfl, h⟩ hH ⟨dX10_countOf_117, .int, rfl, rfl⟩
  have h := h.2
  by_cases hs19 : x1 = 8
  · have h := h.1 hs19
    refine m_tin (v := 8) (tgt := 118) C0 dX10_countOf_1 hs19 (by decide) (by decide) rfl (by decide) ?_
    refine lv_aload_n hx hb dX10_countOf_118 rfl (lv_at hl 0 rfl) ?_
    refine lv_aload_n hx hb dX10_countOf_119 rfl (lv_at hl 0 rfl) ?_
    refine m_getr C0 hH f_63_11 67 rfl kF_X10_19 dX10_countOf_120 ?_
    refine m_cV (M2 := M_X10_warmAll) (As := [.ref (Ad E 67)]) (rest := []) h C0 hH hl kc_X10_warmAll ki_X10_warmAll kx_X10_warmAll ob_63 kM_X10_228 rfl (Nat.le_of_ble_eq_true rfl) (Nat.le_of_ble_eq_true rfl) ⟨Nat.le_of_ble_eq_true rfl, Nat.le_of_ble_eq_true rfl⟩ dX10_countOf_123 rfl (fun r τ20 H locs hq hH => ?_)
    obtain ⟨r21, rfl, h⟩ := hq
    exact hret (some (.int r21)) _ _ _ _ _ ⟨_, rfl, h⟩ hH ⟨dX10_countOf_126, .int, rfl, rfl⟩
  have h := h.2
  by_cases hs22 : x1 = 9
  · have h := h.1 hs22
    refine m_tin (v := 9) (tgt := 127) C0 dX10_countOf_1 hs22 (by decide) (by decide) rfl (by decide) ?_
    refine lv_aload_n hx hb dX10_countOf_127 rfl (lv_at hl 0 rfl) ?_
    refine m_geti (x := σ 63 20) C0 hH f_63_20 kF_X10_115 dX10_countOf_128 rfl ?_
    exact hret (some (.int (σ 63 20))) _ _ _ _ _ ⟨_, rfl, h⟩ hH ⟨dX10_countOf_131, .int, rfl, rfl⟩
  have h := h.2
  by_cases hs23 : x1 = 10
  · have h := h.1 hs23
    refine m_tin (v := 10) (tgt := 132) C0 dX10_countOf_1 hs23 (by decide) (by decide) rfl (by decide) ?_
    refine lv_aload_n hx hb dX10_countOf_132 rfl (lv_at hl 0 rfl) ?_
    refine m_geti (x := σ 63 1) C0 hH f_63_1 kF_X10_65 dX10_countOf_133 rfl ?_
    exact hret (some (.int (σ 63 1))) _ _ _ _ _ ⟨_, rfl, h⟩ hH ⟨dX10_countOf_136, .int, rfl, rfl⟩
  have h := h.2
  by_cases hs24 : x1 = 11
  · have h := h.1 hs24
    refine m_tin (v := 11) (tgt := 137) C0 dX10_countOf_1 hs24 (by decide) (by decide) rfl (by decide) ?_
    refine lv_aload_n hx hb dX10_countOf_137 rfl (lv_at hl 0 rfl) ?_
    refine m_geti (x := σ 63 8) C0 hH f_63_8 kF_X10_118 dX10_countOf_138 rfl ?_
    exact hret (some (.int (σ 63 8))) _ _ _ _ _ ⟨_, rfl, h⟩ hH ⟨dX10_countOf_141, .int, rfl, rfl⟩
  have h := h.2
  by_cases hs25 : x1 = 12
  · have h := h.1 hs25
    refine m_tin (v := 12) (tgt := 142) C0 dX10_countOf_1 hs25 (by decide) (by decide) rfl (by decide) ?_
    refine lv_aload_n hx hb dX10_countOf_142 rfl (lv_at hl 0 rfl) ?_
    refine m_geti (x := σ 63 17) C0 hH f_63_17 kF_X10_193 dX10_countOf_143 rfl ?_
    exact hret (some (.int (σ 63 17))) _ _ _ _ _ ⟨_, rfl, h⟩ hH ⟨dX10_countOf_146, .int, rfl, rfl⟩
  have h := h.2
  have h := h hs1
  have h := h hs2
  have h := h hs3
  have h := h hs4
  have h := h hs9
  have h := h hs12
  have h := h hs15
  have h := h hs18
  have h := h hs19
  have h := h hs22
  have h := h hs23
  have h := h hs24
  have h := h hs25
  refine m_tout (tgt := 147) C0 dX10_countOf_1 (fun v h1 h2 => ?_) (by decide) ?_
  · rcases (show v = 0 ∨ v = 1 ∨ v = 2 ∨ v = 3 ∨ v = 4 ∨ v = 5 ∨ v = 6 ∨ v = 7 ∨ v = 8 ∨ v = 9 ∨ v = 10 ∨ v = 11 ∨ v = 12 by omega) with rfl | rfl | rfl | rfl | rfl | rfl | rfl | rfl | rfl | rfl | rfl | rfl | rfl
    · exact fun q => hs1 (q.trans (by decide))
    · exact fun q => hs2 (q.trans (by decide))
    · exact fun q => hs3 (q.trans (by decide))
    · exact fun q => hs4 (q.trans (by decide))
    · exact fun q => hs9 (q.trans (by decide))
    · exact fun q => hs12 (q.trans (by decide))
    · exact fun q => hs15 (q.trans (by decide))
    · exact fun q => hs18 (q.trans (by decide))
    · exact fun q => hs19 (q.trans (by decide))
    · exact fun q => hs22 (q.trans (by decide))
    · exact fun q => hs23 (q.trans (by decide))
    · exact fun q => hs24 (q.trans (by decide))
    · exact fun q => hs25 (q.trans (by decide))
  refine lv_bipush (v := (-102)) hx hb dX10_countOf_147 (by decide) ?_
  exact hret (some (.int (-102))) _ _ _ _ _ ⟨_, rfl, h⟩ hH ⟨dX10_countOf_149, .int, rfl, rfl⟩

def r_X10_count_0 (E : EE) (x1 : Int32) (σ : Mm) (Q : Int32 → Mm → Prop) : Prop := Rn E M_X10_count 0 [(0, .ref (Ad E 63)), (1, .int x1)] [] σ (qi Q)
set_option maxRecDepth 20000 in
set_option maxHeartbeats 4000000 in
theorem s_X10_count_0 (E : EE) (x1 : Int32) (σ : Mm) (Q : Int32 → Mm → Prop) (h : r_X10_countOf_0 E x1 σ (fun r2 τ1 => Q r2 τ1)) : r_X10_count_0 E x1 σ Q := by
  intro p e R s m args below meth c Z cells slots H locs ls C0 hH hl hret
  have hx := C0.1
  have hb : c.code = cX10_count := C0.2.1
  have hl : lv_has ls 2 [(0, .ref (Ad E 63)), (1, .int x1)] := hl
  refine lv_aload_n hx hb dX10_count_0 rfl (lv_at hl 0 rfl) ?_
  refine lv_iload_n hx hb dX10_count_1 rfl (lv_at hl 1 rfl) ?_
  refine m_cV (M2 := M_X10_countOf) (As := [.int x1]) (rest := []) h C0 hH hl kc_X10_countOf ki_X10_countOf kx_X10_countOf ob_63 kM_X10_247 rfl (Nat.le_of_ble_eq_true rfl) (Nat.le_of_ble_eq_true rfl) ⟨Nat.le_of_ble_eq_true rfl, Nat.le_of_ble_eq_true rfl⟩ dX10_count_2 rfl (fun r τ1 H locs hq hH => ?_)
  obtain ⟨r2, rfl, h⟩ := hq
  exact hret (some (.int r2)) _ _ _ _ _ ⟨_, rfl, h⟩ hH ⟨dX10_count_5, .int, rfl, rfl⟩

def r_X10_say_0 (E : EE) (y1 : Int64) (σ : Mm) (Q : Mm → Prop) : Prop := Rn E M_X10_say 0 [(0, .ref (Ad E 63)), (1, .long y1)] [] σ (qv Q)
set_option maxRecDepth 20000 in
set_option maxHeartbeats 4000000 in
theorem s_X10_say_0 (E : EE) (y1 : Int64) (σ : Mm) (Q : Mm → Prop) (h : Q (up (up σ 63 33 (jlo ((31 * (jn (σ 63 33) (σ 63 1033))) + y1))) 63 1033 (jhi ((31 * (jn (σ 63 33) (σ 63 1033))) + y1)))) : r_X10_say_0 E y1 σ Q := by
  intro p e R s m args below meth c Z cells slots H locs ls C0 hH hl hret
  have hx := C0.1
  have hb : c.code = cX10_say := C0.2.1
  have hl : lv_has ls 3 [(0, .ref (Ad E 63)), (1, .long y1)] := hl
  refine lv_aload_n hx hb dX10_say_0 rfl (lv_at hl 0 rfl) ?_
  refine lv_ldc2 hx hb C0.2.2.2.1 (C0.2.2.2.2.1 _ kC_X10_250) dX10_say_1 ?_
  refine lv_aload_n hx hb dX10_say_4 rfl (lv_at hl 0 rfl) ?_
  refine m_getl (x := (jn (σ 63 33) (σ 63 1033))) C0 hH f_63_33 kF_X10_252 dX10_say_5 rfl ?_
  refine lv_lmul hx hb dX10_say_8 ?_
  refine lv_lload_n hx hb dX10_say_9 rfl (lv_at hl 1 rfl) ?_
  refine lv_ladd hx hb dX10_say_10 ?_
  refine m_putl C0 hH f_63_33 kF_X10_252 rfl dX10_say_11 rfl rfl (fun H locs hH => ?_)
  exact hret none _ _ _ _ _ ⟨rfl, h⟩ hH ⟨dX10_say_14, rfl⟩

def r_X10_sayChapel_0 (E : EE) (σ : Mm) (Q : Mm → Prop) : Prop := Rn E M_X10_sayChapel 0 [(0, .ref (Ad E 63))] [] σ (qv Q)
set_option maxRecDepth 20000 in
set_option maxHeartbeats 4000000 in
theorem s_X10_sayChapel_0 (E : EE) (σ : Mm) (Q : Mm → Prop) (h : r_X10_farBy_0 E 0 1 (σ 63 6) σ (fun r2 τ1 => r_X10_say_0 E r2.toInt64 τ1 (fun τ3 => r_X10_farBy_0 E 1 0 (τ3 63 6) τ3 (fun r5 τ4 => r_X10_say_0 E r5.toInt64 τ4 (fun τ6 => r_X10_ringBy_0 E (τ6 63 6) τ6 (fun r8 τ7 => r_X10_say_0 E r8.toInt64 τ7 (fun τ9 => r_X10_peaceOf_0 E 0 τ9 (fun r11 τ10 => r_X10_say_0 E r11.toInt64 τ10 (fun τ12 => r_X10_peaceOf_0 E 1 τ12 (fun r14 τ13 => r_X10_say_0 E r14.toInt64 τ13 (fun τ15 => Q τ15))))))))))) : r_X10_sayChapel_0 E σ Q := by
  intro p e R s m args below meth c Z cells slots H locs ls C0 hH hl hret
  have hx := C0.1
  have hb : c.code = cX10_sayChapel := C0.2.1
  have hl : lv_has ls 1 [(0, .ref (Ad E 63))] := hl
  refine lv_aload_n hx hb dX10_sayChapel_0 rfl (lv_at hl 0 rfl) ?_
  refine lv_aload_n hx hb dX10_sayChapel_1 rfl (lv_at hl 0 rfl) ?_
  refine lv_iconst (v := 0) hx hb dX10_sayChapel_2 (by decide) ?_
  refine lv_iconst (v := 1) hx hb dX10_sayChapel_3 (by decide) ?_
  refine lv_aload_n hx hb dX10_sayChapel_4 rfl (lv_at hl 0 rfl) ?_
  refine m_geti (x := σ 63 6) C0 hH f_63_6 kF_X10_109 dX10_sayChapel_5 rfl ?_
  refine m_cV (M2 := M_X10_farBy) (As := [.int 0, .int 1, .int (σ 63 6)]) (rest := [.ref (Ad E 63)]) h C0 hH hl kc_X10_farBy ki_X10_farBy kx_X10_farBy ob_63 kM_X10_157 rfl (Nat.le_of_ble_eq_true rfl) (Nat.le_of_ble_eq_true rfl) ⟨Nat.le_of_ble_eq_true rfl, Nat.le_of_ble_eq_true rfl⟩ dX10_sayChapel_8 rfl (fun r τ1 H locs hq hH => ?_)
  obtain ⟨r2, rfl, h⟩ := hq
  refine lv_i2l hx hb dX10_sayChapel_11 rfl ?_
  refine m_cV (M2 := M_X10_say) (As := [.long r2.toInt64]) (rest := []) h C0 hH hl kc_X10_say ki_X10_say kx_X10_say ob_63 kM_X10_256 rfl (Nat.le_of_ble_eq_true rfl) (Nat.le_of_ble_eq_true rfl) ⟨Nat.le_of_ble_eq_true rfl, Nat.le_of_ble_eq_true rfl⟩ dX10_sayChapel_12 rfl (fun r τ3 H locs hq hH => ?_)
  obtain ⟨rfl, h⟩ := hq
  refine lv_aload_n hx hb dX10_sayChapel_15 rfl (lv_at hl 0 rfl) ?_
  refine lv_aload_n hx hb dX10_sayChapel_16 rfl (lv_at hl 0 rfl) ?_
  refine lv_iconst (v := 1) hx hb dX10_sayChapel_17 (by decide) ?_
  refine lv_iconst (v := 0) hx hb dX10_sayChapel_18 (by decide) ?_
  refine lv_aload_n hx hb dX10_sayChapel_19 rfl (lv_at hl 0 rfl) ?_
  refine m_geti (x := τ3 63 6) C0 hH f_63_6 kF_X10_109 dX10_sayChapel_20 rfl ?_
  refine m_cV (M2 := M_X10_farBy) (As := [.int 1, .int 0, .int (τ3 63 6)]) (rest := [.ref (Ad E 63)]) h C0 hH hl kc_X10_farBy ki_X10_farBy kx_X10_farBy ob_63 kM_X10_157 rfl (Nat.le_of_ble_eq_true rfl) (Nat.le_of_ble_eq_true rfl) ⟨Nat.le_of_ble_eq_true rfl, Nat.le_of_ble_eq_true rfl⟩ dX10_sayChapel_23 rfl (fun r τ4 H locs hq hH => ?_)
  obtain ⟨r5, rfl, h⟩ := hq
  refine lv_i2l hx hb dX10_sayChapel_26 rfl ?_
  refine m_cV (M2 := M_X10_say) (As := [.long r5.toInt64]) (rest := []) h C0 hH hl kc_X10_say ki_X10_say kx_X10_say ob_63 kM_X10_256 rfl (Nat.le_of_ble_eq_true rfl) (Nat.le_of_ble_eq_true rfl) ⟨Nat.le_of_ble_eq_true rfl, Nat.le_of_ble_eq_true rfl⟩ dX10_sayChapel_27 rfl (fun r τ6 H locs hq hH => ?_)
  obtain ⟨rfl, h⟩ := hq
  refine lv_aload_n hx hb dX10_sayChapel_30 rfl (lv_at hl 0 rfl) ?_
  refine lv_aload_n hx hb dX10_sayChapel_31 rfl (lv_at hl 0 rfl) ?_
  refine lv_aload_n hx hb dX10_sayChapel_32 rfl (lv_at hl 0 rfl) ?_
  refine m_geti (x := τ6 63 6) C0 hH f_63_6 kF_X10_109 dX10_sayChapel_33 rfl ?_
  refine m_cV (M2 := M_X10_ringBy) (As := [.int (τ6 63 6)]) (rest := [.ref (Ad E 63)]) h C0 hH hl kc_X10_ringBy ki_X10_ringBy kx_X10_ringBy ob_63 kM_X10_199 rfl (Nat.le_of_ble_eq_true rfl) (Nat.le_of_ble_eq_true rfl) ⟨Nat.le_of_ble_eq_true rfl, Nat.le_of_ble_eq_true rfl⟩ dX10_sayChapel_36 rfl (fun r τ7 H locs hq hH => ?_)
  obtain ⟨r8, rfl, h⟩ := hq
  refine lv_i2l hx hb dX10_sayChapel_39 rfl ?_
  refine m_cV (M2 := M_X10_say) (As := [.long r8.toInt64]) (rest := []) h C0 hH hl kc_X10_say ki_X10_say kx_X10_say ob_63 kM_X10_256 rfl (Nat.le_of_ble_eq_true rfl) (Nat.le_of_ble_eq_true rfl) ⟨Nat.le_of_ble_eq_true rfl, Nat.le_of_ble_eq_true rfl⟩ dX10_sayChapel_40 rfl (fun r τ9 H locs hq hH => ?_)
  obtain ⟨rfl, h⟩ := hq
  refine lv_aload_n hx hb dX10_sayChapel_43 rfl (lv_at hl 0 rfl) ?_
  refine lv_aload_n hx hb dX10_sayChapel_44 rfl (lv_at hl 0 rfl) ?_
  refine lv_iconst (v := 0) hx hb dX10_sayChapel_45 (by decide) ?_
  refine m_cV (M2 := M_X10_peaceOf) (As := [.int 0]) (rest := [.ref (Ad E 63)]) h C0 hH hl kc_X10_peaceOf ki_X10_peaceOf kx_X10_peaceOf ob_63 kM_X10_202 rfl (Nat.le_of_ble_eq_true rfl) (Nat.le_of_ble_eq_true rfl) ⟨Nat.le_of_ble_eq_true rfl, Nat.le_of_ble_eq_true rfl⟩ dX10_sayChapel_46 rfl (fun r τ10 H locs hq hH => ?_)
  obtain ⟨r11, rfl, h⟩ := hq
  refine lv_i2l hx hb dX10_sayChapel_49 rfl ?_
  refine m_cV (M2 := M_X10_say) (As := [.long r11.toInt64]) (rest := []) h C0 hH hl kc_X10_say ki_X10_say kx_X10_say ob_63 kM_X10_256 rfl (Nat.le_of_ble_eq_true rfl) (Nat.le_of_ble_eq_true rfl) ⟨Nat.le_of_ble_eq_true rfl, Nat.le_of_ble_eq_true rfl⟩ dX10_sayChapel_50 rfl (fun r τ12 H locs hq hH => ?_)
  obtain ⟨rfl, h⟩ := hq
  refine lv_aload_n hx hb dX10_sayChapel_53 rfl (lv_at hl 0 rfl) ?_
  refine lv_aload_n hx hb dX10_sayChapel_54 rfl (lv_at hl 0 rfl) ?_
  refine lv_iconst (v := 1) hx hb dX10_sayChapel_55 (by decide) ?_
  refine m_cV (M2 := M_X10_peaceOf) (As := [.int 1]) (rest := [.ref (Ad E 63)]) h C0 hH hl kc_X10_peaceOf ki_X10_peaceOf kx_X10_peaceOf ob_63 kM_X10_202 rfl (Nat.le_of_ble_eq_true rfl) (Nat.le_of_ble_eq_true rfl) ⟨Nat.le_of_ble_eq_true rfl, Nat.le_of_ble_eq_true rfl⟩ dX10_sayChapel_56 rfl (fun r τ13 H locs hq hH => ?_)
  obtain ⟨r14, rfl, h⟩ := hq
  refine lv_i2l hx hb dX10_sayChapel_59 rfl ?_
  refine m_cV (M2 := M_X10_say) (As := [.long r14.toInt64]) (rest := []) h C0 hH hl kc_X10_say ki_X10_say kx_X10_say ob_63 kM_X10_256 rfl (Nat.le_of_ble_eq_true rfl) (Nat.le_of_ble_eq_true rfl) ⟨Nat.le_of_ble_eq_true rfl, Nat.le_of_ble_eq_true rfl⟩ dX10_sayChapel_60 rfl (fun r τ15 H locs hq hH => ?_)
  obtain ⟨rfl, h⟩ := hq
  exact hret none _ _ _ _ _ ⟨rfl, h⟩ hH ⟨dX10_sayChapel_63, rfl⟩

def r_X10_digest_0 (E : EE) (σ : Mm) (Q : Int64 → Mm → Prop) : Prop := Rn E M_X10_digest 0 [(0, .ref (Ad E 63))] [] σ (ql Q)
def r_X10_digest_9 (E : EE) (x1 : Int32) (σ : Mm) (Q : Int64 → Mm → Prop) : Prop := Rn E M_X10_digest 9 [(0, .ref (Ad E 63)), (1, .int x1)] [] σ (ql Q)
def r_X10_digest_19 (E : EE) (x1 : Int32) (x2 : Int32) (σ : Mm) (Q : Int64 → Mm → Prop) : Prop := Rn E M_X10_digest 19 [(0, .ref (Ad E 63)), (1, .int x1), (2, .int x2)] [] σ (ql Q)
def r_X10_digest_74 (E : EE) (x1 : Int32) (σ : Mm) (Q : Int64 → Mm → Prop) : Prop := Rn E M_X10_digest 74 [(0, .ref (Ad E 63)), (1, .int x1)] [] σ (ql Q)
def r_X10_digest_84 (E : EE) (x1 : Int32) (x2 : Int32) (σ : Mm) (Q : Int64 → Mm → Prop) : Prop := Rn E M_X10_digest 84 [(0, .ref (Ad E 63)), (1, .int x1), (2, .int x2)] [] σ (ql Q)
def r_X10_digest_126 (E : EE) (x1 : Int32) (σ : Mm) (Q : Int64 → Mm → Prop) : Prop := Rn E M_X10_digest 126 [(0, .ref (Ad E 63)), (1, .int x1)] [] σ (ql Q)
def r_X10_digest_153 (E : EE) (x1 : Int32) (σ : Mm) (Q : Int64 → Mm → Prop) : Prop := Rn E M_X10_digest 153 [(0, .ref (Ad E 63)), (1, .int x1)] [] σ (ql Q)
set_option maxRecDepth 20000 in
set_option maxHeartbeats 4000000 in
theorem s_X10_digest_0 (E : EE) (σ : Mm) (Q : Int64 → Mm → Prop) (h : r_X10_digest_9 E 0 (up (up σ 63 33 (jlo 1289)) 63 1033 (jhi 1289)) Q) : r_X10_digest_0 E σ Q := by
  intro p e R s m args below meth c Z cells slots H locs ls C0 hH hl hret
  have hx := C0.1
  have hb : c.code = cX10_digest := C0.2.1
  have hl : lv_has ls 3 [(0, .ref (Ad E 63))] := hl
  refine lv_aload_n hx hb dX10_digest_0 rfl (lv_at hl 0 rfl) ?_
  refine lv_ldc2 hx hb C0.2.2.2.1 (C0.2.2.2.2.1 _ kC_X10_260) dX10_digest_1 ?_
  refine m_putl C0 hH f_63_33 kF_X10_252 rfl dX10_digest_4 rfl rfl (fun H locs hH => ?_)
  refine lv_iconst (v := 0) hx hb dX10_digest_7 (by decide) ?_
  refine lv_istore_n (lv' := [(1, .int 0), (0, .ref (Ad E 63))]) hx hb dX10_digest_8 rfl hl (by decide) rfl (fun ls hl => ?_)
  exact h p e R s m args below meth c Z cells slots H locs ls C0 hH (lv_sub hl [1, 0] rfl) hret
set_option maxRecDepth 20000 in
set_option maxHeartbeats 4000000 in
theorem s_X10_digest_9 (E : EE) (x1 : Int32) (σ : Mm) (Q : Int64 → Mm → Prop) (h : (((σ 63 3) ≤ x1 → r_X10_digest_74 E 0 σ Q) ∧ (¬ (σ 63 3) ≤ x1 → r_X10_digest_19 E x1 0 σ Q))) : r_X10_digest_9 E x1 σ Q := by
  intro p e R s m args below meth c Z cells slots H locs ls C0 hH hl hret
  have hx := C0.1
  have hb : c.code = cX10_digest := C0.2.1
  have hl : lv_has ls 3 [(0, .ref (Ad E 63)), (1, .int x1)] := hl
  refine lv_iload_n hx hb dX10_digest_9 rfl (lv_at hl 1 rfl) ?_
  refine lv_aload_n hx hb dX10_digest_10 rfl (lv_at hl 0 rfl) ?_
  refine m_geti (x := σ 63 3) C0 hH f_63_3 kF_X10_103 dX10_digest_11 rfl ?_
  refine lv_icmp_ge (tgt := 72) hx hb dX10_digest_14 (by decide) (fun hc1 => ?_) (fun hc1 => ?_)
  · have h := h.1 hc1
    refine lv_iconst (v := 0) hx hb dX10_digest_72 (by decide) ?_
    refine lv_istore_n (lv' := [(1, .int 0), (0, .ref (Ad E 63))]) hx hb dX10_digest_73 rfl hl (by decide) rfl (fun ls hl => ?_)
    exact h p e R s m args below meth c Z cells slots H locs ls C0 hH (lv_sub hl [1, 0] rfl) hret
  · have h := h.2 hc1
    refine lv_iconst (v := 0) hx hb dX10_digest_17 (by decide) ?_
    refine lv_istore_n (lv' := [(2, .int 0), (0, .ref (Ad E 63)), (1, .int x1)]) hx hb dX10_digest_18 rfl hl (by decide) rfl (fun ls hl => ?_)
    exact h p e R s m args below meth c Z cells slots H locs ls C0 hH (lv_sub hl [1, 2, 0] rfl) hret
set_option maxRecDepth 20000 in
set_option maxHeartbeats 4000000 in
theorem s_X10_digest_19 (E : EE) (x1 : Int32) (x2 : Int32) (σ : Mm) (Q : Int64 → Mm → Prop) (h : ((6 ≤ x2 → r_X10_oddsOf_0 E x1 4 0 σ (fun r3 τ2 => r_X10_say_0 E r3.toInt64 τ2 (fun τ4 => r_X10_oddsOf_0 E x1 4 1 τ4 (fun r6 τ5 => r_X10_say_0 E r6.toInt64 τ5 (fun τ7 => r_X10_digest_9 E (x1 + 1) τ7 Q))))) ∧ (¬ 6 ≤ x2 → r_X10_tellPerson_0 E x1 x2 σ (fun r9 τ8 => r_X10_say_0 E r9.toInt64 τ8 (fun τ10 => r_X10_digest_19 E x1 (x2 + 1) τ10 Q))))) : r_X10_digest_19 E x1 x2 σ Q := by
  intro p e R s m args below meth c Z cells slots H locs ls C0 hH hl hret
  have hx := C0.1
  have hb : c.code = cX10_digest := C0.2.1
  have hl : lv_has ls 3 [(0, .ref (Ad E 63)), (1, .int x1), (2, .int x2)] := hl
  refine lv_iload_n hx hb dX10_digest_19 rfl (lv_at hl 2 rfl) ?_
  refine lv_bipush (v := 6) hx hb dX10_digest_20 (by decide) ?_
  refine lv_icmp_ge (tgt := 42) hx hb dX10_digest_22 (by decide) (fun hc1 => ?_) (fun hc1 => ?_)
  · have h := h.1 hc1
    refine lv_aload_n hx hb dX10_digest_42 rfl (lv_at hl 0 rfl) ?_
    refine lv_aload_n hx hb dX10_digest_43 rfl (lv_at hl 0 rfl) ?_
    refine lv_iload_n hx hb dX10_digest_44 rfl (lv_at hl 1 rfl) ?_
    refine lv_iconst (v := 4) hx hb dX10_digest_45 (by decide) ?_
    refine lv_iconst (v := 0) hx hb dX10_digest_46 (by decide) ?_
    refine m_cV (M2 := M_X10_oddsOf) (As := [.int x1, .int 4, .int 0]) (rest := [.ref (Ad E 63)]) h C0 hH hl kc_X10_oddsOf ki_X10_oddsOf kx_X10_oddsOf ob_63 kM_X10_207 rfl (Nat.le_of_ble_eq_true rfl) (Nat.le_of_ble_eq_true rfl) ⟨Nat.le_of_ble_eq_true rfl, Nat.le_of_ble_eq_true rfl⟩ dX10_digest_47 rfl (fun r τ2 H locs hq hH => ?_)
    obtain ⟨r3, rfl, h⟩ := hq
    refine lv_i2l hx hb dX10_digest_50 rfl ?_
    refine m_cV (M2 := M_X10_say) (As := [.long r3.toInt64]) (rest := []) h C0 hH hl kc_X10_say ki_X10_say kx_X10_say ob_63 kM_X10_256 rfl (Nat.le_of_ble_eq_true rfl) (Nat.le_of_ble_eq_true rfl) ⟨Nat.le_of_ble_eq_true rfl, Nat.le_of_ble_eq_true rfl⟩ dX10_digest_51 rfl (fun r τ4 H locs hq hH => ?_)
    obtain ⟨rfl, h⟩ := hq
    refine lv_aload_n hx hb dX10_digest_54 rfl (lv_at hl 0 rfl) ?_
    refine lv_aload_n hx hb dX10_digest_55 rfl (lv_at hl 0 rfl) ?_
    refine lv_iload_n hx hb dX10_digest_56 rfl (lv_at hl 1 rfl) ?_
    refine lv_iconst (v := 4) hx hb dX10_digest_57 (by decide) ?_
    refine lv_iconst (v := 1) hx hb dX10_digest_58 (by decide) ?_
    refine m_cV (M2 := M_X10_oddsOf) (As := [.int x1, .int 4, .int 1]) (rest := [.ref (Ad E 63)]) h C0 hH hl kc_X10_oddsOf ki_X10_oddsOf kx_X10_oddsOf ob_63 kM_X10_207 rfl (Nat.le_of_ble_eq_true rfl) (Nat.le_of_ble_eq_true rfl) ⟨Nat.le_of_ble_eq_true rfl, Nat.le_of_ble_eq_true rfl⟩ dX10_digest_59 rfl (fun r τ5 H locs hq hH => ?_)
    obtain ⟨r6, rfl, h⟩ := hq
    refine lv_i2l hx hb dX10_digest_62 rfl ?_
    refine m_cV (M2 := M_X10_say) (As := [.long r6.toInt64]) (rest := []) h C0 hH hl kc_X10_say ki_X10_say kx_X10_say ob_63 kM_X10_256 rfl (Nat.le_of_ble_eq_true rfl) (Nat.le_of_ble_eq_true rfl) ⟨Nat.le_of_ble_eq_true rfl, Nat.le_of_ble_eq_true rfl⟩ dX10_digest_63 rfl (fun r τ7 H locs hq hH => ?_)
    obtain ⟨rfl, h⟩ := hq
    refine lv_iinc (v := (x1 + 1)) (lv' := [(1, .int (x1 + 1)), (0, .ref (Ad E 63)), (2, .int x2)]) hx hb dX10_digest_66 hl (k := 1) rfl rfl (by decide) rfl (fun ls hl => ?_)
    refine lv_goto (tgt := 9) hx hb dX10_digest_69 (by decide) ?_
    exact h p e R s m args below meth c Z cells slots H locs ls C0 hH (lv_sub hl [1, 0] rfl) hret
  · have h := h.2 hc1
    refine lv_aload_n hx hb dX10_digest_25 rfl (lv_at hl 0 rfl) ?_
    refine lv_aload_n hx hb dX10_digest_26 rfl (lv_at hl 0 rfl) ?_
    refine lv_iload_n hx hb dX10_digest_27 rfl (lv_at hl 1 rfl) ?_
    refine lv_iload_n hx hb dX10_digest_28 rfl (lv_at hl 2 rfl) ?_
    refine m_cV (M2 := M_X10_tellPerson) (As := [.int x1, .int x2]) (rest := [.ref (Ad E 63)]) h C0 hH hl kc_X10_tellPerson ki_X10_tellPerson kx_X10_tellPerson ob_63 kM_X10_137 rfl (Nat.le_of_ble_eq_true rfl) (Nat.le_of_ble_eq_true rfl) ⟨Nat.le_of_ble_eq_true rfl, Nat.le_of_ble_eq_true rfl⟩ dX10_digest_29 rfl (fun r τ8 H locs hq hH => ?_)
    obtain ⟨r9, rfl, h⟩ := hq
    refine lv_i2l hx hb dX10_digest_32 rfl ?_
    refine m_cV (M2 := M_X10_say) (As := [.long r9.toInt64]) (rest := []) h C0 hH hl kc_X10_say ki_X10_say kx_X10_say ob_63 kM_X10_256 rfl (Nat.le_of_ble_eq_true rfl) (Nat.le_of_ble_eq_true rfl) ⟨Nat.le_of_ble_eq_true rfl, Nat.le_of_ble_eq_true rfl⟩ dX10_digest_33 rfl (fun r τ10 H locs hq hH => ?_)
    obtain ⟨rfl, h⟩ := hq
    refine lv_iinc (v := (x2 + 1)) (lv' := [(2, .int (x2 + 1)), (0, .ref (Ad E 63)), (1, .int x1)]) hx hb dX10_digest_36 hl (k := 2) rfl rfl (by decide) rfl (fun ls hl => ?_)
    refine lv_goto (tgt := 19) hx hb dX10_digest_39 (by decide) ?_
    exact h p e R s m args below meth c Z cells slots H locs ls C0 hH (lv_sub hl [1, 2, 0] rfl) hret
set_option maxRecDepth 20000 in
set_option maxHeartbeats 4000000 in
theorem s_X10_digest_74 (E : EE) (x1 : Int32) (σ : Mm) (Q : Int64 → Mm → Prop) (h : (((σ 63 4) ≤ x1 → r_X10_lacks_0 E  σ (fun r3 τ2 => ((¬ r3 = 0 → r_X10_digest_126 E 0 τ2 Q) ∧ (r3 = 0 → r_X10_sayChapel_0 E  τ2 (fun τ5 => r_X10_digest_126 E 0 τ5 Q))))) ∧ (¬ (σ 63 4) ≤ x1 → r_X10_digest_84 E x1 0 σ Q))) : r_X10_digest_74 E x1 σ Q := by
  intro p e R s m args below meth c Z cells slots H locs ls C0 hH hl hret
  have hx := C0.1
  have hb : c.code = cX10_digest := C0.2.1
  have hl : lv_has ls 3 [(0, .ref (Ad E 63)), (1, .int x1)] := hl
  refine lv_iload_n hx hb dX10_digest_74 rfl (lv_at hl 1 rfl) ?_
  refine lv_aload_n hx hb dX10_digest_75 rfl (lv_at hl 0 rfl) ?_
  refine m_geti (x := σ 63 4) C0 hH f_63_4 kF_X10_106 dX10_digest_76 rfl ?_
  refine lv_icmp_ge (tgt := 113) hx hb dX10_digest_79 (by decide) (fun hc1 => ?_) (fun hc1 => ?_)
  · have h := h.1 hc1
    refine lv_aload_n hx hb dX10_digest_113 rfl (lv_at hl 0 rfl) ?_
    refine m_cV (M2 := M_X10_lacks) (As := []) (rest := []) h C0 hH hl kc_X10_lacks ki_X10_lacks kx_X10_lacks ob_63 kM_X10_161 rfl (Nat.le_of_ble_eq_true rfl) (Nat.le_of_ble_eq_true rfl) ⟨Nat.le_of_ble_eq_true rfl, Nat.le_of_ble_eq_true rfl⟩ dX10_digest_114 rfl (fun r τ2 H locs hq hH => ?_)
    obtain ⟨r3, rfl, h⟩ := hq
    refine lv_if_ne (tgt := 124) hx hb dX10_digest_117 (by decide) (fun hc4 => ?_) (fun hc4 => ?_)
    · have h := h.1 hc4
      refine lv_iconst (v := 0) hx hb dX10_digest_124 (by decide) ?_
      refine lv_istore_n (lv' := [(1, .int 0), (0, .ref (Ad E 63))]) hx hb dX10_digest_125 rfl hl (by decide) rfl (fun ls hl => ?_)
      exact h p e R s m args below meth c Z cells slots H locs ls C0 hH (lv_sub hl [1, 0] rfl) hret
    · have h := h.2 hc4
      refine lv_aload_n hx hb dX10_digest_120 rfl (lv_at hl 0 rfl) ?_
      refine m_cV (M2 := M_X10_sayChapel) (As := []) (rest := []) h C0 hH hl kc_X10_sayChapel ki_X10_sayChapel kx_X10_sayChapel ob_63 kM_X10_262 rfl (Nat.le_of_ble_eq_true rfl) (Nat.le_of_ble_eq_true rfl) ⟨Nat.le_of_ble_eq_true rfl, Nat.le_of_ble_eq_true rfl⟩ dX10_digest_121 rfl (fun r τ5 H locs hq hH => ?_)
      obtain ⟨rfl, h⟩ := hq
      refine lv_iconst (v := 0) hx hb dX10_digest_124 (by decide) ?_
      refine lv_istore_n (lv' := [(1, .int 0), (0, .ref (Ad E 63))]) hx hb dX10_digest_125 rfl hl (by decide) rfl (fun ls hl => ?_)
      exact h p e R s m args below meth c Z cells slots H locs ls C0 hH (lv_sub hl [1, 0] rfl) hret
  · have h := h.2 hc1
    refine lv_iconst (v := 0) hx hb dX10_digest_82 (by decide) ?_
    refine lv_istore_n (lv' := [(2, .int 0), (0, .ref (Ad E 63)), (1, .int x1)]) hx hb dX10_digest_83 rfl hl (by decide) rfl (fun ls hl => ?_)
    exact h p e R s m args below meth c Z cells slots H locs ls C0 hH (lv_sub hl [1, 2, 0] rfl) hret
set_option maxRecDepth 20000 in
set_option maxHeartbeats 4000000 in
theorem s_X10_digest_84 (E : EE) (x1 : Int32) (x2 : Int32) (σ : Mm) (Q : Int64 → Mm → Prop) (h : ((6 ≤ x2 → r_X10_digest_74 E (x1 + 1) σ Q) ∧ (¬ 6 ≤ x2 → r_X10_tellWrong_0 E x1 x2 σ (fun r3 τ2 => r_X10_say_0 E r3.toInt64 τ2 (fun τ4 => r_X10_digest_84 E x1 (x2 + 1) τ4 Q))))) : r_X10_digest_84 E x1 x2 σ Q := by
  intro p e R s m args below meth c Z cells slots H locs ls C0 hH hl hret
  have hx := C0.1
  have hb : c.code = cX10_digest := C0.2.1
  have hl : lv_has ls 3 [(0, .ref (Ad E 63)), (1, .int x1), (2, .int x2)] := hl
  refine lv_iload_n hx hb dX10_digest_84 rfl (lv_at hl 2 rfl) ?_
  refine lv_bipush (v := 6) hx hb dX10_digest_85 (by decide) ?_
  refine lv_icmp_ge (tgt := 107) hx hb dX10_digest_87 (by decide) (fun hc1 => ?_) (fun hc1 => ?_)
  · have h := h.1 hc1
    refine lv_iinc (v := (x1 + 1)) (lv' := [(1, .int (x1 + 1)), (0, .ref (Ad E 63)), (2, .int x2)]) hx hb dX10_digest_107 hl (k := 1) rfl rfl (by decide) rfl (fun ls hl => ?_)
    refine lv_goto (tgt := 74) hx hb dX10_digest_110 (by decide) ?_
    exact h p e R s m args below meth c Z cells slots H locs ls C0 hH (lv_sub hl [1, 0] rfl) hret
  · have h := h.2 hc1
    refine lv_aload_n hx hb dX10_digest_90 rfl (lv_at hl 0 rfl) ?_
    refine lv_aload_n hx hb dX10_digest_91 rfl (lv_at hl 0 rfl) ?_
    refine lv_iload_n hx hb dX10_digest_92 rfl (lv_at hl 1 rfl) ?_
    refine lv_iload_n hx hb dX10_digest_93 rfl (lv_at hl 2 rfl) ?_
    refine m_cV (M2 := M_X10_tellWrong) (As := [.int x1, .int x2]) (rest := [.ref (Ad E 63)]) h C0 hH hl kc_X10_tellWrong ki_X10_tellWrong kx_X10_tellWrong ob_63 kM_X10_151 rfl (Nat.le_of_ble_eq_true rfl) (Nat.le_of_ble_eq_true rfl) ⟨Nat.le_of_ble_eq_true rfl, Nat.le_of_ble_eq_true rfl⟩ dX10_digest_94 rfl (fun r τ2 H locs hq hH => ?_)
    obtain ⟨r3, rfl, h⟩ := hq
    refine lv_i2l hx hb dX10_digest_97 rfl ?_
    refine m_cV (M2 := M_X10_say) (As := [.long r3.toInt64]) (rest := []) h C0 hH hl kc_X10_say ki_X10_say kx_X10_say ob_63 kM_X10_256 rfl (Nat.le_of_ble_eq_true rfl) (Nat.le_of_ble_eq_true rfl) ⟨Nat.le_of_ble_eq_true rfl, Nat.le_of_ble_eq_true rfl⟩ dX10_digest_98 rfl (fun r τ4 H locs hq hH => ?_)
    obtain ⟨rfl, h⟩ := hq
    refine lv_iinc (v := (x2 + 1)) (lv' := [(2, .int (x2 + 1)), (0, .ref (Ad E 63)), (1, .int x1)]) hx hb dX10_digest_101 hl (k := 2) rfl rfl (by decide) rfl (fun ls hl => ?_)
    refine lv_goto (tgt := 84) hx hb dX10_digest_104 (by decide) ?_
    exact h p e R s m args below meth c Z cells slots H locs ls C0 hH (lv_sub hl [1, 2, 0] rfl) hret
set_option maxRecDepth 20000 in
set_option maxHeartbeats 4000000 in
theorem s_X10_digest_126 (E : EE) (x1 : Int32) (σ : Mm) (Q : Int64 → Mm → Prop) (h : (((σ 63 1) ≤ x1 → r_X10_digest_153 E 0 σ Q) ∧ (¬ (σ 63 1) ≤ x1 → (vp_in x1 54 ∧ r_X10_say_0 E ((σ 64 x1.toNatClampNeg).toInt64) σ (fun τ2 => r_X10_digest_126 E (x1 + 1) τ2 Q))))) : r_X10_digest_126 E x1 σ Q := by
  intro p e R s m args below meth c Z cells slots H locs ls C0 hH hl hret
  have hx := C0.1
  have hb : c.code = cX10_digest := C0.2.1
  have hl : lv_has ls 3 [(0, .ref (Ad E 63)), (1, .int x1)] := hl
  refine lv_iload_n hx hb dX10_digest_126 rfl (lv_at hl 1 rfl) ?_
  refine lv_aload_n hx hb dX10_digest_127 rfl (lv_at hl 0 rfl) ?_
  refine m_geti (x := σ 63 1) C0 hH f_63_1 kF_X10_65 dX10_digest_128 rfl ?_
  refine lv_icmp_ge (tgt := 151) hx hb dX10_digest_131 (by decide) (fun hc1 => ?_) (fun hc1 => ?_)
  · have h := h.1 hc1
    refine lv_iconst (v := 0) hx hb dX10_digest_151 (by decide) ?_
    refine lv_istore_n (lv' := [(1, .int 0), (0, .ref (Ad E 63))]) hx hb dX10_digest_152 rfl hl (by decide) rfl (fun ls hl => ?_)
    exact h p e R s m args below meth c Z cells slots H locs ls C0 hH (lv_sub hl [1, 0] rfl) hret
  · have h := h.2 hc1
    refine lv_aload_n hx hb dX10_digest_134 rfl (lv_at hl 0 rfl) ?_
    refine lv_aload_n hx hb dX10_digest_135 rfl (lv_at hl 0 rfl) ?_
    refine m_getr C0 hH f_63_0 64 rfl kF_X10_7 dX10_digest_136 ?_
    refine lv_iload_n hx hb dX10_digest_139 rfl (lv_at hl 1 rfl) ?_
    refine m_iald (x := σ 64 x1.toNatClampNeg) C0 hH a_64 h.1 dX10_digest_140 rfl ?_
    have h := h.2
    refine lv_i2l hx hb dX10_digest_141 rfl ?_
    refine m_cV (M2 := M_X10_say) (As := [.long (σ 64 x1.toNatClampNeg).toInt64]) (rest := []) h C0 hH hl kc_X10_say ki_X10_say kx_X10_say ob_63 kM_X10_256 rfl (Nat.le_of_ble_eq_true rfl) (Nat.le_of_ble_eq_true rfl) ⟨Nat.le_of_ble_eq_true rfl, Nat.le_of_ble_eq_true rfl⟩ dX10_digest_142 rfl (fun r τ2 H locs hq hH => ?_)
    obtain ⟨rfl, h⟩ := hq
    refine lv_iinc (v := (x1 + 1)) (lv' := [(1, .int (x1 + 1)), (0, .ref (Ad E 63))]) hx hb dX10_digest_145 hl (k := 1) rfl rfl (by decide) rfl (fun ls hl => ?_)
    refine lv_goto (tgt := 126) hx hb dX10_digest_148 (by decide) ?_
    exact h p e R s m args below meth c Z cells slots H locs ls C0 hH (lv_sub hl [1, 0] rfl) hret
set_option maxRecDepth 20000 in
set_option maxHeartbeats 4000000 in
theorem s_X10_digest_153 (E : EE) (x1 : Int32) (σ : Mm) (Q : Int64 → Mm → Prop) (h : ((13 ≤ x1 → Q (jn (σ 63 33) (σ 63 1033)) σ) ∧ (¬ 13 ≤ x1 → r_X10_countOf_0 E x1 σ (fun r3 τ2 => r_X10_say_0 E r3.toInt64 τ2 (fun τ4 => r_X10_digest_153 E (x1 + 1) τ4 Q))))) : r_X10_digest_153 E x1 σ Q := by
  intro p e R s m args below meth c Z cells slots H locs ls C0 hH hl hret
  have hx := C0.1
  have hb : c.code = cX10_digest := C0.2.1
  have hl : lv_has ls 3 [(0, .ref (Ad E 63)), (1, .int x1)] := hl
  refine lv_iload_n hx hb dX10_digest_153 rfl (lv_at hl 1 rfl) ?_
  refine lv_bipush (v := 13) hx hb dX10_digest_154 (by decide) ?_
  refine lv_icmp_ge (tgt := 175) hx hb dX10_digest_156 (by decide) (fun hc1 => ?_) (fun hc1 => ?_)
  · have h := h.1 hc1
    refine lv_aload_n hx hb dX10_digest_175 rfl (lv_at hl 0 rfl) ?_
    refine m_getl (x := (jn (σ 63 33) (σ 63 1033))) C0 hH f_63_33 kF_X10_252 dX10_digest_176 rfl ?_
    exact hret (some (.long (jn (σ 63 33) (σ 63 1033)))) _ _ _ _ _ ⟨_, rfl, h⟩ hH ⟨dX10_digest_179, rfl⟩
  · have h := h.2 hc1
    refine lv_aload_n hx hb dX10_digest_159 rfl (lv_at hl 0 rfl) ?_
    refine lv_aload_n hx hb dX10_digest_160 rfl (lv_at hl 0 rfl) ?_
    refine lv_iload_n hx hb dX10_digest_161 rfl (lv_at hl 1 rfl) ?_
    refine m_cV (M2 := M_X10_countOf) (As := [.int x1]) (rest := [.ref (Ad E 63)]) h C0 hH hl kc_X10_countOf ki_X10_countOf kx_X10_countOf ob_63 kM_X10_247 rfl (Nat.le_of_ble_eq_true rfl) (Nat.le_of_ble_eq_true rfl) ⟨Nat.le_of_ble_eq_true rfl, Nat.le_of_ble_eq_true rfl⟩ dX10_digest_162 rfl (fun r τ2 H locs hq hH => ?_)
    obtain ⟨r3, rfl, h⟩ := hq
    refine lv_i2l hx hb dX10_digest_165 rfl ?_
    refine m_cV (M2 := M_X10_say) (As := [.long r3.toInt64]) (rest := []) h C0 hH hl kc_X10_say ki_X10_say kx_X10_say ob_63 kM_X10_256 rfl (Nat.le_of_ble_eq_true rfl) (Nat.le_of_ble_eq_true rfl) ⟨Nat.le_of_ble_eq_true rfl, Nat.le_of_ble_eq_true rfl⟩ dX10_digest_166 rfl (fun r τ4 H locs hq hH => ?_)
    obtain ⟨rfl, h⟩ := hq
    refine lv_iinc (v := (x1 + 1)) (lv' := [(1, .int (x1 + 1)), (0, .ref (Ad E 63))]) hx hb dX10_digest_169 hl (k := 1) rfl rfl (by decide) rfl (fun ls hl => ?_)
    refine lv_goto (tgt := 153) hx hb dX10_digest_172 (by decide) ?_
    exact h p e R s m args below meth c Z cells slots H locs ls C0 hH (lv_sub hl [1, 0] rfl) hret
