def r_X10_lookOf_0 (E : EE) (x1 : Int32) (σ : Mm) (Q : Int32 → Mm → Prop) : Prop := Rn E M_X10_lookOf 0 [(0, .ref (Ad E 63)), (1, .int x1)] [] σ (qi Q)
def r_X10_lookOf_15 (E : EE) (x1 : Int32) (x2 : Int32) (x3 : Int32) (x4 : Int32) (x5 : Int32) (σ : Mm) (Q : Int32 → Mm → Prop) : Prop := Rn E M_X10_lookOf 15 [(0, .ref (Ad E 63)), (1, .int x1), (2, .int x2), (3, .int x3), (4, .int x4), (5, .int x5)] [] σ (qi Q)
def r_X10_lookOf_35 (E : EE) (x1 : Int32) (x2 : Int32) (x3 : Int32) (x4 : Int32) (x5 : Int32) (x6 : Int32) (x7 : Int32) (x8 : Int32) (σ : Mm) (Q : Int32 → Mm → Prop) : Prop := Rn E M_X10_lookOf 35 [(0, .ref (Ad E 63)), (1, .int x1), (2, .int x2), (3, .int x3), (4, .int x4), (5, .int x5), (6, .int x6), (7, .int x7), (8, .int x8)] [] σ (qi Q)
set_option maxRecDepth 20000 in
set_option maxHeartbeats 4000000 in
theorem s_X10_lookOf_0 (E : EE) (x1 : Int32) (σ : Mm) (Q : Int32 → Mm → Prop) (h : r_X10_gravesOf_0 E x1 σ (fun r2 τ1 => r_X10_lookOf_15 E x1 r2 (-1) 10 1 τ1 Q)) : r_X10_lookOf_0 E x1 σ Q := by
  intro p e R s m args below meth c Z cells slots H locs ls C0 hH hl hret
  have hx := C0.1
  have hb : c.code = cX10_lookOf := C0.2.1
  have hl : lv_has ls 11 [(0, .ref (Ad E 63)), (1, .int x1)] := hl
  refine lv_aload_n hx hb dX10_lookOf_0 rfl (lv_at hl 0 rfl) ?_
  refine lv_iload_n hx hb dX10_lookOf_1 rfl (lv_at hl 1 rfl) ?_
  refine m_cV (M2 := M_X10_gravesOf) (As := [.int x1]) (rest := []) h C0 hH hl kc_X10_gravesOf ki_X10_gravesOf kx_X10_gravesOf ob_63 kM_X10_142 rfl (Nat.le_of_ble_eq_true rfl) (Nat.le_of_ble_eq_true rfl) ⟨Nat.le_of_ble_eq_true rfl, Nat.le_of_ble_eq_true rfl⟩ dX10_lookOf_2 rfl (fun r τ1 H locs hq hH => ?_)
  obtain ⟨r2, rfl, h⟩ := hq
  refine lv_istore_n (lv' := [(2, .int r2), (0, .ref (Ad E 63)), (1, .int x1)]) hx hb dX10_lookOf_5 rfl hl (by decide) rfl (fun ls hl => ?_)
  refine lv_iconst (v := (-1)) hx hb dX10_lookOf_6 (by decide) ?_
  refine lv_istore_n (lv' := [(3, .int (-1)), (2, .int r2), (0, .ref (Ad E 63)), (1, .int x1)]) hx hb dX10_lookOf_7 rfl hl (by decide) rfl (fun ls hl => ?_)
  refine lv_bipush (v := 10) hx hb dX10_lookOf_8 (by decide) ?_
  refine lv_istore (lv' := [(4, .int 10), (3, .int (-1)), (2, .int r2), (0, .ref (Ad E 63)), (1, .int x1)]) hx hb dX10_lookOf_10 hl (by decide) rfl (fun ls hl => ?_)
  refine lv_iconst (v := 1) hx hb dX10_lookOf_12 (by decide) ?_
  refine lv_istore (lv' := [(5, .int 1), (4, .int 10), (3, .int (-1)), (2, .int r2), (0, .ref (Ad E 63)), (1, .int x1)]) hx hb dX10_lookOf_13 hl (by decide) rfl (fun ls hl => ?_)
  exact h p e R s m args below meth c Z cells slots H locs ls C0 hH (lv_sub hl [4, 5, 3, 2, 1, 0] rfl) hret
set_option maxRecDepth 20000 in
set_option maxHeartbeats 4000000 in
theorem s_X10_lookOf_15 (E : EE) (x1 : Int32) (x2 : Int32) (x3 : Int32) (x4 : Int32) (x5 : Int32) (σ : Mm) (Q : Int32 → Mm → Prop) (h : ((7 ≤ x5 → Q x3 σ) ∧ (¬ 7 ≤ x5 → ((x2 = 0 → Q x3 σ) ∧ (¬ x2 = 0 → r_X10_lookOf_35 E x1 x2 x3 x4 x5 0 0 1 σ Q))))) : r_X10_lookOf_15 E x1 x2 x3 x4 x5 σ Q := by
  intro p e R s m args below meth c Z cells slots H locs ls C0 hH hl hret
  have hx := C0.1
  have hb : c.code = cX10_lookOf := C0.2.1
  have hl : lv_has ls 11 [(0, .ref (Ad E 63)), (1, .int x1), (2, .int x2), (3, .int x3), (4, .int x4), (5, .int x5)] := hl
  refine lv_iload hx hb dX10_lookOf_15 (lv_at hl 5 rfl) ?_
  refine lv_bipush (v := 7) hx hb dX10_lookOf_17 (by decide) ?_
  refine lv_icmp_ge (tgt := 148) hx hb dX10_lookOf_19 (by decide) (fun hc1 => ?_) (fun hc1 => ?_)
  · have h := h.1 hc1
    refine lv_iload_n hx hb dX10_lookOf_148 rfl (lv_at hl 3 rfl) ?_
    exact hret (some (.int x3)) _ _ _ _ _ ⟨_, rfl, h⟩ hH ⟨dX10_lookOf_149, .int, rfl, rfl⟩
  · have h := h.2 hc1
    refine lv_iload_n hx hb dX10_lookOf_22 rfl (lv_at hl 2 rfl) ?_
    refine lv_if_eq (tgt := 148) hx hb dX10_lookOf_23 (by decide) (fun hc2 => ?_) (fun hc2 => ?_)
    · have h := h.1 hc2
      refine lv_iload_n hx hb dX10_lookOf_148 rfl (lv_at hl 3 rfl) ?_
      exact hret (some (.int x3)) _ _ _ _ _ ⟨_, rfl, h⟩ hH ⟨dX10_lookOf_149, .int, rfl, rfl⟩
    · have h := h.2 hc2
      refine lv_iconst (v := 0) hx hb dX10_lookOf_26 (by decide) ?_
      refine lv_istore (lv' := [(6, .int 0), (0, .ref (Ad E 63)), (1, .int x1), (2, .int x2), (3, .int x3), (4, .int x4), (5, .int x5)]) hx hb dX10_lookOf_27 hl (by decide) rfl (fun ls hl => ?_)
      refine lv_iconst (v := 0) hx hb dX10_lookOf_29 (by decide) ?_
      refine lv_istore (lv' := [(7, .int 0), (6, .int 0), (0, .ref (Ad E 63)), (1, .int x1), (2, .int x2), (3, .int x3), (4, .int x4), (5, .int x5)]) hx hb dX10_lookOf_30 hl (by decide) rfl (fun ls hl => ?_)
      refine lv_iconst (v := 1) hx hb dX10_lookOf_32 (by decide) ?_
      refine lv_istore (lv' := [(8, .int 1), (7, .int 0), (6, .int 0), (0, .ref (Ad E 63)), (1, .int x1), (2, .int x2), (3, .int x3), (4, .int x4), (5, .int x5)]) hx hb dX10_lookOf_33 hl (by decide) rfl (fun ls hl => ?_)
      exact h p e R s m args below meth c Z cells slots H locs ls C0 hH (lv_sub hl [3, 4, 5, 6, 7, 8, 2, 1, 0] rfl) hret
set_option maxRecDepth 20000 in
set_option maxHeartbeats 4000000 in
theorem s_X10_lookOf_35 (E : EE) (x1 : Int32) (x2 : Int32) (x3 : Int32) (x4 : Int32) (x5 : Int32) (x6 : Int32) (x7 : Int32) (x8 : Int32) (σ : Mm) (Q : Int32 → Mm → Prop) (h : ((10 ≤ x8 → ((x6 ≤ x7 → ((x4 ≤ x7 → ((x4 ≤ x7 → r_X10_lookOf_15 E x1 x2 x3 x4 (x5 + 1) σ Q) ∧ (¬ x4 ≤ x7 → r_X10_lookOf_15 E x1 x2 x3 x7 (x5 + 1) σ Q))) ∧ (¬ x4 ≤ x7 → ((x4 ≤ x7 → r_X10_lookOf_15 E x1 x2 x5 x4 (x5 + 1) σ Q) ∧ (¬ x4 ≤ x7 → r_X10_lookOf_15 E x1 x2 x5 x7 (x5 + 1) σ Q))))) ∧ (¬ x6 ≤ x7 → ((x4 ≤ x6 → ((x4 ≤ x6 → r_X10_lookOf_15 E x1 x2 x3 x4 (x5 + 1) σ Q) ∧ (¬ x4 ≤ x6 → r_X10_lookOf_15 E x1 x2 x3 x6 (x5 + 1) σ Q))) ∧ (¬ x4 ≤ x6 → ((x4 ≤ x6 → r_X10_lookOf_15 E x1 x2 x5 x4 (x5 + 1) σ Q) ∧ (¬ x4 ≤ x6 → r_X10_lookOf_15 E x1 x2 x5 x6 (x5 + 1) σ Q))))))) ∧ (¬ 10 ≤ x8 → ((¬ ((x2 >>> ((x8 - 1) &&& 31)) &&& 1) = 1 → r_X10_lookOf_35 E x1 x2 x3 x4 x5 (x6 + 0) (x7 + (((x2 >>> ((x8 - 1) &&& 31)) &&& 1) - 0)) (x8 + 1) σ Q) ∧ (((x2 >>> ((x8 - 1) &&& 31)) &&& 1) = 1 → r_X10_sitsIf_0 E x1 x8 x5 σ (fun r11 τ10 => r_X10_lookOf_35 E x1 x2 x3 x4 x5 (x6 + r11) (x7 + (((x2 >>> ((x8 - 1) &&& 31)) &&& 1) - r11)) (x8 + 1) τ10 Q)))))) : r_X10_lookOf_35 E x1 x2 x3 x4 x5 x6 x7 x8 σ Q := by
  intro p e R s m args below meth c Z cells slots H locs ls C0 hH hl hret
  have hx := C0.1
  have hb : c.code = cX10_lookOf := C0.2.1
  have hl : lv_has ls 11 [(0, .ref (Ad E 63)), (1, .int x1), (2, .int x2), (3, .int x3), (4, .int x4), (5, .int x5), (6, .int x6), (7, .int x7), (8, .int x8)] := hl
  refine lv_iload hx hb dX10_lookOf_35 (lv_at hl 8 rfl) ?_
  refine lv_bipush (v := 10) hx hb dX10_lookOf_37 (by decide) ?_
  refine lv_icmp_ge (tgt := 96) hx hb dX10_lookOf_39 (by decide) (fun hc1 => ?_) (fun hc1 => ?_)
  · have h := h.1 hc1
    refine lv_iload hx hb dX10_lookOf_96 (lv_at hl 6 rfl) ?_
    refine lv_iload hx hb dX10_lookOf_98 (lv_at hl 7 rfl) ?_
    refine lv_icmp_le (tgt := 108) hx hb dX10_lookOf_100 (by decide) (fun hc2 => ?_) (fun hc2 => ?_)
    · have h := h.1 hc2
      refine lv_iload hx hb dX10_lookOf_108 (lv_at hl 7 rfl) ?_
      refine lv_istore (lv' := [(8, .int x7), (0, .ref (Ad E 63)), (1, .int x1), (2, .int x2), (3, .int x3), (4, .int x4), (5, .int x5), (6, .int x6), (7, .int x7)]) hx hb dX10_lookOf_110 hl (by decide) rfl (fun ls hl => ?_)
      refine lv_iload hx hb dX10_lookOf_112 (lv_at hl 0 rfl) ?_
      refine lv_iload hx hb dX10_lookOf_114 (lv_at hl 5 rfl) ?_
      refine lv_icmp_ge (tgt := 124) hx hb dX10_lookOf_116 (by decide) (fun hc3 => ?_) (fun hc3 => ?_)
      · have h := h.1 hc3
        refine lv_iload_n hx hb dX10_lookOf_124 rfl (lv_at hl 4 rfl) ?_
        refine lv_istore_n (lv' := [(3, .int x3), (8, .int x7), (0, .ref (Ad E 63)), (1, .int x1), (2, .int x2), (4, .int x4), (5, .int x5), (6, .int x6), (7, .int x7)]) hx hb dX10_lookOf_125 rfl hl (by decide) rfl (fun ls hl => ?_)
        refine lv_iload hx hb dX10_lookOf_126 (lv_at hl 1 rfl) ?_
        refine lv_iload hx hb dX10_lookOf_128 (lv_at hl 5 rfl) ?_
        refine lv_icmp_ge (tgt := 138) hx hb dX10_lookOf_130 (by decide) (fun hc4 => ?_) (fun hc4 => ?_)
        · have h := h.1 hc4
          refine lv_iload hx hb dX10_lookOf_138 (lv_at hl 5 rfl) ?_
          refine lv_istore (lv' := [(4, .int x4), (3, .int x3), (8, .int x7), (0, .ref (Ad E 63)), (1, .int x1), (2, .int x2), (5, .int x5), (6, .int x6), (7, .int x7)]) hx hb dX10_lookOf_140 hl (by decide) rfl (fun ls hl => ?_)
          refine lv_iinc (v := (x5 + 1)) (lv' := [(5, .int (x5 + 1)), (4, .int x4), (3, .int x3), (8, .int x7), (0, .ref (Ad E 63)), (1, .int x1), (2, .int x2), (6, .int x6), (7, .int x7)]) hx hb dX10_lookOf_142 hl (k := 6) rfl rfl (by decide) rfl (fun ls hl => ?_)
          refine lv_goto (tgt := 15) hx hb dX10_lookOf_145 (by decide) ?_
          exact h p e R s m args below meth c Z cells slots H locs ls C0 hH (lv_sub hl [4, 5, 6, 2, 1, 0] rfl) hret
        · have h := h.2 hc4
          refine lv_iload hx hb dX10_lookOf_133 (lv_at hl 1 rfl) ?_
          refine lv_goto (tgt := 140) hx hb dX10_lookOf_135 (by decide) ?_
          refine lv_istore (lv' := [(4, .int x7), (3, .int x3), (8, .int x7), (0, .ref (Ad E 63)), (1, .int x1), (2, .int x2), (5, .int x5), (6, .int x6), (7, .int x7)]) hx hb dX10_lookOf_140 hl (by decide) rfl (fun ls hl => ?_)
          refine lv_iinc (v := (x5 + 1)) (lv' := [(5, .int (x5 + 1)), (4, .int x7), (3, .int x3), (8, .int x7), (0, .ref (Ad E 63)), (1, .int x1), (2, .int x2), (6, .int x6), (7, .int x7)]) hx hb dX10_lookOf_142 hl (k := 6) rfl rfl (by decide) rfl (fun ls hl => ?_)
          refine lv_goto (tgt := 15) hx hb dX10_lookOf_145 (by decide) ?_
          exact h p e R s m args below meth c Z cells slots H locs ls C0 hH (lv_sub hl [4, 5, 6, 2, 1, 0] rfl) hret
      · have h := h.2 hc3
        refine lv_iload hx hb dX10_lookOf_119 (lv_at hl 6 rfl) ?_
        refine lv_goto (tgt := 125) hx hb dX10_lookOf_121 (by decide) ?_
        refine lv_istore_n (lv' := [(3, .int x5), (8, .int x7), (0, .ref (Ad E 63)), (1, .int x1), (2, .int x2), (4, .int x4), (5, .int x5), (6, .int x6), (7, .int x7)]) hx hb dX10_lookOf_125 rfl hl (by decide) rfl (fun ls hl => ?_)
        refine lv_iload hx hb dX10_lookOf_126 (lv_at hl 1 rfl) ?_
        refine lv_iload hx hb dX10_lookOf_128 (lv_at hl 5 rfl) ?_
        refine lv_icmp_ge (tgt := 138) hx hb dX10_lookOf_130 (by decide) (fun hc5 => ?_) (fun hc5 => ?_)
        · have h := h.1 hc5
          refine lv_iload hx hb dX10_lookOf_138 (lv_at hl 5 rfl) ?_
          refine lv_istore (lv' := [(4, .int x4), (3, .int x5), (8, .int x7), (0, .ref (Ad E 63)), (1, .int x1), (2, .int x2), (5, .int x5), (6, .int x6), (7, .int x7)]) hx hb dX10_lookOf_140 hl (by decide) rfl (fun ls hl => ?_)
          refine lv_iinc (v := (x5 + 1)) (lv' := [(5, .int (x5 + 1)), (4, .int x4), (3, .int x5), (8, .int x7), (0, .ref (Ad E 63)), (1, .int x1), (2, .int x2), (6, .int x6), (7, .int x7)]) hx hb dX10_lookOf_142 hl (k := 6) rfl rfl (by decide) rfl (fun ls hl => ?_)
          refine lv_goto (tgt := 15) hx hb dX10_lookOf_145 (by decide) ?_
          exact h p e R s m args below meth c Z cells slots H locs ls C0 hH (lv_sub hl [4, 5, 6, 2, 1, 0] rfl) hret
        · have h := h.2 hc5
          refine lv_iload hx hb dX10_lookOf_133 (lv_at hl 1 rfl) ?_
          refine lv_goto (tgt := 140) hx hb dX10_lookOf_135 (by decide) ?_
          refine lv_istore (lv' := [(4, .int x7), (3, .int x5), (8, .int x7), (0, .ref (Ad E 63)), (1, .int x1), (2, .int x2), (5, .int x5), (6, .int x6), (7, .int x7)]) hx hb dX10_lookOf_140 hl (by decide) rfl (fun ls hl => ?_)
          refine lv_iinc (v := (x5 + 1)) (lv' := [(5, .int (x5 + 1)), (4, .int x7), (3, .int x5), (8, .int x7), (0, .ref (Ad E 63)), (1, .int x1), (2, .int x2), (6, .int x6), (7, .int x7)]) hx hb dX10_lookOf_142 hl (k := 6) rfl rfl (by decide) rfl (fun ls hl => ?_)
          refine lv_goto (tgt := 15) hx hb dX10_lookOf_145 (by decide) ?_
          exact h p e R s m args below meth c Z cells slots H locs ls C0 hH (lv_sub hl [4, 5, 6, 2, 1, 0] rfl) hret
    · have h := h.2 hc2
      refine lv_iload hx hb dX10_lookOf_103 (lv_at hl 6 rfl) ?_
      refine lv_goto (tgt := 110) hx hb dX10_lookOf_105 (by decide) ?_
      refine lv_istore (lv' := [(8, .int x6), (0, .ref (Ad E 63)), (1, .int x1), (2, .int x2), (3, .int x3), (4, .int x4), (5, .int x5), (6, .int x6), (7, .int x7)]) hx hb dX10_lookOf_110 hl (by decide) rfl (fun ls hl => ?_)
      refine lv_iload hx hb dX10_lookOf_112 (lv_at hl 0 rfl) ?_
      refine lv_iload hx hb dX10_lookOf_114 (lv_at hl 5 rfl) ?_
      refine lv_icmp_ge (tgt := 124) hx hb dX10_lookOf_116 (by decide) (fun hc6 => ?_) (fun hc6 => ?_)
      · have h := h.1 hc6
        refine lv_iload_n hx hb dX10_lookOf_124 rfl (lv_at hl 4 rfl) ?_
        refine lv_istore_n (lv' := [(3, .int x3), (8, .int x6), (0, .ref (Ad E 63)), (1, .int x1), (2, .int x2), (4, .int x4), (5, .int x5), (6, .int x6), (7, .int x7)]) hx hb dX10_lookOf_125 rfl hl (by decide) rfl (fun ls hl => ?_)
        refine lv_iload hx hb dX10_lookOf_126 (lv_at hl 1 rfl) ?_
        refine lv_iload hx hb dX10_lookOf_128 (lv_at hl 5 rfl) ?_
        refine lv_icmp_ge (tgt := 138) hx hb dX10_lookOf_130 (by decide) (fun hc7 => ?_) (fun hc7 => ?_)
        · have h := h.1 hc7
          refine lv_iload hx hb dX10_lookOf_138 (lv_at hl 5 rfl) ?_
          refine lv_istore (lv' := [(4, .int x4), (3, .int x3), (8, .int x6), (0, .ref (Ad E 63)), (1, .int x1), (2, .int x2), (5, .int x5), (6, .int x6), (7, .int x7)]) hx hb dX10_lookOf_140 hl (by decide) rfl (fun ls hl => ?_)
          refine lv_iinc (v := (x5 + 1)) (lv' := [(5, .int (x5 + 1)), (4, .int x4), (3, .int x3), (8, .int x6), (0, .ref (Ad E 63)), (1, .int x1), (2, .int x2), (6, .int x6), (7, .int x7)]) hx hb dX10_lookOf_142 hl (k := 6) rfl rfl (by decide) rfl (fun ls hl => ?_)
          refine lv_goto (tgt := 15) hx hb dX10_lookOf_145 (by decide) ?_
          exact h p e R s m args below meth c Z cells slots H locs ls C0 hH (lv_sub hl [4, 5, 6, 2, 1, 0] rfl) hret
        · have h := h.2 hc7
          refine lv_iload hx hb dX10_lookOf_133 (lv_at hl 1 rfl) ?_
          refine lv_goto (tgt := 140) hx hb dX10_lookOf_135 (by decide) ?_
          refine lv_istore (lv' := [(4, .int x6), (3, .int x3), (8, .int x6), (0, .ref (Ad E 63)), (1, .int x1), (2, .int x2), (5, .int x5), (6, .int x6), (7, .int x7)]) hx hb dX10_lookOf_140 hl (by decide) rfl (fun ls hl => ?_)
          refine lv_iinc (v := (x5 + 1)) (lv' := [(5, .int (x5 + 1)), (4, .int x6), (3, .int x3), (8, .int x6), (0, .ref (Ad E 63)), (1, .int x1), (2, .int x2), (6, .int x6), (7, .int x7)]) hx hb dX10_lookOf_142 hl (k := 6) rfl rfl (by decide) rfl (fun ls hl => ?_)
          refine lv_goto (tgt := 15) hx hb dX10_lookOf_145 (by decide) ?_
          exact h p e R s m args below meth c Z cells slots H locs ls C0 hH (lv_sub hl [4, 5, 6, 2, 1, 0] rfl) hret
      · have h := h.2 hc6
        refine lv_iload hx hb dX10_lookOf_119 (lv_at hl 6 rfl) ?_
        refine lv_goto (tgt := 125) hx hb dX10_lookOf_121 (by decide) ?_
        refine lv_istore_n (lv' := [(3, .int x5), (8, .int x6), (0, .ref (Ad E 63)), (1, .int x1), (2, .int x2), (4, .int x4), (5, .int x5), (6, .int x6), (7, .int x7)]) hx hb dX10_lookOf_125 rfl hl (by decide) rfl (fun ls hl => ?_)
        refine lv_iload hx hb dX10_lookOf_126 (lv_at hl 1 rfl) ?_
        refine lv_iload hx hb dX10_lookOf_128 (lv_at hl 5 rfl) ?_
        refine lv_icmp_ge (tgt := 138) hx hb dX10_lookOf_130 (by decide) (fun hc8 => ?_) (fun hc8 => ?_)
        · have h := h.1 hc8
          refine lv_iload hx hb dX10_lookOf_138 (lv_at hl 5 rfl) ?_
          refine lv_istore (lv' := [(4, .int x4), (3, .int x5), (8, .int x6), (0, .ref (Ad E 63)), (1, .int x1), (2, .int x2), (5, .int x5), (6, .int x6), (7, .int x7)]) hx hb dX10_lookOf_140 hl (by decide) rfl (fun ls hl => ?_)
          refine lv_iinc (v := (x5 + 1)) (lv' := [(5, .int (x5 + 1)), (4, .int x4), (3, .int x5), (8, .int x6), (0, .ref (Ad E 63)), (1, .int x1), (2, .int x2), (6, .int x6), (7, .int x7)]) hx hb dX10_lookOf_142 hl (k := 6) rfl rfl (by decide) rfl (fun ls hl => ?_)
          refine lv_goto (tgt := 15) hx hb dX10_lookOf_145 (by decide) ?_
          exact h p e R s m args below meth c Z cells slots H locs ls C0 hH (lv_sub hl [4, 5, 6, 2, 1, 0] rfl) hret
        · have h := h.2 hc8
          refine lv_iload hx hb dX10_lookOf_133 (lv_at hl 1 rfl) ?_
          refine lv_goto (tgt := 140) hx hb dX10_lookOf_135 (by decide) ?_
          refine lv_istore (lv' := [(4, .int x6), (3, .int x5), (8, .int x6), (0, .ref (Ad E 63)), (1, .int x1), (2, .int x2), (5, .int x5), (6, .int x6), (7, .int x7)]) hx hb dX10_lookOf_140 hl (by decide) rfl (fun ls hl => ?_)
          refine lv_iinc (v := (x5 + 1)) (lv' := [(5, .int (x5 + 1)), (4, .int x6), (3, .int x5), (8, .int x6), (0, .ref (Ad E 63)), (1, .int x1), (2, .int x2), (6, .int x6), (7, .int x7)]) hx hb dX10_lookOf_142 hl (k := 6) rfl rfl (by decide) rfl (fun ls hl => ?_)
          refine lv_goto (tgt := 15) hx hb dX10_lookOf_145 (by decide) ?_
          exact h p e R s m args below meth c Z cells slots H locs ls C0 hH (lv_sub hl [4, 5, 6, 2, 1, 0] rfl) hret
  · have h := h.2 hc1
    refine lv_iload_n hx hb dX10_lookOf_42 rfl (lv_at hl 2 rfl) ?_
    refine lv_iload hx hb dX10_lookOf_43 (lv_at hl 8 rfl) ?_
    refine lv_iconst (v := 1) hx hb dX10_lookOf_45 (by decide) ?_
    refine lv_isub hx hb dX10_lookOf_46 ?_
    refine lv_ishr hx hb dX10_lookOf_47 ?_
    refine lv_iconst (v := 1) hx hb dX10_lookOf_48 (by decide) ?_
    refine lv_iand hx hb dX10_lookOf_49 ?_
    refine lv_istore (lv' := [(9, .int ((x2 >>> ((x8 - 1) &&& 31)) &&& 1)), (0, .ref (Ad E 63)), (1, .int x1), (2, .int x2), (3, .int x3), (4, .int x4), (5, .int x5), (6, .int x6), (7, .int x7), (8, .int x8)]) hx hb dX10_lookOf_50 hl (by decide) rfl (fun ls hl => ?_)
    refine lv_iload hx hb dX10_lookOf_52 (lv_at hl 0 rfl) ?_
    refine lv_iconst (v := 1) hx hb dX10_lookOf_54 (by decide) ?_
    refine lv_icmp_ne (tgt := 70) hx hb dX10_lookOf_55 (by decide) (fun hc9 => ?_) (fun hc9 => ?_)
    · have h := h.1 hc9
      refine lv_iconst (v := 0) hx hb dX10_lookOf_70 (by decide) ?_
      refine lv_istore (lv' := [(10, .int 0), (9, .int ((x2 >>> ((x8 - 1) &&& 31)) &&& 1)), (0, .ref (Ad E 63)), (1, .int x1), (2, .int x2), (3, .int x3), (4, .int x4), (5, .int x5), (6, .int x6), (7, .int x7), (8, .int x8)]) hx hb dX10_lookOf_71 hl (by decide) rfl (fun ls hl => ?_)
      refine lv_iload hx hb dX10_lookOf_73 (lv_at hl 8 rfl) ?_
      refine lv_iload hx hb dX10_lookOf_75 (lv_at hl 0 rfl) ?_
      refine lv_iadd hx hb dX10_lookOf_77 ?_
      refine lv_istore (lv' := [(6, .int (x6 + 0)), (10, .int 0), (9, .int ((x2 >>> ((x8 - 1) &&& 31)) &&& 1)), (0, .ref (Ad E 63)), (1, .int x1), (2, .int x2), (3, .int x3), (4, .int x4), (5, .int x5), (7, .int x7), (8, .int x8)]) hx hb dX10_lookOf_78 hl (by decide) rfl (fun ls hl => ?_)
      refine lv_iload hx hb dX10_lookOf_80 (lv_at hl 9 rfl) ?_
      refine lv_iload hx hb dX10_lookOf_82 (lv_at hl 2 rfl) ?_
      refine lv_iload hx hb dX10_lookOf_84 (lv_at hl 1 rfl) ?_
      refine lv_isub hx hb dX10_lookOf_86 ?_
      refine lv_iadd hx hb dX10_lookOf_87 ?_
      refine lv_istore (lv' := [(7, .int (x7 + (((x2 >>> ((x8 - 1) &&& 31)) &&& 1) - 0))), (6, .int (x6 + 0)), (10, .int 0), (9, .int ((x2 >>> ((x8 - 1) &&& 31)) &&& 1)), (0, .ref (Ad E 63)), (1, .int x1), (2, .int x2), (3, .int x3), (4, .int x4), (5, .int x5), (8, .int x8)]) hx hb dX10_lookOf_88 hl (by decide) rfl (fun ls hl => ?_)
      refine lv_iinc (v := (x8 + 1)) (lv' := [(8, .int (x8 + 1)), (7, .int (x7 + (((x2 >>> ((x8 - 1) &&& 31)) &&& 1) - 0))), (6, .int (x6 + 0)), (10, .int 0), (9, .int ((x2 >>> ((x8 - 1) &&& 31)) &&& 1)), (0, .ref (Ad E 63)), (1, .int x1), (2, .int x2), (3, .int x3), (4, .int x4), (5, .int x5)]) hx hb dX10_lookOf_90 hl (k := 10) rfl rfl (by decide) rfl (fun ls hl => ?_)
      refine lv_goto (tgt := 35) hx hb dX10_lookOf_93 (by decide) ?_
      exact h p e R s m args below meth c Z cells slots H locs ls C0 hH (lv_sub hl [5, 6, 7, 8, 9, 10, 2, 1, 0] rfl) hret
    · have h := h.2 hc9
      refine lv_aload_n hx hb dX10_lookOf_58 rfl (lv_at hl 1 rfl) ?_
      refine lv_iload_n hx hb dX10_lookOf_59 rfl (lv_at hl 2 rfl) ?_
      refine lv_iload hx hb dX10_lookOf_60 (lv_at hl 9 rfl) ?_
      refine lv_iload hx hb dX10_lookOf_62 (lv_at hl 6 rfl) ?_
      refine m_cV (M2 := M_X10_sitsIf) (As := [.int x1, .int x8, .int x5]) (rest := []) h C0 hH hl kc_X10_sitsIf ki_X10_sitsIf kx_X10_sitsIf ob_63 kM_X10_210 rfl (Nat.le_of_ble_eq_true rfl) (Nat.le_of_ble_eq_true rfl) ⟨Nat.le_of_ble_eq_true rfl, Nat.le_of_ble_eq_true rfl⟩ dX10_lookOf_64 rfl (fun r τ10 H locs hq hH => ?_)
      obtain ⟨r11, rfl, h⟩ := hq
      refine lv_goto (tgt := 71) hx hb dX10_lookOf_67 (by decide) ?_
      refine lv_istore (lv' := [(10, .int r11), (9, .int ((x2 >>> ((x8 - 1) &&& 31)) &&& 1)), (0, .ref (Ad E 63)), (1, .int x1), (2, .int x2), (3, .int x3), (4, .int x4), (5, .int x5), (6, .int x6), (7, .int x7), (8, .int x8)]) hx hb dX10_lookOf_71 hl (by decide) rfl (fun ls hl => ?_)
      refine lv_iload hx hb dX10_lookOf_73 (lv_at hl 8 rfl) ?_
      refine lv_iload hx hb dX10_lookOf_75 (lv_at hl 0 rfl) ?_
      refine lv_iadd hx hb dX10_lookOf_77 ?_
      refine lv_istore (lv' := [(6, .int (x6 + r11)), (10, .int r11), (9, .int ((x2 >>> ((x8 - 1) &&& 31)) &&& 1)), (0, .ref (Ad E 63)), (1, .int x1), (2, .int x2), (3, .int x3), (4, .int x4), (5, .int x5), (7, .int x7), (8, .int x8)]) hx hb dX10_lookOf_78 hl (by decide) rfl (fun ls hl => ?_)
      refine lv_iload hx hb dX10_lookOf_80 (lv_at hl 9 rfl) ?_
      refine lv_iload hx hb dX10_lookOf_82 (lv_at hl 2 rfl) ?_
      refine lv_iload hx hb dX10_lookOf_84 (lv_at hl 1 rfl) ?_
      refine lv_isub hx hb dX10_lookOf_86 ?_
      refine lv_iadd hx hb dX10_lookOf_87 ?_
      refine lv_istore (lv' := [(7, .int (x7 + (((x2 >>> ((x8 - 1) &&& 31)) &&& 1) - r11))), (6, .int (x6 + r11)), (10, .int r11), (9, .int ((x2 >>> ((x8 - 1) &&& 31)) &&& 1)), (0, .ref (Ad E 63)), (1, .int x1), (2, .int x2), (3, .int x3), (4, .int x4), (5, .int x5), (8, .int x8)]) hx hb dX10_lookOf_88 hl (by decide) rfl (fun ls hl => ?_)
      refine lv_iinc (v := (x8 + 1)) (lv' := [(8, .int (x8 + 1)), (7, .int (x7 + (((x2 >>> ((x8 - 1) &&& 31)) &&& 1) - r11))), (6, .int (x6 + r11)), (10, .int r11), (9, .int ((x2 >>> ((x8 - 1) &&& 31)) &&& 1)), (0, .ref (Ad E 63)), (1, .int x1), (2, .int x2), (3, .int x3), (4, .int x4), (5, .int x5)]) hx hb dX10_lookOf_90 hl (k := 10) rfl rfl (by decide) rfl (fun ls hl => ?_)
      refine lv_goto (tgt := 35) hx hb dX10_lookOf_93 (by decide) ?_
      exact h p e R s m args below meth c Z cells slots H locs ls C0 hH (lv_sub hl [5, 6, 7, 8, 9, 10, 2, 1, 0] rfl) hret

def r_X10_tellWrong_0 (E : EE) (x1 : Int32) (x2 : Int32) (σ : Mm) (Q : Int32 → Mm → Prop) : Prop := Rn E M_X10_tellWrong 0 [(0, .ref (Ad E 63)), (1, .int x1), (2, .int x2)] [] σ (qi Q)
set_option maxRecDepth 20000 in
set_option maxHeartbeats 4000000 in
theorem s_X10_tellWrong_0 (E : EE) (x1 : Int32) (x2 : Int32) (σ : Mm) (Q : Int32 → Mm → Prop) (h : ((x2 = 0 → (vp_in x1 8 ∧ Q (σ 68 x1.toNatClampNeg) σ)) ∧ (x2 = 1 → (vp_in x1 8 ∧ Q (σ 69 x1.toNatClampNeg) σ)) ∧ (x2 = 2 → (vp_in x1 8 ∧ Q (σ 70 x1.toNatClampNeg) σ)) ∧ (x2 = 3 → Q (((σ 63 6) >>> (x1 &&& 31)) &&& 1) σ) ∧ (x2 = 4 → r_X10_gravesOf_0 E x1 σ (fun r7 τ6 => Q r7 τ6)) ∧ (x2 = 5 → r_X10_lookOf_0 E x1 σ (fun r10 τ9 => Q r10 τ9)) ∧ (¬ x2 = 0 → ¬ x2 = 1 → ¬ x2 = 2 → ¬ x2 = 3 → ¬ x2 = 4 → ¬ x2 = 5 → Q (-102) σ))) : r_X10_tellWrong_0 E x1 x2 σ Q := by
  intro p e R s m args below meth c Z cells slots H locs ls C0 hH hl hret
  have hx := C0.1
  have hb : c.code = cX10_tellWrong := C0.2.1
  have hl : lv_has ls 3 [(0, .ref (Ad E 63)), (1, .int x1), (2, .int x2)] := hl
  refine lv_iload_n hx hb dX10_tellWrong_0 rfl (lv_at hl 2 rfl) ?_
  by_cases hs1 : x2 = 0
  · have h := h.1 hs1
    refine m_tin (v := 0) (tgt := 40) C0 dX10_tellWrong_1 hs1 (by decide) (by decide) rfl (by decide) ?_
    refine lv_aload_n hx hb dX10_tellWrong_40 rfl (lv_at hl 0 rfl) ?_
    refine m_getr C0 hH f_63_12 68 rfl kF_X10_22 dX10_tellWrong_41 ?_
    refine lv_iload_n hx hb dX10_tellWrong_44 rfl (lv_at hl 1 rfl) ?_
    refine m_iald (x := σ 68 x1.toNatClampNeg) C0 hH a_68 h.1 dX10_tellWrong_45 rfl ?_
    have h := h.2
    exact hret (some (.int (σ 68 x1.toNatClampNeg))) _ _ _ _ _ ⟨_, rfl, h⟩ hH ⟨dX10_tellWrong_46, .int, rfl, rfl⟩
  have h := h.2
  by_cases hs2 : x2 = 1
  · have h := h.1 hs2
    refine m_tin (v := 1) (tgt := 47) C0 dX10_tellWrong_1 hs2 (by decide) (by decide) rfl (by decide) ?_
    refine lv_aload_n hx hb dX10_tellWrong_47 rfl (lv_at hl 0 rfl) ?_
    refine m_getr C0 hH f_63_13 69 rfl kF_X10_25 dX10_tellWrong_48 ?_
    refine lv_iload_n hx hb dX10_tellWrong_51 rfl (lv_at hl 1 rfl) ?_
    refine m_iald (x := σ 69 x1.toNatClampNeg) C0 hH a_69 h.1 dX10_tellWrong_52 rfl ?_
    have h := h.2
    exact hret (some (.int (σ 69 x1.toNatClampNeg))) _ _ _ _ _ ⟨_, rfl, h⟩ hH ⟨dX10_tellWrong_53, .int, rfl, rfl⟩
  have h := h.2
  by_cases hs3 : x2 = 2
  · have h := h.1 hs3
    refine m_tin (v := 2) (tgt := 54) C0 dX10_tellWrong_1 hs3 (by decide) (by decide) rfl (by decide) ?_
    refine lv_aload_n hx hb dX10_tellWrong_54 rfl (lv_at hl 0 rfl) ?_
    refine m_getr C0 hH f_63_14 70 rfl kF_X10_28 dX10_tellWrong_55 ?_
    refine lv_iload_n hx hb dX10_tellWrong_58 rfl (lv_at hl 1 rfl) ?_
    refine m_iald (x := σ 70 x1.toNatClampNeg) C0 hH a_70 h.1 dX10_tellWrong_59 rfl ?_
    have h := h.2
    exact hret (some (.int (σ 70 x1.toNatClampNeg))) _ _ _ _ _ ⟨_, rfl, h⟩ hH ⟨dX10_tellWrong_60, .int, rfl, rfl⟩
  have h := h.2
  by_cases hs4 : x2 = 3
  · have h := h.1 hs4
    refine m_tin (v := 3) (tgt := 61) C0 dX10_tellWrong_1 hs4 (by decide) (by decide) rfl (by decide) ?_
    refine lv_aload_n hx hb dX10_tellWrong_61 rfl (lv_at hl 0 rfl) ?_
    refine m_geti (x := σ 63 6) C0 hH f_63_6 kF_X10_109 dX10_tellWrong_62 rfl ?_
    refine lv_iload_n hx hb dX10_tellWrong_65 rfl (lv_at hl 1 rfl) ?_
    refine lv_ishr hx hb dX10_tellWrong_66 ?_
    refine lv_iconst (v := 1) hx hb dX10_tellWrong_67 (by decide) ?_
    refine lv_iand hx hb dX10_tellWrong_68 ?_
    exact hret (some (.int (((σ 63 6) >>> (x1 &&& 31)) &&& 1))) _ _ _ _ _ ⟨_, rfl, h⟩ hH ⟨dX10_tellWrong_69, .int, rfl, rfl⟩
  have h := h.2
  by_cases hs5 : x2 = 4
  · have h := h.1 hs5
    refine m_tin (v := 4) (tgt := 70) C0 dX10_tellWrong_1 hs5 (by decide) (by decide) rfl (by decide) ?_
    refine lv_aload_n hx hb dX10_tellWrong_70 rfl (lv_at hl 0 rfl) ?_
    refine lv_iload_n hx hb dX10_tellWrong_71 rfl (lv_at hl 1 rfl) ?_
    refine m_cV (M2 := M_X10_gravesOf) (As := [.int x1]) (rest := []) h C0 hH hl kc_X10_gravesOf ki_X10_gravesOf kx_X10_gravesOf ob_63 kM_X10_142 rfl (Nat.le_of_ble_eq_true rfl) (Nat.le_of_ble_eq_true rfl) ⟨Nat.le_of_ble_eq_true rfl, Nat.le_of_ble_eq_true rfl⟩ dX10_tellWrong_72 rfl (fun r τ6 H locs hq hH => ?_)
    obtain ⟨r7, rfl, h⟩ := hq
    exact hret (some (.int r7)) _ _ _ _ _ ⟨_, rfl, h⟩ hH ⟨dX10_tellWrong_75, .int, rfl, rfl⟩
  have h := h.2
  by_cases hs8 : x2 = 5
  · have h := h.1 hs8
    refine m_tin (v := 5) (tgt := 76) C0 dX10_tellWrong_1 hs8 (by decide) (by decide) rfl (by decide) ?_
    refine lv_aload_n hx hb dX10_tellWrong_76 rfl (lv_at hl 0 rfl) ?_
    refine lv_iload_n hx hb dX10_tellWrong_77 rfl (lv_at hl 1 rfl) ?_
    refine m_cV (M2 := M_X10_lookOf) (As := [.int x1]) (rest := []) h C0 hH hl kc_X10_lookOf ki_X10_lookOf kx_X10_lookOf ob_63 kM_X10_145 rfl (Nat.le_of_ble_eq_true rfl) (Nat.le_of_ble_eq_true rfl) ⟨Nat.le_of_ble_eq_true rfl, Nat.le_of_ble_eq_true rfl⟩ dX10_tellWrong_78 rfl (fun r τ9 H locs hq hH => ?_)
    obtain ⟨r10, rfl, h⟩ := hq
    exact hret (some (.int r10)) _ _ _ _ _ ⟨_, rfl, h⟩ hH ⟨dX10_tellWrong_81, .int, rfl, rfl⟩
  have h := h.2
  have h := h hs1
  have h := h hs2
  have h := h hs3
  have h := h hs4
  have h := h hs5
  have h := h hs8
  refine m_tout (tgt := 82) C0 dX10_tellWrong_1 (fun v h1 h2 => ?_) (by decide) ?_
  · rcases (show v = 0 ∨ v = 1 ∨ v = 2 ∨ v = 3 ∨ v = 4 ∨ v = 5 by omega) with rfl | rfl | rfl | rfl | rfl | rfl
    · exact fun q => hs1 (q.trans (by decide))
    · exact fun q => hs2 (q.trans (by decide))
    · exact fun q => hs3 (q.trans (by decide))
    · exact fun q => hs4 (q.trans (by decide))
    · exact fun q => hs5 (q.trans (by decide))
    · exact fun q => hs8 (q.trans (by decide))
  refine lv_bipush (v := (-102)) hx hb dX10_tellWrong_82 (by decide) ?_
  exact hret (some (.int (-102))) _ _ _ _ _ ⟨_, rfl, h⟩ hH ⟨dX10_tellWrong_84, .int, rfl, rfl⟩

def r_X10_wrong_0 (E : EE) (x1 : Int32) (x2 : Int32) (σ : Mm) (Q : Int32 → Mm → Prop) : Prop := Rn E M_X10_wrong 0 [(0, .ref (Ad E 63)), (1, .int x1), (2, .int x2)] [] σ (qi Q)
set_option maxRecDepth 20000 in
set_option maxHeartbeats 4000000 in
theorem s_X10_wrong_0 (E : EE) (x1 : Int32) (x2 : Int32) (σ : Mm) (Q : Int32 → Mm → Prop) (h : r_X10_isWrong_0 E x1 σ (fun r2 τ1 => ((r2 = 0 → Q (-101) τ1) ∧ (¬ r2 = 0 → r_X10_tellWrong_0 E x1 x2 τ1 (fun r5 τ4 => Q r5 τ4))))) : r_X10_wrong_0 E x1 x2 σ Q := by
  intro p e R s m args below meth c Z cells slots H locs ls C0 hH hl hret
  have hx := C0.1
  have hb : c.code = cX10_wrong := C0.2.1
  have hl : lv_has ls 3 [(0, .ref (Ad E 63)), (1, .int x1), (2, .int x2)] := hl
  refine lv_aload_n hx hb dX10_wrong_0 rfl (lv_at hl 0 rfl) ?_
  refine lv_iload_n hx hb dX10_wrong_1 rfl (lv_at hl 1 rfl) ?_
  refine m_cV (M2 := M_X10_isWrong) (As := [.int x1]) (rest := []) h C0 hH hl kc_X10_isWrong ki_X10_isWrong kx_X10_isWrong ob_63 kM_X10_148 rfl (Nat.le_of_ble_eq_true rfl) (Nat.le_of_ble_eq_true rfl) ⟨Nat.le_of_ble_eq_true rfl, Nat.le_of_ble_eq_true rfl⟩ dX10_wrong_2 rfl (fun r τ1 H locs hq hH => ?_)
  obtain ⟨r2, rfl, h⟩ := hq
  refine lv_if_eq (tgt := 17) hx hb dX10_wrong_5 (by decide) (fun hc3 => ?_) (fun hc3 => ?_)
  · have h := h.1 hc3
    refine lv_bipush (v := (-101)) hx hb dX10_wrong_17 (by decide) ?_
    exact hret (some (.int (-101))) _ _ _ _ _ ⟨_, rfl, h⟩ hH ⟨dX10_wrong_19, .int, rfl, rfl⟩
  · have h := h.2 hc3
    refine lv_aload_n hx hb dX10_wrong_8 rfl (lv_at hl 0 rfl) ?_
    refine lv_iload_n hx hb dX10_wrong_9 rfl (lv_at hl 1 rfl) ?_
    refine lv_iload_n hx hb dX10_wrong_10 rfl (lv_at hl 2 rfl) ?_
    refine m_cV (M2 := M_X10_tellWrong) (As := [.int x1, .int x2]) (rest := []) h C0 hH hl kc_X10_tellWrong ki_X10_tellWrong kx_X10_tellWrong ob_63 kM_X10_151 rfl (Nat.le_of_ble_eq_true rfl) (Nat.le_of_ble_eq_true rfl) ⟨Nat.le_of_ble_eq_true rfl, Nat.le_of_ble_eq_true rfl⟩ dX10_wrong_11 rfl (fun r τ4 H locs hq hH => ?_)
    obtain ⟨r5, rfl, h⟩ := hq
    refine lv_goto (tgt := 19) hx hb dX10_wrong_14 (by decide) ?_
    exact hret (some (.int r5)) _ _ _ _ _ ⟨_, rfl, h⟩ hH ⟨dX10_wrong_19, .int, rfl, rfl⟩

def r_X10_stepFrom_0 (E : EE) (x1 : Int32) (x2 : Int32) (σ : Mm) (Q : Int32 → Mm → Prop) : Prop := Rn E M_X10_stepFrom 0 [(0, .ref (Ad E 63)), (1, .int x1), (2, .int x2)] [] σ (qi Q)
def r_X10_stepFrom_5 (E : EE) (x1 : Int32) (x2 : Int32) (x3 : Int32) (x4 : Int32) (σ : Mm) (Q : Int32 → Mm → Prop) : Prop := Rn E M_X10_stepFrom 5 [(0, .ref (Ad E 63)), (1, .int x1), (2, .int x2), (3, .int x3), (4, .int x4)] [] σ (qi Q)
set_option maxRecDepth 20000 in
set_option maxHeartbeats 4000000 in
theorem s_X10_stepFrom_0 (E : EE) (x1 : Int32) (x2 : Int32) (σ : Mm) (Q : Int32 → Mm → Prop) (h : r_X10_stepFrom_5 E x1 x2 0 0 σ Q) : r_X10_stepFrom_0 E x1 x2 σ Q := by
  intro p e R s m args below meth c Z cells slots H locs ls C0 hH hl hret
  have hx := C0.1
  have hb : c.code = cX10_stepFrom := C0.2.1
  have hl : lv_has ls 5 [(0, .ref (Ad E 63)), (1, .int x1), (2, .int x2)] := hl
  refine lv_iconst (v := 0) hx hb dX10_stepFrom_0 (by decide) ?_
  refine lv_istore_n (lv' := [(3, .int 0), (0, .ref (Ad E 63)), (1, .int x1), (2, .int x2)]) hx hb dX10_stepFrom_1 rfl hl (by decide) rfl (fun ls hl => ?_)
  refine lv_iconst (v := 0) hx hb dX10_stepFrom_2 (by decide) ?_
  refine lv_istore (lv' := [(4, .int 0), (3, .int 0), (0, .ref (Ad E 63)), (1, .int x1), (2, .int x2)]) hx hb dX10_stepFrom_3 hl (by decide) rfl (fun ls hl => ?_)
  exact h p e R s m args below meth c Z cells slots H locs ls C0 hH (lv_sub hl [2, 3, 4, 1, 0] rfl) hret
set_option maxRecDepth 20000 in
set_option maxHeartbeats 4000000 in
theorem s_X10_stepFrom_5 (E : EE) (x1 : Int32) (x2 : Int32) (x3 : Int32) (x4 : Int32) (σ : Mm) (Q : Int32 → Mm → Prop) (h : (((σ 63 3) ≤ x4 → Q x3 σ) ∧ (¬ (σ 63 3) ≤ x4 → ((¬ ((x1 >>> (x4 &&& 31)) &&& 1) = 1 → r_X10_stepFrom_5 E x1 x2 (x3 ||| 0) (x4 + 1) σ Q) ∧ (((x1 >>> (x4 &&& 31)) &&& 1) = 1 → r_X10_grudgesOf_0 E x4 x2 σ (fun r4 τ3 => r_X10_stepFrom_5 E x1 x2 (x3 ||| r4) (x4 + 1) τ3 Q)))))) : r_X10_stepFrom_5 E x1 x2 x3 x4 σ Q := by
  intro p e R s m args below meth c Z cells slots H locs ls C0 hH hl hret
  have hx := C0.1
  have hb : c.code = cX10_stepFrom := C0.2.1
  have hl : lv_has ls 5 [(0, .ref (Ad E 63)), (1, .int x1), (2, .int x2), (3, .int x3), (4, .int x4)] := hl
  refine lv_iload hx hb dX10_stepFrom_5 (lv_at hl 4 rfl) ?_
  refine lv_aload_n hx hb dX10_stepFrom_7 rfl (lv_at hl 0 rfl) ?_
  refine m_geti (x := σ 63 3) C0 hH f_63_3 kF_X10_103 dX10_stepFrom_8 rfl ?_
  refine lv_icmp_ge (tgt := 44) hx hb dX10_stepFrom_11 (by decide) (fun hc1 => ?_) (fun hc1 => ?_)
  · have h := h.1 hc1
    refine lv_iload_n hx hb dX10_stepFrom_44 rfl (lv_at hl 3 rfl) ?_
    exact hret (some (.int x3)) _ _ _ _ _ ⟨_, rfl, h⟩ hH ⟨dX10_stepFrom_45, .int, rfl, rfl⟩
  · have h := h.2 hc1
    refine lv_iload_n hx hb dX10_stepFrom_14 rfl (lv_at hl 3 rfl) ?_
    refine lv_iload_n hx hb dX10_stepFrom_15 rfl (lv_at hl 1 rfl) ?_
    refine lv_iload hx hb dX10_stepFrom_16 (lv_at hl 4 rfl) ?_
    refine lv_ishr hx hb dX10_stepFrom_18 ?_
    refine lv_iconst (v := 1) hx hb dX10_stepFrom_19 (by decide) ?_
    refine lv_iand hx hb dX10_stepFrom_20 ?_
    refine lv_iconst (v := 1) hx hb dX10_stepFrom_21 (by decide) ?_
    refine lv_icmp_ne (tgt := 35) hx hb dX10_stepFrom_22 (by decide) (fun hc2 => ?_) (fun hc2 => ?_)
    · have h := h.1 hc2
      refine lv_iconst (v := 0) hx hb dX10_stepFrom_35 (by decide) ?_
      refine lv_ior hx hb dX10_stepFrom_36 ?_
      refine lv_istore_n (lv' := [(3, .int (x3 ||| 0)), (0, .ref (Ad E 63)), (1, .int x1), (2, .int x2), (4, .int x4)]) hx hb dX10_stepFrom_37 rfl hl (by decide) rfl (fun ls hl => ?_)
      refine lv_iinc (v := (x4 + 1)) (lv' := [(4, .int (x4 + 1)), (3, .int (x3 ||| 0)), (0, .ref (Ad E 63)), (1, .int x1), (2, .int x2)]) hx hb dX10_stepFrom_38 hl (k := 4) rfl rfl (by decide) rfl (fun ls hl => ?_)
      refine lv_goto (tgt := 5) hx hb dX10_stepFrom_41 (by decide) ?_
      exact h p e R s m args below meth c Z cells slots H locs ls C0 hH (lv_sub hl [2, 3, 4, 1, 0] rfl) hret
    · have h := h.2 hc2
      refine lv_aload_n hx hb dX10_stepFrom_25 rfl (lv_at hl 0 rfl) ?_
      refine lv_iload hx hb dX10_stepFrom_26 (lv_at hl 4 rfl) ?_
      refine lv_iload_n hx hb dX10_stepFrom_28 rfl (lv_at hl 2 rfl) ?_
      refine m_cV (M2 := M_X10_grudgesOf) (As := [.int x4, .int x2]) (rest := [.int x3]) h C0 hH hl kc_X10_grudgesOf ki_X10_grudgesOf kx_X10_grudgesOf ob_63 kM_X10_131 rfl (Nat.le_of_ble_eq_true rfl) (Nat.le_of_ble_eq_true rfl) ⟨Nat.le_of_ble_eq_true rfl, Nat.le_of_ble_eq_true rfl⟩ dX10_stepFrom_29 rfl (fun r τ3 H locs hq hH => ?_)
      obtain ⟨r4, rfl, h⟩ := hq
      refine lv_goto (tgt := 36) hx hb dX10_stepFrom_32 (by decide) ?_
      refine lv_ior hx hb dX10_stepFrom_36 ?_
      refine lv_istore_n (lv' := [(3, .int (x3 ||| r4)), (0, .ref (Ad E 63)), (1, .int x1), (2, .int x2), (4, .int x4)]) hx hb dX10_stepFrom_37 rfl hl (by decide) rfl (fun ls hl => ?_)
      refine lv_iinc (v := (x4 + 1)) (lv' := [(4, .int (x4 + 1)), (3, .int (x3 ||| r4)), (0, .ref (Ad E 63)), (1, .int x1), (2, .int x2)]) hx hb dX10_stepFrom_38 hl (k := 4) rfl rfl (by decide) rfl (fun ls hl => ?_)
      refine lv_goto (tgt := 5) hx hb dX10_stepFrom_41 (by decide) ?_
      exact h p e R s m args below meth c Z cells slots H locs ls C0 hH (lv_sub hl [2, 3, 4, 1, 0] rfl) hret

def r_X10_farBy_0 (E : EE) (x1 : Int32) (x2 : Int32) (x3 : Int32) (σ : Mm) (Q : Int32 → Mm → Prop) : Prop := Rn E M_X10_farBy 0 [(0, .ref (Ad E 63)), (1, .int x1), (2, .int x2), (3, .int x3)] [] σ (qi Q)
def r_X10_farBy_8 (E : EE) (x1 : Int32) (x2 : Int32) (x3 : Int32) (x4 : Int32) (x5 : Int32) (σ : Mm) (Q : Int32 → Mm → Prop) : Prop := Rn E M_X10_farBy 8 [(0, .ref (Ad E 63)), (1, .int x1), (2, .int x2), (3, .int x3), (4, .int x4), (5, .int x5)] [] σ (qi Q)
set_option maxRecDepth 20000 in
set_option maxHeartbeats 4000000 in
theorem s_X10_farBy_0 (E : EE) (x1 : Int32) (x2 : Int32) (x3 : Int32) (σ : Mm) (Q : Int32 → Mm → Prop) (h : r_X10_farBy_8 E x1 x2 x3 (1 <<< (x1 &&& 31)) 1 σ Q) : r_X10_farBy_0 E x1 x2 x3 σ Q := by
  intro p e R s m args below meth c Z cells slots H locs ls C0 hH hl hret
  have hx := C0.1
  have hb : c.code = cX10_farBy := C0.2.1
  have hl : lv_has ls 6 [(0, .ref (Ad E 63)), (1, .int x1), (2, .int x2), (3, .int x3)] := hl
  refine lv_iconst (v := 1) hx hb dX10_farBy_0 (by decide) ?_
  refine lv_iload_n hx hb dX10_farBy_1 rfl (lv_at hl 1 rfl) ?_
  refine lv_ishl hx hb dX10_farBy_2 ?_
  refine lv_istore (lv' := [(4, .int (1 <<< (x1 &&& 31))), (0, .ref (Ad E 63)), (1, .int x1), (2, .int x2), (3, .int x3)]) hx hb dX10_farBy_3 hl (by decide) rfl (fun ls hl => ?_)
  refine lv_iconst (v := 1) hx hb dX10_farBy_5 (by decide) ?_
  refine lv_istore (lv' := [(5, .int 1), (4, .int (1 <<< (x1 &&& 31))), (0, .ref (Ad E 63)), (1, .int x1), (2, .int x2), (3, .int x3)]) hx hb dX10_farBy_6 hl (by decide) rfl (fun ls hl => ?_)
  exact h p e R s m args below meth c Z cells slots H locs ls C0 hH (lv_sub hl [2, 3, 4, 5, 1, 0] rfl) hret
set_option maxRecDepth 20000 in
set_option maxHeartbeats 4000000 in
theorem s_X10_farBy_8 (E : EE) (x1 : Int32) (x2 : Int32) (x3 : Int32) (x4 : Int32) (x5 : Int32) (σ : Mm) (Q : Int32 → Mm → Prop) (h : ((7 ≤ x5 → Q (-1) σ) ∧ (¬ 7 ≤ x5 → r_X10_stepFrom_0 E x4 x3 σ (fun r3 τ2 => ((¬ ((r3 >>> (x2 &&& 31)) &&& 1) = 1 → r_X10_farBy_8 E x1 x2 x3 r3 (x5 + 1) τ2 Q) ∧ (((r3 >>> (x2 &&& 31)) &&& 1) = 1 → Q x5 τ2)))))) : r_X10_farBy_8 E x1 x2 x3 x4 x5 σ Q := by
  intro p e R s m args below meth c Z cells slots H locs ls C0 hH hl hret
  have hx := C0.1
  have hb : c.code = cX10_farBy := C0.2.1
  have hl : lv_has ls 6 [(0, .ref (Ad E 63)), (1, .int x1), (2, .int x2), (3, .int x3), (4, .int x4), (5, .int x5)] := hl
  refine lv_iload hx hb dX10_farBy_8 (lv_at hl 5 rfl) ?_
  refine lv_bipush (v := 7) hx hb dX10_farBy_10 (by decide) ?_
  refine lv_icmp_ge (tgt := 43) hx hb dX10_farBy_12 (by decide) (fun hc1 => ?_) (fun hc1 => ?_)
  · have h := h.1 hc1
    refine lv_iconst (v := (-1)) hx hb dX10_farBy_43 (by decide) ?_
    exact hret (some (.int (-1))) _ _ _ _ _ ⟨_, rfl, h⟩ hH ⟨dX10_farBy_44, .int, rfl, rfl⟩
  · have h := h.2 hc1
    refine lv_aload_n hx hb dX10_farBy_15 rfl (lv_at hl 0 rfl) ?_
    refine lv_iload hx hb dX10_farBy_16 (lv_at hl 4 rfl) ?_
    refine lv_iload_n hx hb dX10_farBy_18 rfl (lv_at hl 3 rfl) ?_
    refine m_cV (M2 := M_X10_stepFrom) (As := [.int x4, .int x3]) (rest := []) h C0 hH hl kc_X10_stepFrom ki_X10_stepFrom kx_X10_stepFrom ob_63 kM_X10_154 rfl (Nat.le_of_ble_eq_true rfl) (Nat.le_of_ble_eq_true rfl) ⟨Nat.le_of_ble_eq_true rfl, Nat.le_of_ble_eq_true rfl⟩ dX10_farBy_19 rfl (fun r τ2 H locs hq hH => ?_)
    obtain ⟨r3, rfl, h⟩ := hq
    refine lv_istore (lv' := [(4, .int r3), (0, .ref (Ad E 63)), (1, .int x1), (2, .int x2), (3, .int x3), (5, .int x5)]) hx hb dX10_farBy_22 hl (by decide) rfl (fun ls hl => ?_)
    refine lv_iload hx hb dX10_farBy_24 (lv_at hl 0 rfl) ?_
    refine lv_iload_n hx hb dX10_farBy_26 rfl (lv_at hl 3 rfl) ?_
    refine lv_ishr hx hb dX10_farBy_27 ?_
    refine lv_iconst (v := 1) hx hb dX10_farBy_28 (by decide) ?_
    refine lv_iand hx hb dX10_farBy_29 ?_
    refine lv_iconst (v := 1) hx hb dX10_farBy_30 (by decide) ?_
    refine lv_icmp_ne (tgt := 37) hx hb dX10_farBy_31 (by decide) (fun hc4 => ?_) (fun hc4 => ?_)
    · have h := h.1 hc4
      refine lv_iinc (v := (x5 + 1)) (lv' := [(5, .int (x5 + 1)), (4, .int r3), (0, .ref (Ad E 63)), (1, .int x1), (2, .int x2), (3, .int x3)]) hx hb dX10_farBy_37 hl (k := 5) rfl rfl (by decide) rfl (fun ls hl => ?_)
      refine lv_goto (tgt := 8) hx hb dX10_farBy_40 (by decide) ?_
      exact h p e R s m args below meth c Z cells slots H locs ls C0 hH (lv_sub hl [2, 3, 4, 5, 1, 0] rfl) hret
    · have h := h.2 hc4
      refine lv_iload hx hb dX10_farBy_34 (lv_at hl 5 rfl) ?_
      exact hret (some (.int x5)) _ _ _ _ _ ⟨_, rfl, h⟩ hH ⟨dX10_farBy_36, .int, rfl, rfl⟩

def r_X10_to_0 (E : EE) (x1 : Int32) (x2 : Int32) (σ : Mm) (Q : Int32 → Mm → Prop) : Prop := Rn E M_X10_to 0 [(0, .ref (Ad E 63)), (1, .int x1), (2, .int x2)] [] σ (qi Q)
set_option maxRecDepth 20000 in
set_option maxHeartbeats 4000000 in
theorem s_X10_to_0 (E : EE) (x1 : Int32) (x2 : Int32) (σ : Mm) (Q : Int32 → Mm → Prop) (h : r_X10_isPerson_0 E x1 σ (fun r2 τ1 => ((r2 = 0 → Q (-101) τ1) ∧ (¬ r2 = 0 → r_X10_isPerson_0 E x2 τ1 (fun r5 τ4 => ((r5 = 0 → Q (-101) τ4) ∧ (¬ r5 = 0 → ((x1 = x2 → Q (-101) τ4) ∧ (¬ x1 = x2 → r_X10_farBy_0 E x1 x2 (τ4 63 6) τ4 (fun r9 τ8 => Q r9 τ8)))))))))) : r_X10_to_0 E x1 x2 σ Q := by
  intro p e R s m args below meth c Z cells slots H locs ls C0 hH hl hret
  have hx := C0.1
  have hb : c.code = cX10_to := C0.2.1
  have hl : lv_has ls 3 [(0, .ref (Ad E 63)), (1, .int x1), (2, .int x2)] := hl
  refine lv_aload_n hx hb dX10_to_0 rfl (lv_at hl 0 rfl) ?_
  refine lv_iload_n hx hb dX10_to_1 rfl (lv_at hl 1 rfl) ?_
  refine m_cV (M2 := M_X10_isPerson) (As := [.int x1]) (rest := []) h C0 hH hl kc_X10_isPerson ki_X10_isPerson kx_X10_isPerson ob_63 kM_X10_134 rfl (Nat.le_of_ble_eq_true rfl) (Nat.le_of_ble_eq_true rfl) ⟨Nat.le_of_ble_eq_true rfl, Nat.le_of_ble_eq_true rfl⟩ dX10_to_2 rfl (fun r τ1 H locs hq hH => ?_)
  obtain ⟨r2, rfl, h⟩ := hq
  refine lv_if_eq (tgt := 34) hx hb dX10_to_5 (by decide) (fun hc3 => ?_) (fun hc3 => ?_)
  · have h := h.1 hc3
    refine lv_bipush (v := (-101)) hx hb dX10_to_34 (by decide) ?_
    exact hret (some (.int (-101))) _ _ _ _ _ ⟨_, rfl, h⟩ hH ⟨dX10_to_36, .int, rfl, rfl⟩
  · have h := h.2 hc3
    refine lv_aload_n hx hb dX10_to_8 rfl (lv_at hl 0 rfl) ?_
    refine lv_iload_n hx hb dX10_to_9 rfl (lv_at hl 2 rfl) ?_
    refine m_cV (M2 := M_X10_isPerson) (As := [.int x2]) (rest := []) h C0 hH hl kc_X10_isPerson ki_X10_isPerson kx_X10_isPerson ob_63 kM_X10_134 rfl (Nat.le_of_ble_eq_true rfl) (Nat.le_of_ble_eq_true rfl) ⟨Nat.le_of_ble_eq_true rfl, Nat.le_of_ble_eq_true rfl⟩ dX10_to_10 rfl (fun r τ4 H locs hq hH => ?_)
    obtain ⟨r5, rfl, h⟩ := hq
    refine lv_if_eq (tgt := 34) hx hb dX10_to_13 (by decide) (fun hc6 => ?_) (fun hc6 => ?_)
    · have h := h.1 hc6
      refine lv_bipush (v := (-101)) hx hb dX10_to_34 (by decide) ?_
      exact hret (some (.int (-101))) _ _ _ _ _ ⟨_, rfl, h⟩ hH ⟨dX10_to_36, .int, rfl, rfl⟩
    · have h := h.2 hc6
      refine lv_iload_n hx hb dX10_to_16 rfl (lv_at hl 1 rfl) ?_
      refine lv_iload_n hx hb dX10_to_17 rfl (lv_at hl 2 rfl) ?_
      refine lv_icmp_eq (tgt := 34) hx hb dX10_to_18 (by decide) (fun hc7 => ?_) (fun hc7 => ?_)
      · have h := h.1 hc7
        refine lv_bipush (v := (-101)) hx hb dX10_to_34 (by decide) ?_
        exact hret (some (.int (-101))) _ _ _ _ _ ⟨_, rfl, h⟩ hH ⟨dX10_to_36, .int, rfl, rfl⟩
      · have h := h.2 hc7
        refine lv_aload_n hx hb dX10_to_21 rfl (lv_at hl 0 rfl) ?_
        refine lv_iload_n hx hb dX10_to_22 rfl (lv_at hl 1 rfl) ?_
        refine lv_iload_n hx hb dX10_to_23 rfl (lv_at hl 2 rfl) ?_
        refine lv_aload_n hx hb dX10_to_24 rfl (lv_at hl 0 rfl) ?_
        refine m_geti (x := τ4 63 6) C0 hH f_63_6 kF_X10_109 dX10_to_25 rfl ?_
        refine m_cV (M2 := M_X10_farBy) (As := [.int x1, .int x2, .int (τ4 63 6)]) (rest := []) h C0 hH hl kc_X10_farBy ki_X10_farBy kx_X10_farBy ob_63 kM_X10_157 rfl (Nat.le_of_ble_eq_true rfl) (Nat.le_of_ble_eq_true rfl) ⟨Nat.le_of_ble_eq_true rfl, Nat.le_of_ble_eq_true rfl⟩ dX10_to_28 rfl (fun r τ8 H locs hq hH => ?_)
        obtain ⟨r9, rfl, h⟩ := hq
        refine lv_goto (tgt := 36) hx hb dX10_to_31 (by decide) ?_
        exact hret (some (.int r9)) _ _ _ _ _ ⟨_, rfl, h⟩ hH ⟨dX10_to_36, .int, rfl, rfl⟩

def r_X10_copy_66_72_0 (E : EE) (σ : Mm) (Q : Mm → Prop) : Prop := Rn E M_X10_copy 0 [(0, .ref (Ad E 66)), (1, .ref (Ad E 72))] [] σ (qv Q)
def r_X10_copy_66_72_2 (E : EE) (x2 : Int32) (σ : Mm) (Q : Mm → Prop) : Prop := Rn E M_X10_copy 2 [(0, .ref (Ad E 66)), (1, .ref (Ad E 72)), (2, .int x2)] [] σ (qv Q)
set_option maxRecDepth 20000 in
set_option maxHeartbeats 4000000 in
theorem s_X10_copy_66_72_0 (E : EE) (σ : Mm) (Q : Mm → Prop) (h : r_X10_copy_66_72_2 E 0 σ Q) : r_X10_copy_66_72_0 E σ Q := by
  intro p e R s m args below meth c Z cells slots H locs ls C0 hH hl hret
  have hx := C0.1
  have hb : c.code = cX10_copy := C0.2.1
  have hl : lv_has ls 3 [(0, .ref (Ad E 66)), (1, .ref (Ad E 72))] := hl
  refine lv_iconst (v := 0) hx hb dX10_copy_0 (by decide) ?_
  refine lv_istore_n (lv' := [(2, .int 0), (0, .ref (Ad E 66)), (1, .ref (Ad E 72))]) hx hb dX10_copy_1 rfl hl (by decide) rfl (fun ls hl => ?_)
  exact h p e R s m args below meth c Z cells slots H locs ls C0 hH (lv_sub hl [1, 2, 0] rfl) hret
set_option maxRecDepth 20000 in
set_option maxHeartbeats 4000000 in
theorem s_X10_copy_66_72_2 (E : EE) (x2 : Int32) (σ : Mm) (Q : Mm → Prop) (h : ((6 ≤ x2 → Q σ) ∧ (¬ 6 ≤ x2 → (vp_in x2 6 ∧ (vp_in x2 6 ∧ r_X10_copy_66_72_2 E (x2 + 1) (up σ 72 x2.toNatClampNeg (σ 66 x2.toNatClampNeg)) Q))))) : r_X10_copy_66_72_2 E x2 σ Q := by
  intro p e R s m args below meth c Z cells slots H locs ls C0 hH hl hret
  have hx := C0.1
  have hb : c.code = cX10_copy := C0.2.1
  have hl : lv_has ls 3 [(0, .ref (Ad E 66)), (1, .ref (Ad E 72)), (2, .int x2)] := hl
  refine lv_iload_n hx hb dX10_copy_2 rfl (lv_at hl 2 rfl) ?_
  refine lv_aload_n hx hb dX10_copy_3 rfl (lv_at hl 0 rfl) ?_
  refine m_alen (x := 6) C0 hH a_66 dX10_copy_4 (by decide) ?_
  refine lv_icmp_ge (tgt := 20) hx hb dX10_copy_5 (by decide) (fun hc1 => ?_) (fun hc1 => ?_)
  · have h := h.1 hc1
    exact hret none _ _ _ _ _ ⟨rfl, h⟩ hH ⟨dX10_copy_20, rfl⟩
  · have h := h.2 hc1
    refine lv_aload_n hx hb dX10_copy_8 rfl (lv_at hl 1 rfl) ?_
    refine lv_iload_n hx hb dX10_copy_9 rfl (lv_at hl 2 rfl) ?_
    refine lv_aload_n hx hb dX10_copy_10 rfl (lv_at hl 0 rfl) ?_
    refine lv_iload_n hx hb dX10_copy_11 rfl (lv_at hl 2 rfl) ?_
    refine m_iald (x := σ 66 x2.toNatClampNeg) C0 hH a_66 h.1 dX10_copy_12 rfl ?_
    have h := h.2
    refine m_iast (j := x2.toNatClampNeg) C0 hH a_72 h.1 rfl dX10_copy_13 (fun H locs hH => ?_)
    have h := h.2
    refine lv_iinc (v := (x2 + 1)) (lv' := [(2, .int (x2 + 1)), (0, .ref (Ad E 66)), (1, .ref (Ad E 72))]) hx hb dX10_copy_14 hl (k := 2) rfl rfl (by decide) rfl (fun ls hl => ?_)
    refine lv_goto (tgt := 2) hx hb dX10_copy_17 (by decide) ?_
    exact h p e R s m args below meth c Z cells slots H locs ls C0 hH (lv_sub hl [1, 2, 0] rfl) hret

def r_X10_copy_72_66_0 (E : EE) (σ : Mm) (Q : Mm → Prop) : Prop := Rn E M_X10_copy 0 [(0, .ref (Ad E 72)), (1, .ref (Ad E 66))] [] σ (qv Q)
def r_X10_copy_72_66_2 (E : EE) (x2 : Int32) (σ : Mm) (Q : Mm → Prop) : Prop := Rn E M_X10_copy 2 [(0, .ref (Ad E 72)), (1, .ref (Ad E 66)), (2, .int x2)] [] σ (qv Q)
set_option maxRecDepth 20000 in
set_option maxHeartbeats 4000000 in
theorem s_X10_copy_72_66_0 (E : EE) (σ : Mm) (Q : Mm → Prop) (h : r_X10_copy_72_66_2 E 0 σ Q) : r_X10_copy_72_66_0 E σ Q := by
  intro p e R s m args below meth c Z cells slots H locs ls C0 hH hl hret
  have hx := C0.1
  have hb : c.code = cX10_copy := C0.2.1
  have hl : lv_has ls 3 [(0, .ref (Ad E 72)), (1, .ref (Ad E 66))] := hl
  refine lv_iconst (v := 0) hx hb dX10_copy_0 (by decide) ?_
  refine lv_istore_n (lv' := [(2, .int 0), (0, .ref (Ad E 72)), (1, .ref (Ad E 66))]) hx hb dX10_copy_1 rfl hl (by decide) rfl (fun ls hl => ?_)
  exact h p e R s m args below meth c Z cells slots H locs ls C0 hH (lv_sub hl [1, 2, 0] rfl) hret
set_option maxRecDepth 20000 in
set_option maxHeartbeats 4000000 in
theorem s_X10_copy_72_66_2 (E : EE) (x2 : Int32) (σ : Mm) (Q : Mm → Prop) (h : ((6 ≤ x2 → Q σ) ∧ (¬ 6 ≤ x2 → (vp_in x2 6 ∧ (vp_in x2 6 ∧ r_X10_copy_72_66_2 E (x2 + 1) (up σ 66 x2.toNatClampNeg (σ 72 x2.toNatClampNeg)) Q))))) : r_X10_copy_72_66_2 E x2 σ Q := by
  intro p e R s m args below meth c Z cells slots H locs ls C0 hH hl hret
  have hx := C0.1
  have hb : c.code = cX10_copy := C0.2.1
  have hl : lv_has ls 3 [(0, .ref (Ad E 72)), (1, .ref (Ad E 66)), (2, .int x2)] := hl
  refine lv_iload_n hx hb dX10_copy_2 rfl (lv_at hl 2 rfl) ?_
  refine lv_aload_n hx hb dX10_copy_3 rfl (lv_at hl 0 rfl) ?_
  refine m_alen (x := 6) C0 hH a_72 dX10_copy_4 (by decide) ?_
  refine lv_icmp_ge (tgt := 20) hx hb dX10_copy_5 (by decide) (fun hc1 => ?_) (fun hc1 => ?_)
  · have h := h.1 hc1
    exact hret none _ _ _ _ _ ⟨rfl, h⟩ hH ⟨dX10_copy_20, rfl⟩
  · have h := h.2 hc1
    refine lv_aload_n hx hb dX10_copy_8 rfl (lv_at hl 1 rfl) ?_
    refine lv_iload_n hx hb dX10_copy_9 rfl (lv_at hl 2 rfl) ?_
    refine lv_aload_n hx hb dX10_copy_10 rfl (lv_at hl 0 rfl) ?_
    refine lv_iload_n hx hb dX10_copy_11 rfl (lv_at hl 2 rfl) ?_
    refine m_iald (x := σ 72 x2.toNatClampNeg) C0 hH a_72 h.1 dX10_copy_12 rfl ?_
    have h := h.2
    refine m_iast (j := x2.toNatClampNeg) C0 hH a_66 h.1 rfl dX10_copy_13 (fun H locs hH => ?_)
    have h := h.2
    refine lv_iinc (v := (x2 + 1)) (lv' := [(2, .int (x2 + 1)), (0, .ref (Ad E 72)), (1, .ref (Ad E 66))]) hx hb dX10_copy_14 hl (k := 2) rfl rfl (by decide) rfl (fun ls hl => ?_)
    refine lv_goto (tgt := 2) hx hb dX10_copy_17 (by decide) ?_
    exact h p e R s m args below meth c Z cells slots H locs ls C0 hH (lv_sub hl [1, 2, 0] rfl) hret

def r_X10_lacks_0 (E : EE) (σ : Mm) (Q : Int32 → Mm → Prop) : Prop := Rn E M_X10_lacks 0 [(0, .ref (Ad E 63))] [] σ (qi Q)
set_option maxRecDepth 20000 in
set_option maxHeartbeats 4000000 in
theorem s_X10_lacks_0 (E : EE) (σ : Mm) (Q : Int32 → Mm → Prop) (h : ((¬ (σ 63 3) = 0 → Q 0 σ) ∧ ((σ 63 3) = 0 → Q 1 σ))) : r_X10_lacks_0 E σ Q := by
  intro p e R s m args below meth c Z cells slots H locs ls C0 hH hl hret
  have hx := C0.1
  have hb : c.code = cX10_lacks := C0.2.1
  have hl : lv_has ls 1 [(0, .ref (Ad E 63))] := hl
  refine lv_aload_n hx hb dX10_lacks_0 rfl (lv_at hl 0 rfl) ?_
  refine m_geti (x := σ 63 3) C0 hH f_63_3 kF_X10_103 dX10_lacks_1 rfl ?_
  refine lv_if_ne (tgt := 11) hx hb dX10_lacks_4 (by decide) (fun hc1 => ?_) (fun hc1 => ?_)
  · have h := h.1 hc1
    refine lv_iconst (v := 0) hx hb dX10_lacks_11 (by decide) ?_
    exact hret (some (.int 0)) _ _ _ _ _ ⟨_, rfl, h⟩ hH ⟨dX10_lacks_12, .boolean, rfl, nb (Or.inl rfl)⟩
  · have h := h.2 hc1
    refine lv_iconst (v := 1) hx hb dX10_lacks_7 (by decide) ?_
    refine lv_goto (tgt := 12) hx hb dX10_lacks_8 (by decide) ?_
    exact hret (some (.int 1)) _ _ _ _ _ ⟨_, rfl, h⟩ hH ⟨dX10_lacks_12, .boolean, rfl, nb (Or.inr rfl)⟩

def r_X10_ones_0 (E : EE) (x0 : Int32) (σ : Mm) (Q : Int32 → Mm → Prop) : Prop := Rn E M_X10_ones 0 [(0, .int x0)] [] σ (qi Q)
def r_X10_ones_4 (E : EE) (x0 : Int32) (x1 : Int32) (x2 : Int32) (σ : Mm) (Q : Int32 → Mm → Prop) : Prop := Rn E M_X10_ones 4 [(0, .int x0), (1, .int x1), (2, .int x2)] [] σ (qi Q)
set_option maxRecDepth 20000 in
set_option maxHeartbeats 4000000 in
theorem s_X10_ones_0 (E : EE) (x0 : Int32) (σ : Mm) (Q : Int32 → Mm → Prop) (h : r_X10_ones_4 E x0 0 0 σ Q) : r_X10_ones_0 E x0 σ Q := by
  intro p e R s m args below meth c Z cells slots H locs ls C0 hH hl hret
  have hx := C0.1
  have hb : c.code = cX10_ones := C0.2.1
  have hl : lv_has ls 3 [(0, .int x0)] := hl
  refine lv_iconst (v := 0) hx hb dX10_ones_0 (by decide) ?_
  refine lv_istore_n (lv' := [(1, .int 0), (0, .int x0)]) hx hb dX10_ones_1 rfl hl (by decide) rfl (fun ls hl => ?_)
  refine lv_iconst (v := 0) hx hb dX10_ones_2 (by decide) ?_
  refine lv_istore_n (lv' := [(2, .int 0), (1, .int 0), (0, .int x0)]) hx hb dX10_ones_3 rfl hl (by decide) rfl (fun ls hl => ?_)
  exact h p e R s m args below meth c Z cells slots H locs ls C0 hH (lv_sub hl [2, 1, 0] rfl) hret
set_option maxRecDepth 20000 in
set_option maxHeartbeats 4000000 in
theorem s_X10_ones_4 (E : EE) (x0 : Int32) (x1 : Int32) (x2 : Int32) (σ : Mm) (Q : Int32 → Mm → Prop) (h : ((9 ≤ x2 → Q x1 σ) ∧ (¬ 9 ≤ x2 → r_X10_ones_4 E x0 (x1 + ((x0 >>> (x2 &&& 31)) &&& 1)) (x2 + 1) σ Q))) : r_X10_ones_4 E x0 x1 x2 σ Q := by
  intro p e R s m args below meth c Z cells slots H locs ls C0 hH hl hret
  have hx := C0.1
  have hb : c.code = cX10_ones := C0.2.1
  have hl : lv_has ls 3 [(0, .int x0), (1, .int x1), (2, .int x2)] := hl
  refine lv_iload_n hx hb dX10_ones_4 rfl (lv_at hl 2 rfl) ?_
  refine lv_bipush (v := 9) hx hb dX10_ones_5 (by decide) ?_
  refine lv_icmp_ge (tgt := 24) hx hb dX10_ones_7 (by decide) (fun hc1 => ?_) (fun hc1 => ?_)
  · have h := h.1 hc1
    refine lv_iload_n hx hb dX10_ones_24 rfl (lv_at hl 1 rfl) ?_
    exact hret (some (.int x1)) _ _ _ _ _ ⟨_, rfl, h⟩ hH ⟨dX10_ones_25, .int, rfl, rfl⟩
  · have h := h.2 hc1
    refine lv_iload_n hx hb dX10_ones_10 rfl (lv_at hl 1 rfl) ?_
    refine lv_iload_n hx hb dX10_ones_11 rfl (lv_at hl 0 rfl) ?_
    refine lv_iload_n hx hb dX10_ones_12 rfl (lv_at hl 2 rfl) ?_
    refine lv_ishr hx hb dX10_ones_13 ?_
    refine lv_iconst (v := 1) hx hb dX10_ones_14 (by decide) ?_
    refine lv_iand hx hb dX10_ones_15 ?_
    refine lv_iadd hx hb dX10_ones_16 ?_
    refine lv_istore_n (lv' := [(1, .int (x1 + ((x0 >>> (x2 &&& 31)) &&& 1))), (0, .int x0), (2, .int x2)]) hx hb dX10_ones_17 rfl hl (by decide) rfl (fun ls hl => ?_)
    refine lv_iinc (v := (x2 + 1)) (lv' := [(2, .int (x2 + 1)), (1, .int (x1 + ((x0 >>> (x2 &&& 31)) &&& 1))), (0, .int x0)]) hx hb dX10_ones_18 hl (k := 2) rfl rfl (by decide) rfl (fun ls hl => ?_)
    refine lv_goto (tgt := 4) hx hb dX10_ones_21 (by decide) ?_
    exact h p e R s m args below meth c Z cells slots H locs ls C0 hH (lv_sub hl [2, 1, 0] rfl) hret

def r_X10_sundayThen_0 (E : EE) (x1 : Int32) (σ : Mm) (Q : Int32 → Mm → Prop) : Prop := Rn E M_X10_sundayThen 0 [(0, .ref (Ad E 63)), (1, .int x1)] [] σ (qi Q)
def r_X10_sundayThen_4 (E : EE) (x1 : Int32) (x2 : Int32) (x3 : Int32) (σ : Mm) (Q : Int32 → Mm → Prop) : Prop := Rn E M_X10_sundayThen 4 [(0, .ref (Ad E 63)), (1, .int x1), (2, .int x2), (3, .int x3)] [] σ (qi Q)
set_option maxRecDepth 20000 in
set_option maxHeartbeats 4000000 in
theorem s_X10_sundayThen_0 (E : EE) (x1 : Int32) (σ : Mm) (Q : Int32 → Mm → Prop) (h : r_X10_sundayThen_4 E x1 0 0 σ Q) : r_X10_sundayThen_0 E x1 σ Q := by
  intro p e R s m args below meth c Z cells slots H locs ls C0 hH hl hret
  have hx := C0.1
  have hb : c.code = cX10_sundayThen := C0.2.1
  have hl : lv_has ls 6 [(0, .ref (Ad E 63)), (1, .int x1)] := hl
  refine lv_iconst (v := 0) hx hb dX10_sundayThen_0 (by decide) ?_
  refine lv_istore_n (lv' := [(2, .int 0), (0, .ref (Ad E 63)), (1, .int x1)]) hx hb dX10_sundayThen_1 rfl hl (by decide) rfl (fun ls hl => ?_)
  refine lv_iconst (v := 0) hx hb dX10_sundayThen_2 (by decide) ?_
  refine lv_istore_n (lv' := [(3, .int 0), (2, .int 0), (0, .ref (Ad E 63)), (1, .int x1)]) hx hb dX10_sundayThen_3 rfl hl (by decide) rfl (fun ls hl => ?_)
  exact h p e R s m args below meth c Z cells slots H locs ls C0 hH (lv_sub hl [2, 3, 1, 0] rfl) hret
set_option maxRecDepth 20000 in
set_option maxHeartbeats 4000000 in
theorem s_X10_sundayThen_4 (E : EE) (x1 : Int32) (x2 : Int32) (x3 : Int32) (σ : Mm) (Q : Int32 → Mm → Prop) (h : (((σ 63 3) ≤ x3 → Q x2 σ) ∧ (¬ (σ 63 3) ≤ x3 → ((¬ ((x1 >>> (x3 &&& 31)) &&& 1) = 1 → (vp_in x3 6 ∧ ((0 ≤ ((σ 72 x3.toNatClampNeg) + (-1)) → ((((σ 72 x3.toNatClampNeg) + (-1)) ≤ 20 → (vp_in x3 6 ∧ (vp_in x3 6 ∧ ((¬ ((σ 72 x3.toNatClampNeg) + (-1)) = 0 → r_X10_sundayThen_4 E x1 (x2 ||| 0) (x3 + 1) (up σ 72 x3.toNatClampNeg ((σ 72 x3.toNatClampNeg) + (-1))) Q) ∧ (((σ 72 x3.toNatClampNeg) + (-1)) = 0 → r_X10_sundayThen_4 E x1 (x2 ||| (1 <<< (x3 &&& 31))) (x3 + 1) (up σ 72 x3.toNatClampNeg ((σ 72 x3.toNatClampNeg) + (-1))) Q))))) ∧ (¬ ((σ 72 x3.toNatClampNeg) + (-1)) ≤ 20 → (vp_in x3 6 ∧ (vp_in x3 6 ∧ r_X10_sundayThen_4 E x1 (x2 ||| 0) (x3 + 1) (up σ 72 x3.toNatClampNeg 20) Q))))) ∧ (¬ 0 ≤ ((σ 72 x3.toNatClampNeg) + (-1)) → (vp_in x3 6 ∧ (vp_in x3 6 ∧ r_X10_sundayThen_4 E x1 (x2 ||| (1 <<< (x3 &&& 31))) (x3 + 1) (up σ 72 x3.toNatClampNeg 0) Q)))))) ∧ (((x1 >>> (x3 &&& 31)) &&& 1) = 1 → (vp_in x3 6 ∧ ((0 ≤ ((σ 72 x3.toNatClampNeg) + 2) → ((((σ 72 x3.toNatClampNeg) + 2) ≤ 20 → (vp_in x3 6 ∧ (vp_in x3 6 ∧ ((¬ ((σ 72 x3.toNatClampNeg) + 2) = 0 → r_X10_sundayThen_4 E x1 (x2 ||| 0) (x3 + 1) (up σ 72 x3.toNatClampNeg ((σ 72 x3.toNatClampNeg) + 2)) Q) ∧ (((σ 72 x3.toNatClampNeg) + 2) = 0 → r_X10_sundayThen_4 E x1 (x2 ||| (1 <<< (x3 &&& 31))) (x3 + 1) (up σ 72 x3.toNatClampNeg ((σ 72 x3.toNatClampNeg) + 2)) Q))))) ∧ (¬ ((σ 72 x3.toNatClampNeg) + 2) ≤ 20 → (vp_in x3 6 ∧ (vp_in x3 6 ∧ r_X10_sundayThen_4 E x1 (x2 ||| 0) (x3 + 1) (up σ 72 x3.toNatClampNeg 20) Q))))) ∧ (¬ 0 ≤ ((σ 72 x3.toNatClampNeg) + 2) → (vp_in x3 6 ∧ (vp_in x3 6 ∧ r_X10_sundayThen_4 E x1 (x2 ||| (1 <<< (x3 &&& 31))) (x3 + 1) (up σ 72 x3.toNatClampNeg 0) Q)))))))))) : r_X10_sundayThen_4 E x1 x2 x3 σ Q := by
  intro p e R s m args below meth c Z cells slots H locs ls C0 hH hl hret
  have hx := C0.1
  have hb : c.code = cX10_sundayThen := C0.2.1
  have hl : lv_has ls 6 [(0, .ref (Ad E 63)), (1, .int x1), (2, .int x2), (3, .int x3)] := hl
  refine lv_iload_n hx hb dX10_sundayThen_4 rfl (lv_at hl 3 rfl) ?_
  refine lv_aload_n hx hb dX10_sundayThen_5 rfl (lv_at hl 0 rfl) ?_
  refine m_geti (x := σ 63 3) C0 hH f_63_3 kF_X10_103 dX10_sundayThen_6 rfl ?_
  refine lv_icmp_ge (tgt := 101) hx hb dX10_sundayThen_9 (by decide) (fun hc1 => ?_) (fun hc1 => ?_)
  · have h := h.1 hc1
    refine lv_iload_n hx hb dX10_sundayThen_101 rfl (lv_at hl 2 rfl) ?_
    exact hret (some (.int x2)) _ _ _ _ _ ⟨_, rfl, h⟩ hH ⟨dX10_sundayThen_102, .int, rfl, rfl⟩
  · have h := h.2 hc1
    refine lv_iload_n hx hb dX10_sundayThen_12 rfl (lv_at hl 1 rfl) ?_
    refine lv_iload_n hx hb dX10_sundayThen_13 rfl (lv_at hl 3 rfl) ?_
    refine lv_ishr hx hb dX10_sundayThen_14 ?_
    refine lv_iconst (v := 1) hx hb dX10_sundayThen_15 (by decide) ?_
    refine lv_iand hx hb dX10_sundayThen_16 ?_
    refine lv_iconst (v := 1) hx hb dX10_sundayThen_17 (by decide) ?_
    refine lv_icmp_ne (tgt := 25) hx hb dX10_sundayThen_18 (by decide) (fun hc2 => ?_) (fun hc2 => ?_)
    · have h := h.1 hc2
      refine lv_iconst (v := 0) hx hb dX10_sundayThen_25 (by decide) ?_
      refine lv_istore (lv' := [(4, .int 0), (0, .ref (Ad E 63)), (1, .int x1), (2, .int x2), (3, .int x3)]) hx hb dX10_sundayThen_26 hl (by decide) rfl (fun ls hl => ?_)
      refine lv_aload_n hx hb dX10_sundayThen_28 rfl (lv_at hl 1 rfl) ?_
      refine m_getr C0 hH f_63_16 72 rfl kF_X10_34 dX10_sundayThen_29 ?_
      refine lv_iload_n hx hb dX10_sundayThen_32 rfl (lv_at hl 4 rfl) ?_
      refine m_iald (x := σ 72 x3.toNatClampNeg) C0 hH a_72 h.1 dX10_sundayThen_33 rfl ?_
      have h := h.2
      refine lv_iload hx hb dX10_sundayThen_34 (lv_at hl 0 rfl) ?_
      refine lv_if_eq (tgt := 43) hx hb dX10_sundayThen_36 (by decide) (fun _ => ?_) (fun hc => absurd hc (by decide))
      refine lv_iconst (v := (-1)) hx hb dX10_sundayThen_43 (by decide) ?_
      refine lv_iadd hx hb dX10_sundayThen_44 ?_
      refine lv_istore (lv' := [(5, .int ((σ 72 x3.toNatClampNeg) + (-1))), (4, .int 0), (0, .ref (Ad E 63)), (1, .int x1), (2, .int x2), (3, .int x3)]) hx hb dX10_sundayThen_45 hl (by decide) rfl (fun ls hl => ?_)
      refine lv_aload_n hx hb dX10_sundayThen_47 rfl (lv_at hl 2 rfl) ?_
      refine m_getr C0 hH f_63_16 72 rfl kF_X10_34 dX10_sundayThen_48 ?_
      refine lv_iload_n hx hb dX10_sundayThen_51 rfl (lv_at hl 5 rfl) ?_
      refine lv_iload hx hb dX10_sundayThen_52 (lv_at hl 0 rfl) ?_
      refine lv_if_ge (tgt := 61) hx hb dX10_sundayThen_54 (by decide) (fun hc3 => ?_) (fun hc3 => ?_)
      · have h := h.1 hc3
        refine lv_iload hx hb dX10_sundayThen_61 (lv_at hl 0 rfl) ?_
        refine lv_bipush (v := 20) hx hb dX10_sundayThen_63 (by decide) ?_
        refine lv_icmp_le (tgt := 73) hx hb dX10_sundayThen_65 (by decide) (fun hc4 => ?_) (fun hc4 => ?_)
        · have h := h.1 hc4
          refine lv_iload hx hb dX10_sundayThen_73 (lv_at hl 0 rfl) ?_
          refine m_iast (j := x3.toNatClampNeg) C0 hH a_72 h.1 rfl dX10_sundayThen_75 (fun H locs hH => ?_)
          have h := h.2
          refine lv_iload_n hx hb dX10_sundayThen_76 rfl (lv_at hl 4 rfl) ?_
          refine lv_aload_n hx hb dX10_sundayThen_77 rfl (lv_at hl 2 rfl) ?_
          refine m_getr C0 hH f_63_16 72 rfl kF_X10_34 dX10_sundayThen_78 ?_
          refine lv_iload_n hx hb dX10_sundayThen_81 rfl (lv_at hl 5 rfl) ?_
          refine m_iald (x := ((σ 72 x3.toNatClampNeg) + (-1))) C0 hH a_72 h.1 dX10_sundayThen_82 up_rd ?_
          have h := h.2
          refine lv_if_ne (tgt := 92) hx hb dX10_sundayThen_83 (by decide) (fun hc5 => ?_) (fun hc5 => ?_)
          · have h := h.1 hc5
            refine lv_iconst (v := 0) hx hb dX10_sundayThen_92 (by decide) ?_
            refine lv_ior hx hb dX10_sundayThen_93 ?_
            refine lv_istore_n (lv' := [(2, .int (x2 ||| 0)), (5, .int ((σ 72 x3.toNatClampNeg) + (-1))), (4, .int 0), (0, .ref (Ad E 63)), (1, .int x1), (3, .int x3)]) hx hb dX10_sundayThen_94 rfl hl (by decide) rfl (fun ls hl => ?_)
            refine lv_iinc (v := (x3 + 1)) (lv' := [(3, .int (x3 + 1)), (2, .int (x2 ||| 0)), (5, .int ((σ 72 x3.toNatClampNeg) + (-1))), (4, .int 0), (0, .ref (Ad E 63)), (1, .int x1)]) hx hb dX10_sundayThen_95 hl (k := 5) rfl rfl (by decide) rfl (fun ls hl => ?_)
            refine lv_goto (tgt := 4) hx hb dX10_sundayThen_98 (by decide) ?_
            exact h p e R s m args below meth c Z cells slots H locs ls C0 hH (lv_sub hl [4, 5, 1, 0] rfl) hret
          · have h := h.2 hc5
            refine lv_iconst (v := 1) hx hb dX10_sundayThen_86 (by decide) ?_
            refine lv_iload_n hx hb dX10_sundayThen_87 rfl (lv_at hl 5 rfl) ?_
            refine lv_ishl hx hb dX10_sundayThen_88 ?_
            refine lv_goto (tgt := 93) hx hb dX10_sundayThen_89 (by decide) ?_
            refine lv_ior hx hb dX10_sundayThen_93 ?_
            refine lv_istore_n (lv' := [(2, .int (x2 ||| (1 <<< (x3 &&& 31)))), (5, .int ((σ 72 x3.toNatClampNeg) + (-1))), (4, .int 0), (0, .ref (Ad E 63)), (1, .int x1), (3, .int x3)]) hx hb dX10_sundayThen_94 rfl hl (by decide) rfl (fun ls hl => ?_)
            refine lv_iinc (v := (x3 + 1)) (lv' := [(3, .int (x3 + 1)), (2, .int (x2 ||| (1 <<< (x3 &&& 31)))), (5, .int ((σ 72 x3.toNatClampNeg) + (-1))), (4, .int 0), (0, .ref (Ad E 63)), (1, .int x1)]) hx hb dX10_sundayThen_95 hl (k := 5) rfl rfl (by decide) rfl (fun ls hl => ?_)
            refine lv_goto (tgt := 4) hx hb dX10_sundayThen_98 (by decide) ?_
            exact h p e R s m args below meth c Z cells slots H locs ls C0 hH (lv_sub hl [4, 5, 1, 0] rfl) hret
        · have h := h.2 hc4
          refine lv_bipush (v := 20) hx hb dX10_sundayThen_68 (by decide) ?_
          refine lv_goto (tgt := 75) hx hb dX10_sundayThen_70 (by decide) ?_
          refine m_iast (j := x3.toNatClampNeg) C0 hH a_72 h.1 rfl dX10_sundayThen_75 (fun H locs hH => ?_)
          have h := h.2
          refine lv_iload_n hx hb dX10_sundayThen_76 rfl (lv_at hl 4 rfl) ?_
          refine lv_aload_n hx hb dX10_sundayThen_77 rfl (lv_at hl 2 rfl) ?_
          refine m_getr C0 hH f_63_16 72 rfl kF_X10_34 dX10_sundayThen_78 ?_
          refine lv_iload_n hx hb dX10_sundayThen_81 rfl (lv_at hl 5 rfl) ?_
          refine m_iald (x := 20) C0 hH a_72 h.1 dX10_sundayThen_82 up_rd ?_
          have h := h.2
          refine lv_if_ne (tgt := 92) hx hb dX10_sundayThen_83 (by decide) (fun _ => ?_) (fun hc => absurd hc (by decide))
          refine lv_iconst (v := 0) hx hb dX10_sundayThen_92 (by decide) ?_
          refine lv_ior hx hb dX10_sundayThen_93 ?_
          refine lv_istore_n (lv' := [(2, .int (x2 ||| 0)), (5, .int ((σ 72 x3.toNatClampNeg) + (-1))), (4, .int 0), (0, .ref (Ad E 63)), (1, .int x1), (3, .int x3)]) hx hb dX10_sundayThen_94 rfl hl (by decide) rfl (fun ls hl => ?_)
          refine lv_iinc (v := (x3 + 1)) (lv' := [(3, .int (x3 + 1)), (2, .int (x2 ||| 0)), (5, .int ((σ 72 x3.toNatClampNeg) + (-1))), (4, .int 0), (0, .ref (Ad E 63)), (1, .int x1)]) hx hb dX10_sundayThen_95 hl (k := 5) rfl rfl (by decide) rfl (fun ls hl => ?_)
          refine lv_goto (tgt := 4) hx hb dX10_sundayThen_98 (by decide) ?_
          exact h p e R s m args below meth c Z cells slots H locs ls C0 hH (lv_sub hl [4, 5, 1, 0] rfl) hret
      · have h := h.2 hc3
        refine lv_iconst (v := 0) hx hb dX10_sundayThen_57 (by decide) ?_
        refine lv_goto (tgt := 75) hx hb dX10_sundayThen_58 (by decide) ?_
        refine m_iast (j := x3.toNatClampNeg) C0 hH a_72 h.1 rfl dX10_sundayThen_75 (fun H locs hH => ?_)
        have h := h.2
        refine lv_iload_n hx hb dX10_sundayThen_76 rfl (lv_at hl 4 rfl) ?_
        refine lv_aload_n hx hb dX10_sundayThen_77 rfl (lv_at hl 2 rfl) ?_
        refine m_getr C0 hH f_63_16 72 rfl kF_X10_34 dX10_sundayThen_78 ?_
        refine lv_iload_n hx hb dX10_sundayThen_81 rfl (lv_at hl 5 rfl) ?_
        refine m_iald (x := 0) C0 hH a_72 h.1 dX10_sundayThen_82 up_rd ?_
        have h := h.2
        refine lv_if_ne (tgt := 92) hx hb dX10_sundayThen_83 (by decide) (fun hc => absurd hc (by decide)) (fun _ => ?_)
        refine lv_iconst (v := 1) hx hb dX10_sundayThen_86 (by decide) ?_
        refine lv_iload_n hx hb dX10_sundayThen_87 rfl (lv_at hl 5 rfl) ?_
        refine lv_ishl hx hb dX10_sundayThen_88 ?_
        refine lv_goto (tgt := 93) hx hb dX10_sundayThen_89 (by decide) ?_
        refine lv_ior hx hb dX10_sundayThen_93 ?_
        refine lv_istore_n (lv' := [(2, .int (x2 ||| (1 <<< (x3 &&& 31)))), (5, .int ((σ 72 x3.toNatClampNeg) + (-1))), (4, .int 0), (0, .ref (Ad E 63)), (1, .int x1), (3, .int x3)]) hx hb dX10_sundayThen_94 rfl hl (by decide) rfl (fun ls hl => ?_)
        refine lv_iinc (v := (x3 + 1)) (lv' := [(3, .int (x3 + 1)), (2, .int (x2 ||| (1 <<< (x3 &&& 31)))), (5, .int ((σ 72 x3.toNatClampNeg) + (-1))), (4, .int 0), (0, .ref (Ad E 63)), (1, .int x1)]) hx hb dX10_sundayThen_95 hl (k := 5) rfl rfl (by decide) rfl (fun ls hl => ?_)
        refine lv_goto (tgt := 4) hx hb dX10_sundayThen_98 (by decide) ?_
        exact h p e R s m args below meth c Z cells slots H locs ls C0 hH (lv_sub hl [4, 5, 1, 0] rfl) hret
    · have h := h.2 hc2
      refine lv_iconst (v := 1) hx hb dX10_sundayThen_21 (by decide) ?_
      refine lv_goto (tgt := 26) hx hb dX10_sundayThen_22 (by decide) ?_
      refine lv_istore (lv' := [(4, .int 1), (0, .ref (Ad E 63)), (1, .int x1), (2, .int x2), (3, .int x3)]) hx hb dX10_sundayThen_26 hl (by decide) rfl (fun ls hl => ?_)
      refine lv_aload_n hx hb dX10_sundayThen_28 rfl (lv_at hl 1 rfl) ?_
      refine m_getr C0 hH f_63_16 72 rfl kF_X10_34 dX10_sundayThen_29 ?_
      refine lv_iload_n hx hb dX10_sundayThen_32 rfl (lv_at hl 4 rfl) ?_
      refine m_iald (x := σ 72 x3.toNatClampNeg) C0 hH a_72 h.1 dX10_sundayThen_33 rfl ?_
      have h := h.2
      refine lv_iload hx hb dX10_sundayThen_34 (lv_at hl 0 rfl) ?_
      refine lv_if_eq (tgt := 43) hx hb dX10_sundayThen_36 (by decide) (fun hc => absurd hc (by decide)) (fun _ => ?_)
      refine lv_iconst (v := 2) hx hb dX10_sundayThen_39 (by decide) ?_
      refine lv_goto (tgt := 44) hx hb dX10_sundayThen_40 (by decide) ?_
      refine lv_iadd hx hb dX10_sundayThen_44 ?_
      refine lv_istore (lv' := [(5, .int ((σ 72 x3.toNatClampNeg) + 2)), (4, .int 1), (0, .ref (Ad E 63)), (1, .int x1), (2, .int x2), (3, .int x3)]) hx hb dX10_sundayThen_45 hl (by decide) rfl (fun ls hl => ?_)
      refine lv_aload_n hx hb dX10_sundayThen_47 rfl (lv_at hl 2 rfl) ?_
      refine m_getr C0 hH f_63_16 72 rfl kF_X10_34 dX10_sundayThen_48 ?_
      refine lv_iload_n hx hb dX10_sundayThen_51 rfl (lv_at hl 5 rfl) ?_
      refine lv_iload hx hb dX10_sundayThen_52 (lv_at hl 0 rfl) ?_
      refine lv_if_ge (tgt := 61) hx hb dX10_sundayThen_54 (by decide) (fun hc6 => ?_) (fun hc6 => ?_)
      · have h := h.1 hc6
        refine lv_iload hx hb dX10_sundayThen_61 (lv_at hl 0 rfl) ?_
        refine lv_bipush (v := 20) hx hb dX10_sundayThen_63 (by decide) ?_
        refine lv_icmp_le (tgt := 73) hx hb dX10_sundayThen_65 (by decide) (fun hc7 => ?_) (fun hc7 => ?_)
        · have h := h.1 hc7
          refine lv_iload hx hb dX10_sundayThen_73 (lv_at hl 0 rfl) ?_
          refine m_iast (j := x3.toNatClampNeg) C0 hH a_72 h.1 rfl dX10_sundayThen_75 (fun H locs hH => ?_)
          have h := h.2
          refine lv_iload_n hx hb dX10_sundayThen_76 rfl (lv_at hl 4 rfl) ?_
          refine lv_aload_n hx hb dX10_sundayThen_77 rfl (lv_at hl 2 rfl) ?_
          refine m_getr C0 hH f_63_16 72 rfl kF_X10_34 dX10_sundayThen_78 ?_
          refine lv_iload_n hx hb dX10_sundayThen_81 rfl (lv_at hl 5 rfl) ?_
          refine m_iald (x := ((σ 72 x3.toNatClampNeg) + 2)) C0 hH a_72 h.1 dX10_sundayThen_82 up_rd ?_
          have h := h.2
          refine lv_if_ne (tgt := 92) hx hb dX10_sundayThen_83 (by decide) (fun hc8 => ?_) (fun hc8 => ?_)
          · have h := h.1 hc8
            refine lv_iconst (v := 0) hx hb dX10_sundayThen_92 (by decide) ?_
            refine lv_ior hx hb dX10_sundayThen_93 ?_
            refine lv_istore_n (lv' := [(2, .int (x2 ||| 0)), (5, .int ((σ 72 x3.toNatClampNeg) + 2)), (4, .int 1), (0, .ref (Ad E 63)), (1, .int x1), (3, .int x3)]) hx hb dX10_sundayThen_94 rfl hl (by decide) rfl (fun ls hl => ?_)
            refine lv_iinc (v := (x3 + 1)) (lv' := [(3, .int (x3 + 1)), (2, .int (x2 ||| 0)), (5, .int ((σ 72 x3.toNatClampNeg) + 2)), (4, .int 1), (0, .ref (Ad E 63)), (1, .int x1)]) hx hb dX10_sundayThen_95 hl (k := 5) rfl rfl (by decide) rfl (fun ls hl => ?_)
            refine lv_goto (tgt := 4) hx hb dX10_sundayThen_98 (by decide) ?_
            exact h p e R s m args below meth c Z cells slots H locs ls C0 hH (lv_sub hl [4, 5, 1, 0] rfl) hret
          · have h := h.2 hc8
            refine lv_iconst (v := 1) hx hb dX10_sundayThen_86 (by decide) ?_
            refine lv_iload_n hx hb dX10_sundayThen_87 rfl (lv_at hl 5 rfl) ?_
            refine lv_ishl hx hb dX10_sundayThen_88 ?_
            refine lv_goto (tgt := 93) hx hb dX10_sundayThen_89 (by decide) ?_
            refine lv_ior hx hb dX10_sundayThen_93 ?_
            refine lv_istore_n (lv' := [(2, .int (x2 ||| (1 <<< (x3 &&& 31)))), (5, .int ((σ 72 x3.toNatClampNeg) + 2)), (4, .int 1), (0, .ref (Ad E 63)), (1, .int x1), (3, .int x3)]) hx hb dX10_sundayThen_94 rfl hl (by decide) rfl (fun ls hl => ?_)
            refine lv_iinc (v := (x3 + 1)) (lv' := [(3, .int (x3 + 1)), (2, .int (x2 ||| (1 <<< (x3 &&& 31)))), (5, .int ((σ 72 x3.toNatClampNeg) + 2)), (4, .int 1), (0, .ref (Ad E 63)), (1, .int x1)]) hx hb dX10_sundayThen_95 hl (k := 5) rfl rfl (by decide) rfl (fun ls hl => ?_)
            refine lv_goto (tgt := 4) hx hb dX10_sundayThen_98 (by decide) ?_
            exact h p e R s m args below meth c Z cells slots H locs ls C0 hH (lv_sub hl [4, 5, 1, 0] rfl) hret
        · have h := h.2 hc7
          refine lv_bipush (v := 20) hx hb dX10_sundayThen_68 (by decide) ?_
          refine lv_goto (tgt := 75) hx hb dX10_sundayThen_70 (by decide) ?_
          refine m_iast (j := x3.toNatClampNeg) C0 hH a_72 h.1 rfl dX10_sundayThen_75 (fun H locs hH => ?_)
          have h := h.2
          refine lv_iload_n hx hb dX10_sundayThen_76 rfl (lv_at hl 4 rfl) ?_
          refine lv_aload_n hx hb dX10_sundayThen_77 rfl (lv_at hl 2 rfl) ?_
          refine m_getr C0 hH f_63_16 72 rfl kF_X10_34 dX10_sundayThen_78 ?_
          refine lv_iload_n hx hb dX10_sundayThen_81 rfl (lv_at hl 5 rfl) ?_
          refine m_iald (x := 20) C0 hH a_72 h.1 dX10_sundayThen_82 up_rd ?_
          have h := h.2
          refine lv_if_ne (tgt := 92) hx hb dX10_sundayThen_83 (by decide) (fun _ => ?_) (fun hc => absurd hc (by decide))
          refine lv_iconst (v := 0) hx hb dX10_sundayThen_92 (by decide) ?_
          refine lv_ior hx hb dX10_sundayThen_93 ?_
          refine lv_istore_n (lv' := [(2, .int (x2 ||| 0)), (5, .int ((σ 72 x3.toNatClampNeg) + 2)), (4, .int 1), (0, .ref (Ad E 63)), (1, .int x1), (3, .int x3)]) hx hb dX10_sundayThen_94 rfl hl (by decide) rfl (fun ls hl => ?_)
          refine lv_iinc (v := (x3 + 1)) (lv' := [(3, .int (x3 + 1)), (2, .int (x2 ||| 0)), (5, .int ((σ 72 x3.toNatClampNeg) + 2)), (4, .int 1), (0, .ref (Ad E 63)), (1, .int x1)]) hx hb dX10_sundayThen_95 hl (k := 5) rfl rfl (by decide) rfl (fun ls hl => ?_)
          refine lv_goto (tgt := 4) hx hb dX10_sundayThen_98 (by decide) ?_
          exact h p e R s m args below meth c Z cells slots H locs ls C0 hH (lv_sub hl [4, 5, 1, 0] rfl) hret
      · have h := h.2 hc6
        refine lv_iconst (v := 0) hx hb dX10_sundayThen_57 (by decide) ?_
        refine lv_goto (tgt := 75) hx hb dX10_sundayThen_58 (by decide) ?_
        refine m_iast (j := x3.toNatClampNeg) C0 hH a_72 h.1 rfl dX10_sundayThen_75 (fun H locs hH => ?_)
        have h := h.2
        refine lv_iload_n hx hb dX10_sundayThen_76 rfl (lv_at hl 4 rfl) ?_
        refine lv_aload_n hx hb dX10_sundayThen_77 rfl (lv_at hl 2 rfl) ?_
        refine m_getr C0 hH f_63_16 72 rfl kF_X10_34 dX10_sundayThen_78 ?_
        refine lv_iload_n hx hb dX10_sundayThen_81 rfl (lv_at hl 5 rfl) ?_
        refine m_iald (x := 0) C0 hH a_72 h.1 dX10_sundayThen_82 up_rd ?_
        have h := h.2
        refine lv_if_ne (tgt := 92) hx hb dX10_sundayThen_83 (by decide) (fun hc => absurd hc (by decide)) (fun _ => ?_)
        refine lv_iconst (v := 1) hx hb dX10_sundayThen_86 (by decide) ?_
        refine lv_iload_n hx hb dX10_sundayThen_87 rfl (lv_at hl 5 rfl) ?_
        refine lv_ishl hx hb dX10_sundayThen_88 ?_
        refine lv_goto (tgt := 93) hx hb dX10_sundayThen_89 (by decide) ?_
        refine lv_ior hx hb dX10_sundayThen_93 ?_
        refine lv_istore_n (lv' := [(2, .int (x2 ||| (1 <<< (x3 &&& 31)))), (5, .int ((σ 72 x3.toNatClampNeg) + 2)), (4, .int 1), (0, .ref (Ad E 63)), (1, .int x1), (3, .int x3)]) hx hb dX10_sundayThen_94 rfl hl (by decide) rfl (fun ls hl => ?_)
        refine lv_iinc (v := (x3 + 1)) (lv' := [(3, .int (x3 + 1)), (2, .int (x2 ||| (1 <<< (x3 &&& 31)))), (5, .int ((σ 72 x3.toNatClampNeg) + 2)), (4, .int 1), (0, .ref (Ad E 63)), (1, .int x1)]) hx hb dX10_sundayThen_95 hl (k := 5) rfl rfl (by decide) rfl (fun ls hl => ?_)
        refine lv_goto (tgt := 4) hx hb dX10_sundayThen_98 (by decide) ?_
        exact h p e R s m args below meth c Z cells slots H locs ls C0 hH (lv_sub hl [4, 5, 1, 0] rfl) hret

def r_X10_sunday_0 (E : EE) (σ : Mm) (Q : Int32 → Mm → Prop) : Prop := Rn E M_X10_sunday 0 [(0, .ref (Ad E 63))] [] σ (qi Q)
def r_X10_sunday_66 (E : EE) (x1 : Int32) (x2 : Int32) (σ : Mm) (Q : Int32 → Mm → Prop) : Prop := Rn E M_X10_sunday 66 [(0, .ref (Ad E 63)), (1, .int x1), (2, .int x2)] [] σ (qi Q)
set_option maxRecDepth 20000 in
set_option maxHeartbeats 4000000 in
theorem s_X10_sunday_0 (E : EE) (σ : Mm) (Q : Int32 → Mm → Prop) (h : r_X10_lacks_0 E  σ (fun r2 τ1 => ((r2 = 0 → ((¬ (τ1 63 7) = 999 → r_X10_copy_66_72_0 E  (up τ1 63 7 ((τ1 63 7) + 1)) (fun τ5 => r_X10_sitsNow_0 E  τ5 (fun r7 τ6 => r_X10_sundayThen_0 E r7 τ6 (fun r9 τ8 => r_X10_copy_72_66_0 E  τ8 (fun τ10 => r_X10_sunday_66 E r9 0 τ10 Q))))) ∧ ((τ1 63 7) = 999 → Q (-104) τ1))) ∧ (¬ r2 = 0 → Q (-103) τ1)))) : r_X10_sunday_0 E σ Q := by
  intro p e R s m args below meth c Z cells slots H locs ls C0 hH hl hret
  have hx := C0.1
  have hb : c.code = cX10_sunday := C0.2.1
  have hl : lv_has ls 3 [(0, .ref (Ad E 63))] := hl
  refine lv_aload_n hx hb dX10_sunday_0 rfl (lv_at hl 0 rfl) ?_
  refine m_cV (M2 := M_X10_lacks) (As := []) (rest := []) h C0 hH hl kc_X10_lacks ki_X10_lacks kx_X10_lacks ob_63 kM_X10_161 rfl (Nat.le_of_ble_eq_true rfl) (Nat.le_of_ble_eq_true rfl) ⟨Nat.le_of_ble_eq_true rfl, Nat.le_of_ble_eq_true rfl⟩ dX10_sunday_1 rfl (fun r τ1 H locs hq hH => ?_)
  obtain ⟨r2, rfl, h⟩ := hq
  refine lv_if_eq (tgt := 10) hx hb dX10_sunday_4 (by decide) (fun hc3 => ?_) (fun hc3 => ?_)
  · have h := h.1 hc3
    refine lv_aload_n hx hb dX10_sunday_10 rfl (lv_at hl 0 rfl) ?_
    refine m_geti (x := τ1 63 7) C0 hH f_63_7 kF_X10_112 dX10_sunday_11 rfl ?_
    refine lv_sipush (v := 999) hx hb dX10_sunday_14 (by decide) ?_
    refine lv_icmp_ne (tgt := 23) hx hb dX10_sunday_17 (by decide) (fun hc4 => ?_) (fun hc4 => ?_)
    · have h := h.1 hc4
      refine lv_aload_n hx hb dX10_sunday_23 rfl (lv_at hl 0 rfl) ?_
      refine lv_dup hx hb dX10_sunday_24 rfl ?_
      refine m_geti (x := τ1 63 7) C0 hH f_63_7 kF_X10_112 dX10_sunday_25 rfl ?_
      refine lv_iconst (v := 1) hx hb dX10_sunday_28 (by decide) ?_
      refine lv_iadd hx hb dX10_sunday_29 ?_
      refine m_puti C0 hH f_63_7 kF_X10_112 rfl dX10_sunday_30 rfl rfl (fun H locs hH => ?_)
      refine lv_aload_n hx hb dX10_sunday_33 rfl (lv_at hl 0 rfl) ?_
      refine m_getr C0 hH f_63_10 66 rfl kF_X10_16 dX10_sunday_34 ?_
      refine lv_aload_n hx hb dX10_sunday_37 rfl (lv_at hl 0 rfl) ?_
      refine m_getr C0 hH f_63_16 72 rfl kF_X10_34 dX10_sunday_38 ?_
      refine m_cS (M2 := M_X10_copy) (As := [.ref (Ad E 66), .ref (Ad E 72)]) (rest := []) h C0 hH hl kc_X10_copy ks_X10_copy kM_X10_165 rfl (Nat.le_of_ble_eq_true rfl) (Nat.le_of_ble_eq_true rfl) ⟨Nat.le_of_ble_eq_true rfl, Nat.le_of_ble_eq_true rfl⟩ dX10_sunday_41 rfl (fun r τ5 H locs hq hH => ?_)
      obtain ⟨rfl, h⟩ := hq
      refine lv_aload_n hx hb dX10_sunday_44 rfl (lv_at hl 0 rfl) ?_
      refine lv_aload_n hx hb dX10_sunday_45 rfl (lv_at hl 0 rfl) ?_
      refine m_cV (M2 := M_X10_sitsNow) (As := []) (rest := [.ref (Ad E 63)]) h C0 hH hl kc_X10_sitsNow ki_X10_sitsNow kx_X10_sitsNow ob_63 kM_X10_128 rfl (Nat.le_of_ble_eq_true rfl) (Nat.le_of_ble_eq_true rfl) ⟨Nat.le_of_ble_eq_true rfl, Nat.le_of_ble_eq_true rfl⟩ dX10_sunday_46 rfl (fun r τ6 H locs hq hH => ?_)
      obtain ⟨r7, rfl, h⟩ := hq
      refine m_cV (M2 := M_X10_sundayThen) (As := [.int r7]) (rest := []) h C0 hH hl kc_X10_sundayThen ki_X10_sundayThen kx_X10_sundayThen ob_63 kM_X10_169 rfl (Nat.le_of_ble_eq_true rfl) (Nat.le_of_ble_eq_true rfl) ⟨Nat.le_of_ble_eq_true rfl, Nat.le_of_ble_eq_true rfl⟩ dX10_sunday_49 rfl (fun r τ8 H locs hq hH => ?_)
      obtain ⟨r9, rfl, h⟩ := hq
      refine lv_istore_n (lv' := [(1, .int r9), (0, .ref (Ad E 63))]) hx hb dX10_sunday_52 rfl hl (by decide) rfl (fun ls hl => ?_)
      refine lv_aload_n hx hb dX10_sunday_53 rfl (lv_at hl 1 rfl) ?_
      refine m_getr C0 hH f_63_16 72 rfl kF_X10_34 dX10_sunday_54 ?_
      refine lv_aload_n hx hb dX10_sunday_57 rfl (lv_at hl 1 rfl) ?_
      refine m_getr C0 hH f_63_10 66 rfl kF_X10_16 dX10_sunday_58 ?_
      refine m_cS (M2 := M_X10_copy) (As := [.ref (Ad E 72), .ref (Ad E 66)]) (rest := []) h C0 hH hl kc_X10_copy ks_X10_copy kM_X10_165 rfl (Nat.le_of_ble_eq_true rfl) (Nat.le_of_ble_eq_true rfl) ⟨Nat.le_of_ble_eq_true rfl, Nat.le_of_ble_eq_true rfl⟩ dX10_sunday_61 rfl (fun r τ10 H locs hq hH => ?_)
      obtain ⟨rfl, h⟩ := hq
      refine lv_iconst (v := 0) hx hb dX10_sunday_64 (by decide) ?_
      refine lv_istore_n (lv' := [(2, .int 0), (1, .int r9), (0, .ref (Ad E 63))]) hx hb dX10_sunday_65 rfl hl (by decide) rfl (fun ls hl => ?_)
      exact h p e R s m args below meth c Z cells slots H locs ls C0 hH (lv_sub hl [2, 1, 0] rfl) hret
    · have h := h.2 hc4
      refine lv_bipush (v := (-104)) hx hb dX10_sunday_20 (by decide) ?_
      exact hret (some (.int (-104))) _ _ _ _ _ ⟨_, rfl, h⟩ hH ⟨dX10_sunday_22, .int, rfl, rfl⟩
  · have h := h.2 hc3
    refine lv_bipush (v := (-103)) hx hb dX10_sunday_7 (by decide) ?_
    exact hret (some (.int (-103))) _ _ _ _ _ ⟨_, rfl, h⟩ hH ⟨dX10_sunday_9, .int, rfl, rfl⟩
set_option maxRecDepth 20000 in
set_option maxHeartbeats 4000000 in
theorem s_X10_sunday_66 (E : EE) (x1 : Int32) (x2 : Int32) (σ : Mm) (Q : Int32 → Mm → Prop) (h : (((σ 63 3) ≤ x2 → r_X10_ones_0 E x1 σ (fun r3 τ2 => Q r3 τ2)) ∧ (¬ (σ 63 3) ≤ x2 → (vp_in x2 6 ∧ (vp_in x2 6 ∧ r_X10_sunday_66 E x1 (x2 + 1) (up σ 67 x2.toNatClampNeg ((σ 67 x2.toNatClampNeg) + ((x1 >>> (x2 &&& 31)) &&& 1))) Q))))) : r_X10_sunday_66 E x1 x2 σ Q := by
  intro p e R s m args below meth c Z cells slots H locs ls C0 hH hl hret
  have hx := C0.1
  have hb : c.code = cX10_sunday := C0.2.1
  have hl : lv_has ls 3 [(0, .ref (Ad E 63)), (1, .int x1), (2, .int x2)] := hl
  refine lv_iload_n hx hb dX10_sunday_66 rfl (lv_at hl 2 rfl) ?_
  refine lv_aload_n hx hb dX10_sunday_67 rfl (lv_at hl 0 rfl) ?_
  refine m_geti (x := σ 63 3) C0 hH f_63_3 kF_X10_103 dX10_sunday_68 rfl ?_
  refine lv_icmp_ge (tgt := 94) hx hb dX10_sunday_71 (by decide) (fun hc1 => ?_) (fun hc1 => ?_)
  · have h := h.1 hc1
    refine lv_iload_n hx hb dX10_sunday_94 rfl (lv_at hl 1 rfl) ?_
    refine m_cS (M2 := M_X10_ones) (As := [.int x1]) (rest := []) h C0 hH hl kc_X10_ones ks_X10_ones kM_X10_172 rfl (Nat.le_of_ble_eq_true rfl) (Nat.le_of_ble_eq_true rfl) ⟨Nat.le_of_ble_eq_true rfl, Nat.le_of_ble_eq_true rfl⟩ dX10_sunday_95 rfl (fun r τ2 H locs hq hH => ?_)
    obtain ⟨r3, rfl, h⟩ := hq
    exact hret (some (.int r3)) _ _ _ _ _ ⟨_, rfl, h⟩ hH ⟨dX10_sunday_98, .int, rfl, rfl⟩
  · have h := h.2 hc1
    refine lv_aload_n hx hb dX10_sunday_74 rfl (lv_at hl 0 rfl) ?_
    refine m_getr C0 hH f_63_11 67 rfl kF_X10_19 dX10_sunday_75 ?_
    refine lv_iload_n hx hb dX10_sunday_78 rfl (lv_at hl 2 rfl) ?_
    refine lv_dup2_11 hx hb dX10_sunday_79 rfl rfl ?_
    refine m_iald (x := σ 67 x2.toNatClampNeg) C0 hH a_67 h.1 dX10_sunday_80 rfl ?_
    have h := h.2
    refine lv_iload_n hx hb dX10_sunday_81 rfl (lv_at hl 1 rfl) ?_
    refine lv_iload_n hx hb dX10_sunday_82 rfl (lv_at hl 2 rfl) ?_
    refine lv_ishr hx hb dX10_sunday_83 ?_
    refine lv_iconst (v := 1) hx hb dX10_sunday_84 (by decide) ?_
    refine lv_iand hx hb dX10_sunday_85 ?_
    refine lv_iadd hx hb dX10_sunday_86 ?_
    refine m_iast (j := x2.toNatClampNeg) C0 hH a_67 h.1 rfl dX10_sunday_87 (fun H locs hH => ?_)
    have h := h.2
    refine lv_iinc (v := (x2 + 1)) (lv' := [(2, .int (x2 + 1)), (0, .ref (Ad E 63)), (1, .int x1)]) hx hb dX10_sunday_88 hl (k := 2) rfl rfl (by decide) rfl (fun ls hl => ?_)
    refine lv_goto (tgt := 66) hx hb dX10_sunday_91 (by decide) ?_
    exact h p e R s m args below meth c Z cells slots H locs ls C0 hH (lv_sub hl [1, 2, 0] rfl) hret

def r_X10_forgive_0 (E : EE) (x1 : Int32) (σ : Mm) (Q : Int32 → Mm → Prop) : Prop := Rn E M_X10_forgive 0 [(0, .ref (Ad E 63)), (1, .int x1)] [] σ (qi Q)
set_option maxRecDepth 20000 in
set_option maxHeartbeats 4000000 in
theorem s_X10_forgive_0 (E : EE) (x1 : Int32) (σ : Mm) (Q : Int32 → Mm → Prop) (h : r_X10_isWrong_0 E x1 σ (fun r2 τ1 => ((¬ r2 = 0 → ((¬ (((τ1 63 6) >>> (x1 &&& 31)) &&& 1) = 1 → (vp_in x1 8 ∧ r_X10_guiltBy_0 E (τ1 68 x1.toNatClampNeg) ((τ1 63 6) ||| (1 <<< (x1 &&& 31))) (up τ1 63 6 ((τ1 63 6) ||| (1 <<< (x1 &&& 31)))) (fun r6 τ5 => Q r6 τ5))) ∧ ((((τ1 63 6) >>> (x1 &&& 31)) &&& 1) = 1 → Q (-103) τ1))) ∧ (r2 = 0 → Q (-101) τ1)))) : r_X10_forgive_0 E x1 σ Q := by
  intro p e R s m args below meth c Z cells slots H locs ls C0 hH hl hret
  have hx := C0.1
  have hb : c.code = cX10_forgive := C0.2.1
  have hl : lv_has ls 2 [(0, .ref (Ad E 63)), (1, .int x1)] := hl
  refine lv_aload_n hx hb dX10_forgive_0 rfl (lv_at hl 0 rfl) ?_
  refine lv_iload_n hx hb dX10_forgive_1 rfl (lv_at hl 1 rfl) ?_
  refine m_cV (M2 := M_X10_isWrong) (As := [.int x1]) (rest := []) h C0 hH hl kc_X10_isWrong ki_X10_isWrong kx_X10_isWrong ob_63 kM_X10_148 rfl (Nat.le_of_ble_eq_true rfl) (Nat.le_of_ble_eq_true rfl) ⟨Nat.le_of_ble_eq_true rfl, Nat.le_of_ble_eq_true rfl⟩ dX10_forgive_2 rfl (fun r τ1 H locs hq hH => ?_)
  obtain ⟨r2, rfl, h⟩ := hq
  refine lv_if_ne (tgt := 11) hx hb dX10_forgive_5 (by decide) (fun hc3 => ?_) (fun hc3 => ?_)
  · have h := h.1 hc3
    refine lv_aload_n hx hb dX10_forgive_11 rfl (lv_at hl 0 rfl) ?_
    refine m_geti (x := τ1 63 6) C0 hH f_63_6 kF_X10_109 dX10_forgive_12 rfl ?_
    refine lv_iload_n hx hb dX10_forgive_15 rfl (lv_at hl 1 rfl) ?_
    refine lv_ishr hx hb dX10_forgive_16 ?_
    refine lv_iconst (v := 1) hx hb dX10_forgive_17 (by decide) ?_
    refine lv_iand hx hb dX10_forgive_18 ?_
    refine lv_iconst (v := 1) hx hb dX10_forgive_19 (by decide) ?_
    refine lv_icmp_ne (tgt := 26) hx hb dX10_forgive_20 (by decide) (fun hc4 => ?_) (fun hc4 => ?_)
    · have h := h.1 hc4
      refine lv_aload_n hx hb dX10_forgive_26 rfl (lv_at hl 0 rfl) ?_
      refine lv_dup hx hb dX10_forgive_27 rfl ?_
      refine m_geti (x := τ1 63 6) C0 hH f_63_6 kF_X10_109 dX10_forgive_28 rfl ?_
      refine lv_iconst (v := 1) hx hb dX10_forgive_31 (by decide) ?_
      refine lv_iload_n hx hb dX10_forgive_32 rfl (lv_at hl 1 rfl) ?_
      refine lv_ishl hx hb dX10_forgive_33 ?_
      refine lv_ior hx hb dX10_forgive_34 ?_
      refine m_puti C0 hH f_63_6 kF_X10_109 rfl dX10_forgive_35 rfl rfl (fun H locs hH => ?_)
      refine lv_aload_n hx hb dX10_forgive_38 rfl (lv_at hl 0 rfl) ?_
      refine lv_aload_n hx hb dX10_forgive_39 rfl (lv_at hl 0 rfl) ?_
      refine m_getr C0 hH f_63_12 68 rfl kF_X10_22 dX10_forgive_40 ?_
      refine lv_iload_n hx hb dX10_forgive_43 rfl (lv_at hl 1 rfl) ?_
      refine m_iald (x := τ1 68 x1.toNatClampNeg) C0 hH a_68 h.1 dX10_forgive_44 rfl ?_
      have h := h.2
      refine lv_aload_n hx hb dX10_forgive_45 rfl (lv_at hl 0 rfl) ?_
      refine m_geti (x := ((τ1 63 6) ||| (1 <<< (x1 &&& 31)))) C0 hH f_63_6 kF_X10_109 dX10_forgive_46 rfl ?_
      refine m_cV (M2 := M_X10_guiltBy) (As := [.int (τ1 68 x1.toNatClampNeg), .int ((τ1 63 6) ||| (1 <<< (x1 &&& 31)))]) (rest := []) h C0 hH hl kc_X10_guiltBy ki_X10_guiltBy kx_X10_guiltBy ob_63 kM_X10_121 rfl (Nat.le_of_ble_eq_true rfl) (Nat.le_of_ble_eq_true rfl) ⟨Nat.le_of_ble_eq_true rfl, Nat.le_of_ble_eq_true rfl⟩ dX10_forgive_49 rfl (fun r τ5 H locs hq hH => ?_)
      obtain ⟨r6, rfl, h⟩ := hq
      exact hret (some (.int r6)) _ _ _ _ _ ⟨_, rfl, h⟩ hH ⟨dX10_forgive_52, .int, rfl, rfl⟩
    · have h := h.2 hc4
      refine lv_bipush (v := (-103)) hx hb dX10_forgive_23 (by decide) ?_
      exact hret (some (.int (-103))) _ _ _ _ _ ⟨_, rfl, h⟩ hH ⟨dX10_forgive_25, .int, rfl, rfl⟩
  · have h := h.2 hc3
    refine lv_bipush (v := (-101)) hx hb dX10_forgive_8 (by decide) ?_
    exact hret (some (.int (-101))) _ _ _ _ _ ⟨_, rfl, h⟩ hH ⟨dX10_forgive_10, .int, rfl, rfl⟩

def r_X10_again_0 (E : EE) (x1 : Int32) (x2 : Int32) (σ : Mm) (Q : Int32 → Mm → Prop) : Prop := Rn E M_X10_again 0 [(0, .ref (Ad E 63)), (1, .int x1), (2, .int x2)] [] σ (qi Q)
set_option maxRecDepth 20000 in
set_option maxHeartbeats 4000000 in
theorem s_X10_again_0 (E : EE) (x1 : Int32) (x2 : Int32) (σ : Mm) (Q : Int32 → Mm → Prop) (h : r_X10_isWrong_0 E x1 σ (fun r2 τ1 => ((¬ r2 = 0 → r_X10_in_0 E x2.toInt64 1 9 τ1 (fun r5 τ4 => ((¬ r5 = 0 → (vp_in x1 8 ∧ (vp_in x1 8 ∧ r_X10_guiltBy_0 E (τ4 68 x1.toNatClampNeg) ((τ4 63 6) &&& ((1 <<< (x1 &&& 31)) ^^^ (-1))) (up (up τ4 63 6 ((τ4 63 6) &&& ((1 <<< (x1 &&& 31)) ^^^ (-1)))) 70 x1.toNatClampNeg x2) (fun r8 τ7 => Q r8 τ7)))) ∧ (r5 = 0 → Q (-102) τ4)))) ∧ (r2 = 0 → Q (-101) τ1)))) : r_X10_again_0 E x1 x2 σ Q := by
  intro p e R s m args below meth c Z cells slots H locs ls C0 hH hl hret
  have hx := C0.1
  have hb : c.code = cX10_again := C0.2.1
  have hl : lv_has ls 3 [(0, .ref (Ad E 63)), (1, .int x1), (2, .int x2)] := hl
  refine lv_aload_n hx hb dX10_again_0 rfl (lv_at hl 0 rfl) ?_
  refine lv_iload_n hx hb dX10_again_1 rfl (lv_at hl 1 rfl) ?_
  refine m_cV (M2 := M_X10_isWrong) (As := [.int x1]) (rest := []) h C0 hH hl kc_X10_isWrong ki_X10_isWrong kx_X10_isWrong ob_63 kM_X10_148 rfl (Nat.le_of_ble_eq_true rfl) (Nat.le_of_ble_eq_true rfl) ⟨Nat.le_of_ble_eq_true rfl, Nat.le_of_ble_eq_true rfl⟩ dX10_again_2 rfl (fun r τ1 H locs hq hH => ?_)
  obtain ⟨r2, rfl, h⟩ := hq
  refine lv_if_ne (tgt := 11) hx hb dX10_again_5 (by decide) (fun hc3 => ?_) (fun hc3 => ?_)
  · have h := h.1 hc3
    refine lv_iload_n hx hb dX10_again_11 rfl (lv_at hl 2 rfl) ?_
    refine lv_i2l hx hb dX10_again_12 rfl ?_
    refine lv_lconst (v := 1) hx hb dX10_again_13 (by decide) ?_
    refine lv_ldc2 hx hb C0.2.2.2.1 (C0.2.2.2.2.1 _ kC_X10_175) dX10_again_14 ?_
    refine m_cS (M2 := M_X10_in) (As := [.long x2.toInt64, .long 1, .long 9]) (rest := []) h C0 hH hl kc_X10_in ks_X10_in kM_X10_61 rfl (Nat.le_of_ble_eq_true rfl) (Nat.le_of_ble_eq_true rfl) ⟨Nat.le_of_ble_eq_true rfl, Nat.le_of_ble_eq_true rfl⟩ dX10_again_17 rfl (fun r τ4 H locs hq hH => ?_)
    obtain ⟨r5, rfl, h⟩ := hq
    refine lv_if_ne (tgt := 26) hx hb dX10_again_20 (by decide) (fun hc6 => ?_) (fun hc6 => ?_)
    · have h := h.1 hc6
      refine lv_aload_n hx hb dX10_again_26 rfl (lv_at hl 0 rfl) ?_
      refine lv_dup hx hb dX10_again_27 rfl ?_
      refine m_geti (x := τ4 63 6) C0 hH f_63_6 kF_X10_109 dX10_again_28 rfl ?_
      refine lv_iconst (v := 1) hx hb dX10_again_31 (by decide) ?_
      refine lv_iload_n hx hb dX10_again_32 rfl (lv_at hl 1 rfl) ?_
      refine lv_ishl hx hb dX10_again_33 ?_
      refine lv_iconst (v := (-1)) hx hb dX10_again_34 (by decide) ?_
      refine lv_ixor hx hb dX10_again_35 ?_
      refine lv_iand hx hb dX10_again_36 ?_
      refine m_puti C0 hH f_63_6 kF_X10_109 rfl dX10_again_37 rfl rfl (fun H locs hH => ?_)
      refine lv_aload_n hx hb dX10_again_40 rfl (lv_at hl 0 rfl) ?_
      refine m_getr C0 hH f_63_14 70 rfl kF_X10_28 dX10_again_41 ?_
      refine lv_iload_n hx hb dX10_again_44 rfl (lv_at hl 1 rfl) ?_
      refine lv_iload_n hx hb dX10_again_45 rfl (lv_at hl 2 rfl) ?_
      refine m_iast (j := x1.toNatClampNeg) C0 hH a_70 h.1 rfl dX10_again_46 (fun H locs hH => ?_)
      have h := h.2
      refine lv_aload_n hx hb dX10_again_47 rfl (lv_at hl 0 rfl) ?_
      refine lv_aload_n hx hb dX10_again_48 rfl (lv_at hl 0 rfl) ?_
      refine m_getr C0 hH f_63_12 68 rfl kF_X10_22 dX10_again_49 ?_
      refine lv_iload_n hx hb dX10_again_52 rfl (lv_at hl 1 rfl) ?_
      refine m_iald (x := τ4 68 x1.toNatClampNeg) C0 hH a_68 h.1 dX10_again_53 rfl ?_
      have h := h.2
      refine lv_aload_n hx hb dX10_again_54 rfl (lv_at hl 0 rfl) ?_
      refine m_geti (x := ((τ4 63 6) &&& ((1 <<< (x1 &&& 31)) ^^^ (-1)))) C0 hH f_63_6 kF_X10_109 dX10_again_55 rfl ?_
      refine m_cV (M2 := M_X10_guiltBy) (As := [.int (τ4 68 x1.toNatClampNeg), .int ((τ4 63 6) &&& ((1 <<< (x1 &&& 31)) ^^^ (-1)))]) (rest := []) h C0 hH hl kc_X10_guiltBy ki_X10_guiltBy kx_X10_guiltBy ob_63 kM_X10_121 rfl (Nat.le_of_ble_eq_true rfl) (Nat.le_of_ble_eq_true rfl) ⟨Nat.le_of_ble_eq_true rfl, Nat.le_of_ble_eq_true rfl⟩ dX10_again_58 rfl (fun r τ7 H locs hq hH => ?_)
      obtain ⟨r8, rfl, h⟩ := hq
      exact hret (some (.int r8)) _ _ _ _ _ ⟨_, rfl, h⟩ hH ⟨dX10_again_61, .int, rfl, rfl⟩
    · have h := h.2 hc6
      refine lv_bipush (v := (-102)) hx hb dX10_again_23 (by decide) ?_
      exact hret (some (.int (-102))) _ _ _ _ _ ⟨_, rfl, h⟩ hH ⟨dX10_again_25, .int, rfl, rfl⟩
  · have h := h.2 hc3
    refine lv_bipush (v := (-101)) hx hb dX10_again_8 (by decide) ?_
    exact hret (some (.int (-101))) _ _ _ _ _ ⟨_, rfl, h⟩ hH ⟨dX10_again_10, .int, rfl, rfl⟩

def r_X10_room_0 (E : EE) (x1 : Int32) (σ : Mm) (Q : Int32 → Mm → Prop) : Prop := Rn E M_X10_room 0 [(0, .ref (Ad E 63)), (1, .int x1)] [] σ (qi Q)
set_option maxRecDepth 20000 in
set_option maxHeartbeats 4000000 in
theorem s_X10_room_0 (E : EE) (x1 : Int32) (σ : Mm) (Q : Int32 → Mm → Prop) (h : r_X10_in_0 E x1.toInt64 1 6 σ (fun r2 τ1 => ((¬ r2 = 0 → r_X10_lacks_0 E  τ1 (fun r5 τ4 => ((r5 = 0 → Q (τ4 63 5) (up τ4 63 5 x1)) ∧ (¬ r5 = 0 → Q (-103) τ4)))) ∧ (r2 = 0 → Q (-102) τ1)))) : r_X10_room_0 E x1 σ Q := by
  intro p e R s m args below meth c Z cells slots H locs ls C0 hH hl hret
  have hx := C0.1
  have hb : c.code = cX10_room := C0.2.1
  have hl : lv_has ls 3 [(0, .ref (Ad E 63)), (1, .int x1)] := hl
  refine lv_iload_n hx hb dX10_room_0 rfl (lv_at hl 1 rfl) ?_
  refine lv_i2l hx hb dX10_room_1 rfl ?_
  refine lv_lconst (v := 1) hx hb dX10_room_2 (by decide) ?_
  refine lv_ldc2 hx hb C0.2.2.2.1 (C0.2.2.2.2.1 _ kC_X10_177) dX10_room_3 ?_
  refine m_cS (M2 := M_X10_in) (As := [.long x1.toInt64, .long 1, .long 6]) (rest := []) h C0 hH hl kc_X10_in ks_X10_in kM_X10_61 rfl (Nat.le_of_ble_eq_true rfl) (Nat.le_of_ble_eq_true rfl) ⟨Nat.le_of_ble_eq_true rfl, Nat.le_of_ble_eq_true rfl⟩ dX10_room_6 rfl (fun r τ1 H locs hq hH => ?_)
  obtain ⟨r2, rfl, h⟩ := hq
  refine lv_if_ne (tgt := 15) hx hb dX10_room_9 (by decide) (fun hc3 => ?_) (fun hc3 => ?_)
  · have h := h.1 hc3
    refine lv_aload_n hx hb dX10_room_15 rfl (lv_at hl 0 rfl) ?_
    refine m_cV (M2 := M_X10_lacks) (As := []) (rest := []) h C0 hH hl kc_X10_lacks ki_X10_lacks kx_X10_lacks ob_63 kM_X10_161 rfl (Nat.le_of_ble_eq_true rfl) (Nat.le_of_ble_eq_true rfl) ⟨Nat.le_of_ble_eq_true rfl, Nat.le_of_ble_eq_true rfl⟩ dX10_room_16 rfl (fun r τ4 H locs hq hH => ?_)
    obtain ⟨r5, rfl, h⟩ := hq
    refine lv_if_eq (tgt := 25) hx hb dX10_room_19 (by decide) (fun hc6 => ?_) (fun hc6 => ?_)
    · have h := h.1 hc6
      refine lv_aload_n hx hb dX10_room_25 rfl (lv_at hl 0 rfl) ?_
      refine m_geti (x := τ4 63 5) C0 hH f_63_5 kF_X10_100 dX10_room_26 rfl ?_
      refine lv_istore_n (lv' := [(2, .int (τ4 63 5)), (0, .ref (Ad E 63)), (1, .int x1)]) hx hb dX10_room_29 rfl hl (by decide) rfl (fun ls hl => ?_)
      refine lv_aload_n hx hb dX10_room_30 rfl (lv_at hl 1 rfl) ?_
      refine lv_iload_n hx hb dX10_room_31 rfl (lv_at hl 2 rfl) ?_
      refine m_puti C0 hH f_63_5 kF_X10_100 rfl dX10_room_32 rfl rfl (fun H locs hH => ?_)
      refine lv_iload_n hx hb dX10_room_35 rfl (lv_at hl 0 rfl) ?_
      exact hret (some (.int (τ4 63 5))) _ _ _ _ _ ⟨_, rfl, h⟩ hH ⟨dX10_room_36, .int, rfl, rfl⟩
    · have h := h.2 hc6
      refine lv_bipush (v := (-103)) hx hb dX10_room_22 (by decide) ?_
      exact hret (some (.int (-103))) _ _ _ _ _ ⟨_, rfl, h⟩ hH ⟨dX10_room_24, .int, rfl, rfl⟩
  · have h := h.2 hc3
    refine lv_bipush (v := (-102)) hx hb dX10_room_12 (by decide) ?_
    exact hret (some (.int (-102))) _ _ _ _ _ ⟨_, rfl, h⟩ hH ⟨dX10_room_14, .int, rfl, rfl⟩

def r_X10_change_0 (E : EE) (x1 : Int32) (x2 : Int32) (x3 : Int32) (σ : Mm) (Q : Int32 → Mm → Prop) : Prop := Rn E M_X10_change 0 [(0, .ref (Ad E 63)), (1, .int x1), (2, .int x2), (3, .int x3)] [] σ (qi Q)
set_option maxRecDepth 20000 in
set_option maxHeartbeats 4000000 in
theorem s_X10_change_0 (E : EE) (x1 : Int32) (x2 : Int32) (x3 : Int32) (σ : Mm) (Q : Int32 → Mm → Prop) (h : r_X10_isPerson_0 E x1 σ (fun r2 τ1 => ((¬ r2 = 0 → r_X10_in_0 E x2.toInt64 0 4 τ1 (fun r5 τ4 => ((r5 = 0 → Q (-102) τ4) ∧ (¬ r5 = 0 → r_X10_in_0 E x3.toInt64 0 20 τ4 (fun r8 τ7 => ((¬ r8 = 0 → (vp_in x1 6 ∧ (vp_in x1 6 ∧ (vp_in x1 6 ∧ Q (τ7 65 x1.toNatClampNeg) (up (up τ7 65 x1.toNatClampNeg x2) 66 x1.toNatClampNeg x3))))) ∧ (r8 = 0 → Q (-102) τ7))))))) ∧ (r2 = 0 → Q (-101) τ1)))) : r_X10_change_0 E x1 x2 x3 σ Q := by
  intro p e R s m args below meth c Z cells slots H locs ls C0 hH hl hret
  have hx := C0.1
  have hb : c.code = cX10_change := C0.2.1
  have hl : lv_has ls 5 [(0, .ref (Ad E 63)), (1, .int x1), (2, .int x2), (3, .int x3)] := hl
  refine lv_aload_n hx hb dX10_change_0 rfl (lv_at hl 0 rfl) ?_
  refine lv_iload_n hx hb dX10_change_1 rfl (lv_at hl 1 rfl) ?_
  refine m_cV (M2 := M_X10_isPerson) (As := [.int x1]) (rest := []) h C0 hH hl kc_X10_isPerson ki_X10_isPerson kx_X10_isPerson ob_63 kM_X10_134 rfl (Nat.le_of_ble_eq_true rfl) (Nat.le_of_ble_eq_true rfl) ⟨Nat.le_of_ble_eq_true rfl, Nat.le_of_ble_eq_true rfl⟩ dX10_change_2 rfl (fun r τ1 H locs hq hH => ?_)
  obtain ⟨r2, rfl, h⟩ := hq
  refine lv_if_ne (tgt := 11) hx hb dX10_change_5 (by decide) (fun hc3 => ?_) (fun hc3 => ?_)
  · have h := h.1 hc3
    refine lv_iload_n hx hb dX10_change_11 rfl (lv_at hl 2 rfl) ?_
    refine lv_i2l hx hb dX10_change_12 rfl ?_
    refine lv_lconst (v := 0) hx hb dX10_change_13 (by decide) ?_
    refine lv_ldc2 hx hb C0.2.2.2.1 (C0.2.2.2.2.1 _ kC_X10_140) dX10_change_14 ?_
    refine m_cS (M2 := M_X10_in) (As := [.long x2.toInt64, .long 0, .long 4]) (rest := []) h C0 hH hl kc_X10_in ks_X10_in kM_X10_61 rfl (Nat.le_of_ble_eq_true rfl) (Nat.le_of_ble_eq_true rfl) ⟨Nat.le_of_ble_eq_true rfl, Nat.le_of_ble_eq_true rfl⟩ dX10_change_17 rfl (fun r τ4 H locs hq hH => ?_)
    obtain ⟨r5, rfl, h⟩ := hq
    refine lv_if_eq (tgt := 35) hx hb dX10_change_20 (by decide) (fun hc6 => ?_) (fun hc6 => ?_)
    · have h := h.1 hc6
      refine lv_bipush (v := (-102)) hx hb dX10_change_35 (by decide) ?_
      exact hret (some (.int (-102))) _ _ _ _ _ ⟨_, rfl, h⟩ hH ⟨dX10_change_37, .int, rfl, rfl⟩
    · have h := h.2 hc6
      refine lv_iload_n hx hb dX10_change_23 rfl (lv_at hl 3 rfl) ?_
      refine lv_i2l hx hb dX10_change_24 rfl ?_
      refine lv_lconst (v := 0) hx hb dX10_change_25 (by decide) ?_
      refine lv_ldc2 hx hb C0.2.2.2.1 (C0.2.2.2.2.1 _ kC_X10_179) dX10_change_26 ?_
      refine m_cS (M2 := M_X10_in) (As := [.long x3.toInt64, .long 0, .long 20]) (rest := []) h C0 hH hl kc_X10_in ks_X10_in kM_X10_61 rfl (Nat.le_of_ble_eq_true rfl) (Nat.le_of_ble_eq_true rfl) ⟨Nat.le_of_ble_eq_true rfl, Nat.le_of_ble_eq_true rfl⟩ dX10_change_29 rfl (fun r τ7 H locs hq hH => ?_)
      obtain ⟨r8, rfl, h⟩ := hq
      refine lv_if_ne (tgt := 38) hx hb dX10_change_32 (by decide) (fun hc9 => ?_) (fun hc9 => ?_)
      · have h := h.1 hc9
        refine lv_aload_n hx hb dX10_change_38 rfl (lv_at hl 0 rfl) ?_
        refine m_getr C0 hH f_63_9 65 rfl kF_X10_13 dX10_change_39 ?_
        refine lv_iload_n hx hb dX10_change_42 rfl (lv_at hl 1 rfl) ?_
        refine m_iald (x := τ7 65 x1.toNatClampNeg) C0 hH a_65 h.1 dX10_change_43 rfl ?_
        have h := h.2
        refine lv_istore (lv' := [(4, .int (τ7 65 x1.toNatClampNeg)), (0, .ref (Ad E 63)), (1, .int x1), (2, .int x2), (3, .int x3)]) hx hb dX10_change_44 hl (by decide) rfl (fun ls hl => ?_)
        refine lv_aload_n hx hb dX10_change_46 rfl (lv_at hl 1 rfl) ?_
        refine m_getr C0 hH f_63_9 65 rfl kF_X10_13 dX10_change_47 ?_
        refine lv_iload_n hx hb dX10_change_50 rfl (lv_at hl 2 rfl) ?_
        refine lv_iload_n hx hb dX10_change_51 rfl (lv_at hl 3 rfl) ?_
        refine m_iast (j := x1.toNatClampNeg) C0 hH a_65 h.1 rfl dX10_change_52 (fun H locs hH => ?_)
        have h := h.2
        refine lv_aload_n hx hb dX10_change_53 rfl (lv_at hl 1 rfl) ?_
        refine m_getr C0 hH f_63_10 66 rfl kF_X10_16 dX10_change_54 ?_
        refine lv_iload_n hx hb dX10_change_57 rfl (lv_at hl 2 rfl) ?_
        refine lv_iload_n hx hb dX10_change_58 rfl (lv_at hl 4 rfl) ?_
        refine m_iast (j := x1.toNatClampNeg) C0 hH a_66 h.1 rfl dX10_change_59 (fun H locs hH => ?_)
        have h := h.2
        refine lv_iload hx hb dX10_change_60 (lv_at hl 0 rfl) ?_
        exact hret (some (.int (τ7 65 x1.toNatClampNeg))) _ _ _ _ _ ⟨_, rfl, h⟩ hH ⟨dX10_change_62, .int, rfl, rfl⟩
      · have h := h.2 hc9
        refine lv_bipush (v := (-102)) hx hb dX10_change_35 (by decide) ?_
        exact hret (some (.int (-102))) _ _ _ _ _ ⟨_, rfl, h⟩ hH ⟨dX10_change_37, .int, rfl, rfl⟩
  · have h := h.2 hc3
    refine lv_bipush (v := (-101)) hx hb dX10_change_8 (by decide) ?_
    exact hret (some (.int (-101))) _ _ _ _ _ ⟨_, rfl, h⟩ hH ⟨dX10_change_10, .int, rfl, rfl⟩

def r_X10_goSundays_0 (E : EE) (x1 : Int32) (x2 : Int32) (σ : Mm) (Q : Mm → Prop) : Prop := Rn E M_X10_goSundays 0 [(0, .ref (Ad E 63)), (1, .int x1), (2, .int x2)] [] σ (qv Q)
def r_X10_goSundays_35 (E : EE) (x1 : Int32) (x2 : Int32) (x3 : Int32) (x4 : Int32) (σ : Mm) (Q : Mm → Prop) : Prop := Rn E M_X10_goSundays 35 [(0, .ref (Ad E 63)), (1, .int x1), (2, .int x2), (3, .int x3), (4, .int x4)] [] σ (qv Q)
def r_X10_goSundays_67 (E : EE) (x1 : Int32) (x2 : Int32) (x3 : Int32) (x4 : Int32) (σ : Mm) (Q : Mm → Prop) : Prop := Rn E M_X10_goSundays 67 [(0, .ref (Ad E 63)), (1, .int x1), (2, .int x2), (3, .int x3), (4, .int x4)] [] σ (qv Q)
set_option maxRecDepth 20000 in
set_option maxHeartbeats 4000000 in
theorem s_X10_goSundays_0 (E : EE) (x1 : Int32) (x2 : Int32) (σ : Mm) (Q : Mm → Prop) (h : r_X10_copy_66_72_0 E  σ (fun τ1 => r_X10_sitsBy_0 E x1 (τ1 63 5) (up (up τ1 63 18 0) 63 19 99) (fun r3 τ2 => r_X10_goSundays_35 E x1 x2 r3 0 τ2 Q))) : r_X10_goSundays_0 E x1 x2 σ Q := by
  intro p e R s m args below meth c Z cells slots H locs ls C0 hH hl hret
  have hx := C0.1
  have hb : c.code = cX10_goSundays := C0.2.1
  have hl : lv_has ls 5 [(0, .ref (Ad E 63)), (1, .int x1), (2, .int x2)] := hl
  refine lv_aload_n hx hb dX10_goSundays_0 rfl (lv_at hl 0 rfl) ?_
  refine m_getr C0 hH f_63_10 66 rfl kF_X10_16 dX10_goSundays_1 ?_
  refine lv_aload_n hx hb dX10_goSundays_4 rfl (lv_at hl 0 rfl) ?_
  refine m_getr C0 hH f_63_16 72 rfl kF_X10_34 dX10_goSundays_5 ?_
  refine m_cS (M2 := M_X10_copy) (As := [.ref (Ad E 66), .ref (Ad E 72)]) (rest := []) h C0 hH hl kc_X10_copy ks_X10_copy kM_X10_165 rfl (Nat.le_of_ble_eq_true rfl) (Nat.le_of_ble_eq_true rfl) ⟨Nat.le_of_ble_eq_true rfl, Nat.le_of_ble_eq_true rfl⟩ dX10_goSundays_8 rfl (fun r τ1 H locs hq hH => ?_)
  obtain ⟨rfl, h⟩ := hq
  refine lv_aload_n hx hb dX10_goSundays_11 rfl (lv_at hl 0 rfl) ?_
  refine lv_iconst (v := 0) hx hb dX10_goSundays_12 (by decide) ?_
  refine m_puti C0 hH f_63_18 kF_X10_181 rfl dX10_goSundays_13 rfl rfl (fun H locs hH => ?_)
  refine lv_aload_n hx hb dX10_goSundays_16 rfl (lv_at hl 0 rfl) ?_
  refine lv_bipush (v := 99) hx hb dX10_goSundays_17 (by decide) ?_
  refine m_puti C0 hH f_63_19 kF_X10_184 rfl dX10_goSundays_19 rfl rfl (fun H locs hH => ?_)
  refine lv_aload_n hx hb dX10_goSundays_22 rfl (lv_at hl 0 rfl) ?_
  refine lv_iload_n hx hb dX10_goSundays_23 rfl (lv_at hl 1 rfl) ?_
  refine lv_aload_n hx hb dX10_goSundays_24 rfl (lv_at hl 0 rfl) ?_
  refine m_geti (x := τ1 63 5) C0 hH f_63_5 kF_X10_100 dX10_goSundays_25 rfl ?_
  refine m_cV (M2 := M_X10_sitsBy) (As := [.int x1, .int (τ1 63 5)]) (rest := []) h C0 hH hl kc_X10_sitsBy ki_X10_sitsBy kx_X10_sitsBy ob_63 kM_X10_125 rfl (Nat.le_of_ble_eq_true rfl) (Nat.le_of_ble_eq_true rfl) ⟨Nat.le_of_ble_eq_true rfl, Nat.le_of_ble_eq_true rfl⟩ dX10_goSundays_28 rfl (fun r τ2 H locs hq hH => ?_)
  obtain ⟨r3, rfl, h⟩ := hq
  refine lv_istore_n (lv' := [(3, .int r3), (0, .ref (Ad E 63)), (1, .int x1), (2, .int x2)]) hx hb dX10_goSundays_31 rfl hl (by decide) rfl (fun ls hl => ?_)
  refine lv_iconst (v := 0) hx hb dX10_goSundays_32 (by decide) ?_
  refine lv_istore (lv' := [(4, .int 0), (3, .int r3), (0, .ref (Ad E 63)), (1, .int x1), (2, .int x2)]) hx hb dX10_goSundays_33 hl (by decide) rfl (fun ls hl => ?_)
  exact h p e R s m args below meth c Z cells slots H locs ls C0 hH (lv_sub hl [2, 3, 4, 1, 0] rfl) hret
set_option maxRecDepth 20000 in
set_option maxHeartbeats 4000000 in
theorem s_X10_goSundays_35 (E : EE) (x1 : Int32) (x2 : Int32) (x3 : Int32) (x4 : Int32) (σ : Mm) (Q : Mm → Prop) (h : ((x2 ≤ x4 → r_X10_goSundays_67 E x1 x2 x3 0 σ Q) ∧ (¬ x2 ≤ x4 → r_X10_sundayThen_0 E x3 σ (fun r3 τ2 => r_X10_ones_0 E r3 τ2 (fun r5 τ4 => r_X10_goSundays_35 E x1 x2 x3 (x4 + 1) (up τ4 63 18 ((σ 63 18) + r5)) Q))))) : r_X10_goSundays_35 E x1 x2 x3 x4 σ Q := by
  intro p e R s m args below meth c Z cells slots H locs ls C0 hH hl hret
  have hx := C0.1
  have hb : c.code = cX10_goSundays := C0.2.1
  have hl : lv_has ls 5 [(0, .ref (Ad E 63)), (1, .int x1), (2, .int x2), (3, .int x3), (4, .int x4)] := hl
  refine lv_iload hx hb dX10_goSundays_35 (lv_at hl 4 rfl) ?_
  refine lv_iload_n hx hb dX10_goSundays_37 rfl (lv_at hl 2 rfl) ?_
  refine lv_icmp_ge (tgt := 64) hx hb dX10_goSundays_38 (by decide) (fun hc1 => ?_) (fun hc1 => ?_)
  · have h := h.1 hc1
    refine lv_iconst (v := 0) hx hb dX10_goSundays_64 (by decide) ?_
    refine lv_istore (lv' := [(4, .int 0), (0, .ref (Ad E 63)), (1, .int x1), (2, .int x2), (3, .int x3)]) hx hb dX10_goSundays_65 hl (by decide) rfl (fun ls hl => ?_)
    exact h p e R s m args below meth c Z cells slots H locs ls C0 hH (lv_sub hl [1, 2, 3, 4, 0] rfl) hret
  · have h := h.2 hc1
    refine lv_aload_n hx hb dX10_goSundays_41 rfl (lv_at hl 0 rfl) ?_
    refine lv_dup hx hb dX10_goSundays_42 rfl ?_
    refine m_geti (x := σ 63 18) C0 hH f_63_18 kF_X10_181 dX10_goSundays_43 rfl ?_
    refine lv_aload_n hx hb dX10_goSundays_46 rfl (lv_at hl 0 rfl) ?_
    refine lv_iload_n hx hb dX10_goSundays_47 rfl (lv_at hl 3 rfl) ?_
    refine m_cV (M2 := M_X10_sundayThen) (As := [.int x3]) (rest := [.int (σ 63 18), .ref (Ad E 63)]) h C0 hH hl kc_X10_sundayThen ki_X10_sundayThen kx_X10_sundayThen ob_63 kM_X10_169 rfl (Nat.le_of_ble_eq_true rfl) (Nat.le_of_ble_eq_true rfl) ⟨Nat.le_of_ble_eq_true rfl, Nat.le_of_ble_eq_true rfl⟩ dX10_goSundays_48 rfl (fun r τ2 H locs hq hH => ?_)
    obtain ⟨r3, rfl, h⟩ := hq
    refine m_cS (M2 := M_X10_ones) (As := [.int r3]) (rest := [.int (σ 63 18), .ref (Ad E 63)]) h C0 hH hl kc_X10_ones ks_X10_ones kM_X10_172 rfl (Nat.le_of_ble_eq_true rfl) (Nat.le_of_ble_eq_true rfl) ⟨Nat.le_of_ble_eq_true rfl, Nat.le_of_ble_eq_true rfl⟩ dX10_goSundays_51 rfl (fun r τ4 H locs hq hH => ?_)
    obtain ⟨r5, rfl, h⟩ := hq
    refine lv_iadd hx hb dX10_goSundays_54 ?_
    refine m_puti C0 hH f_63_18 kF_X10_181 rfl dX10_goSundays_55 rfl rfl (fun H locs hH => ?_)
    refine lv_iinc (v := (x4 + 1)) (lv' := [(4, .int (x4 + 1)), (0, .ref (Ad E 63)), (1, .int x1), (2, .int x2), (3, .int x3)]) hx hb dX10_goSundays_58 hl (k := 4) rfl rfl (by decide) rfl (fun ls hl => ?_)
    refine lv_goto (tgt := 35) hx hb dX10_goSundays_61 (by decide) ?_
    exact h p e R s m args below meth c Z cells slots H locs ls C0 hH (lv_sub hl [1, 2, 3, 4, 0] rfl) hret
set_option maxRecDepth 20000 in
set_option maxHeartbeats 4000000 in
theorem s_X10_goSundays_67 (E : EE) (x1 : Int32) (x2 : Int32) (x3 : Int32) (x4 : Int32) (σ : Mm) (Q : Mm → Prop) (h : (((σ 63 3) ≤ x4 → Q σ) ∧ (¬ (σ 63 3) ≤ x4 → (vp_in x4 6 ∧ (((σ 63 19) ≤ (σ 72 x4.toNatClampNeg) → r_X10_goSundays_67 E x1 x2 x3 (x4 + 1) (up σ 63 19 (σ 63 19)) Q) ∧ (¬ (σ 63 19) ≤ (σ 72 x4.toNatClampNeg) → (vp_in x4 6 ∧ r_X10_goSundays_67 E x1 x2 x3 (x4 + 1) (up σ 63 19 (σ 72 x4.toNatClampNeg)) Q))))))) : r_X10_goSundays_67 E x1 x2 x3 x4 σ Q := by
  intro p e R s m args below meth c Z cells slots H locs ls C0 hH hl hret
  have hx := C0.1
  have hb : c.code = cX10_goSundays := C0.2.1
  have hl : lv_has ls 5 [(0, .ref (Ad E 63)), (1, .int x1), (2, .int x2), (3, .int x3), (4, .int x4)] := hl
  refine lv_iload hx hb dX10_goSundays_67 (lv_at hl 4 rfl) ?_
  refine lv_aload_n hx hb dX10_goSundays_69 rfl (lv_at hl 0 rfl) ?_
  refine m_geti (x := σ 63 3) C0 hH f_63_3 kF_X10_103 dX10_goSundays_70 rfl ?_
  refine lv_icmp_ge (tgt := 114) hx hb dX10_goSundays_73 (by decide) (fun hc1 => ?_) (fun hc1 => ?_)
  · have h := h.1 hc1
    exact hret none _ _ _ _ _ ⟨rfl, h⟩ hH ⟨dX10_goSundays_114, rfl⟩
  · have h := h.2 hc1
    refine lv_aload_n hx hb dX10_goSundays_76 rfl (lv_at hl 0 rfl) ?_
    refine lv_aload_n hx hb dX10_goSundays_77 rfl (lv_at hl 0 rfl) ?_
    refine m_getr C0 hH f_63_16 72 rfl kF_X10_34 dX10_goSundays_78 ?_
    refine lv_iload hx hb dX10_goSundays_81 (lv_at hl 4 rfl) ?_
    refine m_iald (x := σ 72 x4.toNatClampNeg) C0 hH a_72 h.1 dX10_goSundays_83 rfl ?_
    have h := h.2
    refine lv_aload_n hx hb dX10_goSundays_84 rfl (lv_at hl 0 rfl) ?_
    refine m_geti (x := σ 63 19) C0 hH f_63_19 kF_X10_184 dX10_goSundays_85 rfl ?_
    refine lv_icmp_ge (tgt := 101) hx hb dX10_goSundays_88 (by decide) (fun hc2 => ?_) (fun hc2 => ?_)
    · have h := h.1 hc2
      refine lv_aload_n hx hb dX10_goSundays_101 rfl (lv_at hl 0 rfl) ?_
      refine m_geti (x := σ 63 19) C0 hH f_63_19 kF_X10_184 dX10_goSundays_102 rfl ?_
      refine m_puti C0 hH f_63_19 kF_X10_184 rfl dX10_goSundays_105 rfl rfl (fun H locs hH => ?_)
      refine lv_iinc (v := (x4 + 1)) (lv' := [(4, .int (x4 + 1)), (0, .ref (Ad E 63)), (1, .int x1), (2, .int x2), (3, .int x3)]) hx hb dX10_goSundays_108 hl (k := 4) rfl rfl (by decide) rfl (fun ls hl => ?_)
      refine lv_goto (tgt := 67) hx hb dX10_goSundays_111 (by decide) ?_
      exact h p e R s m args below meth c Z cells slots H locs ls C0 hH (lv_sub hl [1, 2, 3, 4, 0] rfl) hret
    · have h := h.2 hc2
      refine lv_aload_n hx hb dX10_goSundays_91 rfl (lv_at hl 0 rfl) ?_
      refine m_getr C0 hH f_63_16 72 rfl kF_X10_34 dX10_goSundays_92 ?_
      refine lv_iload hx hb dX10_goSundays_95 (lv_at hl 4 rfl) ?_
      refine m_iald (x := σ 72 x4.toNatClampNeg) C0 hH a_72 h.1 dX10_goSundays_97 rfl ?_
      have h := h.2
      refine lv_goto (tgt := 105) hx hb dX10_goSundays_98 (by decide) ?_
      refine m_puti C0 hH f_63_19 kF_X10_184 rfl dX10_goSundays_105 rfl rfl (fun H locs hH => ?_)
      refine lv_iinc (v := (x4 + 1)) (lv' := [(4, .int (x4 + 1)), (0, .ref (Ad E 63)), (1, .int x1), (2, .int x2), (3, .int x3)]) hx hb dX10_goSundays_108 hl (k := 4) rfl rfl (by decide) rfl (fun ls hl => ?_)
      refine lv_goto (tgt := 67) hx hb dX10_goSundays_111 (by decide) ?_
      exact h p e R s m args below meth c Z cells slots H locs ls C0 hH (lv_sub hl [1, 2, 3, 4, 0] rfl) hret

def r_X10_leaveOf_0 (E : EE) (x1 : Int32) (x2 : Int32) (σ : Mm) (Q : Int32 → Mm → Prop) : Prop := Rn E M_X10_leaveOf 0 [(0, .ref (Ad E 63)), (1, .int x1), (2, .int x2)] [] σ (qi Q)
def r_X10_leaveOf_18 (E : EE) (x1 : Int32) (x2 : Int32) (x3 : Int32) (x4 : Int32) (x5 : Int32) (x6 : Int32) (σ : Mm) (Q : Int32 → Mm → Prop) : Prop := Rn E M_X10_leaveOf 18 [(0, .ref (Ad E 63)), (1, .int x1), (2, .int x2), (3, .int x3), (4, .int x4), (5, .int x5), (6, .int x6)] [] σ (qi Q)
set_option maxRecDepth 20000 in
set_option maxHeartbeats 4000000 in
theorem s_X10_leaveOf_0 (E : EE) (x1 : Int32) (x2 : Int32) (σ : Mm) (Q : Int32 → Mm → Prop) (h : r_X10_leaveOf_18 E x1 x2 ((1 <<< ((σ 63 4) &&& 31)) - 1) 0 (-1) 0 σ Q) : r_X10_leaveOf_0 E x1 x2 σ Q := by
  intro p e R s m args below meth c Z cells slots H locs ls C0 hH hl hret
  have hx := C0.1
  have hb : c.code = cX10_leaveOf := C0.2.1
  have hl : lv_has ls 8 [(0, .ref (Ad E 63)), (1, .int x1), (2, .int x2)] := hl
  refine lv_iconst (v := 1) hx hb dX10_leaveOf_0 (by decide) ?_
  refine lv_aload_n hx hb dX10_leaveOf_1 rfl (lv_at hl 0 rfl) ?_
  refine m_geti (x := σ 63 4) C0 hH f_63_4 kF_X10_106 dX10_leaveOf_2 rfl ?_
  refine lv_ishl hx hb dX10_leaveOf_5 ?_
  refine lv_iconst (v := 1) hx hb dX10_leaveOf_6 (by decide) ?_
  refine lv_isub hx hb dX10_leaveOf_7 ?_
  refine lv_istore_n (lv' := [(3, .int ((1 <<< ((σ 63 4) &&& 31)) - 1)), (0, .ref (Ad E 63)), (1, .int x1), (2, .int x2)]) hx hb dX10_leaveOf_8 rfl hl (by decide) rfl (fun ls hl => ?_)
  refine lv_iconst (v := 0) hx hb dX10_leaveOf_9 (by decide) ?_
  refine lv_istore (lv' := [(4, .int 0), (3, .int ((1 <<< ((σ 63 4) &&& 31)) - 1)), (0, .ref (Ad E 63)), (1, .int x1), (2, .int x2)]) hx hb dX10_leaveOf_10 hl (by decide) rfl (fun ls hl => ?_)
  refine lv_iconst (v := (-1)) hx hb dX10_leaveOf_12 (by decide) ?_
  refine lv_istore (lv' := [(5, .int (-1)), (4, .int 0), (3, .int ((1 <<< ((σ 63 4) &&& 31)) - 1)), (0, .ref (Ad E 63)), (1, .int x1), (2, .int x2)]) hx hb dX10_leaveOf_13 hl (by decide) rfl (fun ls hl => ?_)
  refine lv_iconst (v := 0) hx hb dX10_leaveOf_15 (by decide) ?_
  refine lv_istore (lv' := [(6, .int 0), (5, .int (-1)), (4, .int 0), (3, .int ((1 <<< ((σ 63 4) &&& 31)) - 1)), (0, .ref (Ad E 63)), (1, .int x1), (2, .int x2)]) hx hb dX10_leaveOf_16 hl (by decide) rfl (fun ls hl => ?_)
  exact h p e R s m args below meth c Z cells slots H locs ls C0 hH (lv_sub hl [4, 5, 6, 3, 2, 1, 0] rfl) hret
set_option maxRecDepth 20000 in
set_option maxHeartbeats 4000000 in
theorem s_X10_leaveOf_18 (E : EE) (x1 : Int32) (x2 : Int32) (x3 : Int32) (x4 : Int32) (x5 : Int32) (x6 : Int32) (σ : Mm) (Q : Int32 → Mm → Prop) (h : ((x3 < x6 → ((¬ x2 = 0 → ((¬ x2 = 1 → Q x4 σ) ∧ (x2 = 1 → Q ((x5 / 100) - ((x5 / 100) / 100) * 100) σ))) ∧ (x2 = 0 → Q (50 - (x5 / 10000)) σ))) ∧ (¬ x3 < x6 → r_X10_goSundays_0 E (x3 - x6) x1 σ (fun τ4 => r_X10_ones_0 E x6 τ4 (fun r6 τ5 => ((((((10000 * (50 - (τ4 63 18))) + (100 * (τ4 63 19))) + 10) - r6) ≤ x5 → ((((((10000 * (50 - (τ4 63 18))) + (100 * (τ4 63 19))) + 10) - r6) ≤ x5 → r_X10_leaveOf_18 E x1 x2 x3 x4 x5 (x6 + 1) τ5 Q) ∧ (¬ ((((10000 * (50 - (τ4 63 18))) + (100 * (τ4 63 19))) + 10) - r6) ≤ x5 → r_X10_leaveOf_18 E x1 x2 x3 x4 ((((10000 * (50 - (τ4 63 18))) + (100 * (τ4 63 19))) + 10) - r6) (x6 + 1) τ5 Q))) ∧ (¬ ((((10000 * (50 - (τ4 63 18))) + (100 * (τ4 63 19))) + 10) - r6) ≤ x5 → ((((((10000 * (50 - (τ4 63 18))) + (100 * (τ4 63 19))) + 10) - r6) ≤ x5 → r_X10_leaveOf_18 E x1 x2 x3 x6 x5 (x6 + 1) τ5 Q) ∧ (¬ ((((10000 * (50 - (τ4 63 18))) + (100 * (τ4 63 19))) + 10) - r6) ≤ x5 → r_X10_leaveOf_18 E x1 x2 x3 x6 ((((10000 * (50 - (τ4 63 18))) + (100 * (τ4 63 19))) + 10) - r6) (x6 + 1) τ5 Q))))))))) : r_X10_leaveOf_18 E x1 x2 x3 x4 x5 x6 σ Q := by
  intro p e R s m args below meth c Z cells slots H locs ls C0 hH hl hret
  have hx := C0.1
  have hb : c.code = cX10_leaveOf := C0.2.1
  have hl : lv_has ls 8 [(0, .ref (Ad E 63)), (1, .int x1), (2, .int x2), (3, .int x3), (4, .int x4), (5, .int x5), (6, .int x6)] := hl
  refine lv_iload hx hb dX10_leaveOf_18 (lv_at hl 6 rfl) ?_
  refine lv_iload_n hx hb dX10_leaveOf_20 rfl (lv_at hl 3 rfl) ?_
  refine lv_icmp_gt (tgt := 101) hx hb dX10_leaveOf_21 (by decide) (fun hc1 => ?_) (fun hc1 => ?_)
  · have h := h.1 hc1
    refine lv_iload_n hx hb dX10_leaveOf_101 rfl (lv_at hl 2 rfl) ?_
    refine lv_if_ne (tgt := 117) hx hb dX10_leaveOf_102 (by decide) (fun hc2 => ?_) (fun hc2 => ?_)
    · have h := h.1 hc2
      refine lv_iload_n hx hb dX10_leaveOf_117 rfl (lv_at hl 2 rfl) ?_
      refine lv_iconst (v := 1) hx hb dX10_leaveOf_118 (by decide) ?_
      refine lv_icmp_ne (tgt := 133) hx hb dX10_leaveOf_119 (by decide) (fun hc3 => ?_) (fun hc3 => ?_)
      · have h := h.1 hc3
        refine lv_iload hx hb dX10_leaveOf_133 (lv_at hl 4 rfl) ?_
        exact hret (some (.int x4)) _ _ _ _ _ ⟨_, rfl, h⟩ hH ⟨dX10_leaveOf_135, .int, rfl, rfl⟩
      · have h := h.2 hc3
        refine lv_iload hx hb dX10_leaveOf_122 (lv_at hl 5 rfl) ?_
        refine lv_bipush (v := 100) hx hb dX10_leaveOf_124 (by decide) ?_
        refine lv_idiv hx hb dX10_leaveOf_126 (by decide) ?_
        refine lv_bipush (v := 100) hx hb dX10_leaveOf_127 (by decide) ?_
        refine lv_irem hx hb dX10_leaveOf_129 (by decide) ?_
        refine lv_goto (tgt := 135) hx hb dX10_leaveOf_130 (by decide) ?_
        exact hret (some (.int ((x5 / 100) - ((x5 / 100) / 100) * 100))) _ _ _ _ _ ⟨_, rfl, h⟩ hH ⟨dX10_leaveOf_135, .int, rfl, rfl⟩
    · have h := h.2 hc2
      refine lv_bipush (v := 50) hx hb dX10_leaveOf_105 (by decide) ?_
      refine lv_iload hx hb dX10_leaveOf_107 (lv_at hl 5 rfl) ?_
      refine lv_sipush (v := 10000) hx hb dX10_leaveOf_109 (by decide) ?_
      refine lv_idiv hx hb dX10_leaveOf_112 (by decide) ?_
      refine lv_isub hx hb dX10_leaveOf_113 ?_
      refine lv_goto (tgt := 135) hx hb dX10_leaveOf_114 (by decide) ?_
      exact hret (some (.int (50 - (x5 / 10000)))) _ _ _ _ _ ⟨_, rfl, h⟩ hH ⟨dX10_leaveOf_135, .int, rfl, rfl⟩
  · have h := h.2 hc1
    refine lv_aload_n hx hb dX10_leaveOf_24 rfl (lv_at hl 0 rfl) ?_
    refine lv_iload_n hx hb dX10_leaveOf_25 rfl (lv_at hl 3 rfl) ?_
    refine lv_iload hx hb dX10_leaveOf_26 (lv_at hl 6 rfl) ?_
    refine lv_isub hx hb dX10_leaveOf_28 ?_
    refine lv_iload_n hx hb dX10_leaveOf_29 rfl (lv_at hl 1 rfl) ?_
    refine m_cV (M2 := M_X10_goSundays) (As := [.int (x3 - x6), .int x1]) (rest := []) h C0 hH hl kc_X10_goSundays ki_X10_goSundays kx_X10_goSundays ob_63 kM_X10_187 rfl (Nat.le_of_ble_eq_true rfl) (Nat.le_of_ble_eq_true rfl) ⟨Nat.le_of_ble_eq_true rfl, Nat.le_of_ble_eq_true rfl⟩ dX10_leaveOf_30 rfl (fun r τ4 H locs hq hH => ?_)
    obtain ⟨rfl, h⟩ := hq
    refine lv_sipush (v := 10000) hx hb dX10_leaveOf_33 (by decide) ?_
    refine lv_bipush (v := 50) hx hb dX10_leaveOf_36 (by decide) ?_
    refine lv_aload_n hx hb dX10_leaveOf_38 rfl (lv_at hl 0 rfl) ?_
    refine m_geti (x := τ4 63 18) C0 hH f_63_18 kF_X10_181 dX10_leaveOf_39 rfl ?_
    refine lv_isub hx hb dX10_leaveOf_42 ?_
    refine lv_imul hx hb dX10_leaveOf_43 ?_
    refine lv_bipush (v := 100) hx hb dX10_leaveOf_44 (by decide) ?_
    refine lv_aload_n hx hb dX10_leaveOf_46 rfl (lv_at hl 0 rfl) ?_
    refine m_geti (x := τ4 63 19) C0 hH f_63_19 kF_X10_184 dX10_leaveOf_47 rfl ?_
    refine lv_imul hx hb dX10_leaveOf_50 ?_
    refine lv_iadd hx hb dX10_leaveOf_51 ?_
    refine lv_bipush (v := 10) hx hb dX10_leaveOf_52 (by decide) ?_
    refine lv_iadd hx hb dX10_leaveOf_54 ?_
    refine lv_iload hx hb dX10_leaveOf_55 (lv_at hl 6 rfl) ?_
    refine m_cS (M2 := M_X10_ones) (As := [.int x6]) (rest := [.int (((10000 * (50 - (τ4 63 18))) + (100 * (τ4 63 19))) + 10)]) h C0 hH hl kc_X10_ones ks_X10_ones kM_X10_172 rfl (Nat.le_of_ble_eq_true rfl) (Nat.le_of_ble_eq_true rfl) ⟨Nat.le_of_ble_eq_true rfl, Nat.le_of_ble_eq_true rfl⟩ dX10_leaveOf_57 rfl (fun r τ5 H locs hq hH => ?_)
    obtain ⟨r6, rfl, h⟩ := hq
    refine lv_isub hx hb dX10_leaveOf_60 ?_
    refine lv_istore (lv' := [(7, .int ((((10000 * (50 - (τ4 63 18))) + (100 * (τ4 63 19))) + 10) - r6)), (0, .ref (Ad E 63)), (1, .int x1), (2, .int x2), (3, .int x3), (4, .int x4), (5, .int x5), (6, .int x6)]) hx hb dX10_leaveOf_61 hl (by decide) rfl (fun ls hl => ?_)
    refine lv_iload hx hb dX10_leaveOf_63 (lv_at hl 0 rfl) ?_
    refine lv_iload hx hb dX10_leaveOf_65 (lv_at hl 6 rfl) ?_
    refine lv_icmp_le (tgt := 75) hx hb dX10_leaveOf_67 (by decide) (fun hc7 => ?_) (fun hc7 => ?_)
    · have h := h.1 hc7
      refine lv_iload hx hb dX10_leaveOf_75 (lv_at hl 5 rfl) ?_
      refine lv_istore (lv' := [(4, .int x4), (7, .int ((((10000 * (50 - (τ4 63 18))) + (100 * (τ4 63 19))) + 10) - r6)), (0, .ref (Ad E 63)), (1, .int x1), (2, .int x2), (3, .int x3), (5, .int x5), (6, .int x6)]) hx hb dX10_leaveOf_77 hl (by decide) rfl (fun ls hl => ?_)
      refine lv_iload hx hb dX10_leaveOf_79 (lv_at hl 1 rfl) ?_
      refine lv_iload hx hb dX10_leaveOf_81 (lv_at hl 6 rfl) ?_
      refine lv_icmp_le (tgt := 91) hx hb dX10_leaveOf_83 (by decide) (fun hc8 => ?_) (fun hc8 => ?_)
      · have h := h.1 hc8
        refine lv_iload hx hb dX10_leaveOf_91 (lv_at hl 6 rfl) ?_
        refine lv_istore (lv' := [(5, .int x5), (4, .int x4), (7, .int ((((10000 * (50 - (τ4 63 18))) + (100 * (τ4 63 19))) + 10) - r6)), (0, .ref (Ad E 63)), (1, .int x1), (2, .int x2), (3, .int x3), (6, .int x6)]) hx hb dX10_leaveOf_93 hl (by decide) rfl (fun ls hl => ?_)
        refine lv_iinc (v := (x6 + 1)) (lv' := [(6, .int (x6 + 1)), (5, .int x5), (4, .int x4), (7, .int ((((10000 * (50 - (τ4 63 18))) + (100 * (τ4 63 19))) + 10) - r6)), (0, .ref (Ad E 63)), (1, .int x1), (2, .int x2), (3, .int x3)]) hx hb dX10_leaveOf_95 hl (k := 7) rfl rfl (by decide) rfl (fun ls hl => ?_)
        refine lv_goto (tgt := 18) hx hb dX10_leaveOf_98 (by decide) ?_
        exact h p e R s m args below meth c Z cells slots H locs ls C0 hH (lv_sub hl [4, 5, 6, 7, 2, 1, 0] rfl) hret
      · have h := h.2 hc8
        refine lv_iload hx hb dX10_leaveOf_86 (lv_at hl 1 rfl) ?_
        refine lv_goto (tgt := 93) hx hb dX10_leaveOf_88 (by decide) ?_
        refine lv_istore (lv' := [(5, .int ((((10000 * (50 - (τ4 63 18))) + (100 * (τ4 63 19))) + 10) - r6)), (4, .int x4), (7, .int ((((10000 * (50 - (τ4 63 18))) + (100 * (τ4 63 19))) + 10) - r6)), (0, .ref (Ad E 63)), (1, .int x1), (2, .int x2), (3, .int x3), (6, .int x6)]) hx hb dX10_leaveOf_93 hl (by decide) rfl (fun ls hl => ?_)
        refine lv_iinc (v := (x6 + 1)) (lv' := [(6, .int (x6 + 1)), (5, .int ((((10000 * (50 - (τ4 63 18))) + (100 * (τ4 63 19))) + 10) - r6)), (4, .int x4), (7, .int ((((10000 * (50 - (τ4 63 18))) + (100 * (τ4 63 19))) + 10) - r6)), (0, .ref (Ad E 63)), (1, .int x1), (2, .int x2), (3, .int x3)]) hx hb dX10_leaveOf_95 hl (k := 7) rfl rfl (by decide) rfl (fun ls hl => ?_)
        refine lv_goto (tgt := 18) hx hb dX10_leaveOf_98 (by decide) ?_
        exact h p e R s m args below meth c Z cells slots H locs ls C0 hH (lv_sub hl [4, 5, 6, 7, 2, 1, 0] rfl) hret
    · have h := h.2 hc7
      refine lv_iload hx hb dX10_leaveOf_70 (lv_at hl 7 rfl) ?_
      refine lv_goto (tgt := 77) hx hb dX10_leaveOf_72 (by decide) ?_
      refine lv_istore (lv' := [(4, .int x6), (7, .int ((((10000 * (50 - (τ4 63 18))) + (100 * (τ4 63 19))) + 10) - r6)), (0, .ref (Ad E 63)), (1, .int x1), (2, .int x2), (3, .int x3), (5, .int x5), (6, .int x6)]) hx hb dX10_leaveOf_77 hl (by decide) rfl (fun ls hl => ?_)
      refine lv_iload hx hb dX10_leaveOf_79 (lv_at hl 1 rfl) ?_
      refine lv_iload hx hb dX10_leaveOf_81 (lv_at hl 6 rfl) ?_
      refine lv_icmp_le (tgt := 91) hx hb dX10_leaveOf_83 (by decide) (fun hc9 => ?_) (fun hc9 => ?_)
      · have h := h.1 hc9
        refine lv_iload hx hb dX10_leaveOf_91 (lv_at hl 6 rfl) ?_
        refine lv_istore (lv' := [(5, .int x5), (4, .int x6), (7, .int ((((10000 * (50 - (τ4 63 18))) + (100 * (τ4 63 19))) + 10) - r6)), (0, .ref (Ad E 63)), (1, .int x1), (2, .int x2), (3, .int x3), (6, .int x6)]) hx hb dX10_leaveOf_93 hl (by decide) rfl (fun ls hl => ?_)
        refine lv_iinc (v := (x6 + 1)) (lv' := [(6, .int (x6 + 1)), (5, .int x5), (4, .int x6), (7, .int ((((10000 * (50 - (τ4 63 18))) + (100 * (τ4 63 19))) + 10) - r6)), (0, .ref (Ad E 63)), (1, .int x1), (2, .int x2), (3, .int x3)]) hx hb dX10_leaveOf_95 hl (k := 7) rfl rfl (by decide) rfl (fun ls hl => ?_)
        refine lv_goto (tgt := 18) hx hb dX10_leaveOf_98 (by decide) ?_
        exact h p e R s m args below meth c Z cells slots H locs ls C0 hH (lv_sub hl [4, 5, 6, 7, 2, 1, 0] rfl) hret
      · have h := h.2 hc9
        refine lv_iload hx hb dX10_leaveOf_86 (lv_at hl 1 rfl) ?_
        refine lv_goto (tgt := 93) hx hb dX10_leaveOf_88 (by decide) ?_
        refine lv_istore (lv' := [(5, .int ((((10000 * (50 - (τ4 63 18))) + (100 * (τ4 63 19))) + 10) - r6)), (4, .int x6), (7, .int ((((10000 * (50 - (τ4 63 18))) + (100 * (τ4 63 19))) + 10) - r6)), (0, .ref (Ad E 63)), (1, .int x1), (2, .int x2), (3, .int x3), (6, .int x6)]) hx hb dX10_leaveOf_93 hl (by decide) rfl (fun ls hl => ?_)
        refine lv_iinc (v := (x6 + 1)) (lv' := [(6, .int (x6 + 1)), (5, .int ((((10000 * (50 - (τ4 63 18))) + (100 * (τ4 63 19))) + 10) - r6)), (4, .int x6), (7, .int ((((10000 * (50 - (τ4 63 18))) + (100 * (τ4 63 19))) + 10) - r6)), (0, .ref (Ad E 63)), (1, .int x1), (2, .int x2), (3, .int x3)]) hx hb dX10_leaveOf_95 hl (k := 7) rfl rfl (by decide) rfl (fun ls hl => ?_)
        refine lv_goto (tgt := 18) hx hb dX10_leaveOf_98 (by decide) ?_
        exact h p e R s m args below meth c Z cells slots H locs ls C0 hH (lv_sub hl [4, 5, 6, 7, 2, 1, 0] rfl) hret

def r_X10_leave_0 (E : EE) (x1 : Int32) (x2 : Int32) (σ : Mm) (Q : Int32 → Mm → Prop) : Prop := Rn E M_X10_leave 0 [(0, .ref (Ad E 63)), (1, .int x1), (2, .int x2)] [] σ (qi Q)
set_option maxRecDepth 20000 in
set_option maxHeartbeats 4000000 in
theorem s_X10_leave_0 (E : EE) (x1 : Int32) (x2 : Int32) (σ : Mm) (Q : Int32 → Mm → Prop) (h : r_X10_in_0 E x1.toInt64 1 6 σ (fun r2 τ1 => ((r2 = 0 → Q (-102) τ1) ∧ (¬ r2 = 0 → r_X10_in_0 E x2.toInt64 0 2 τ1 (fun r5 τ4 => ((¬ r5 = 0 → r_X10_lacks_0 E  τ4 (fun r8 τ7 => ((¬ r8 = 0 → Q (-103) τ7) ∧ (r8 = 0 → ((¬ (τ7 63 17) = 20 → r_X10_leaveOf_0 E x1 x2 (up τ7 63 17 ((τ7 63 17) + 1)) (fun r12 τ11 => Q r12 τ11)) ∧ ((τ7 63 17) = 20 → Q (-103) τ7)))))) ∧ (r5 = 0 → Q (-102) τ4))))))) : r_X10_leave_0 E x1 x2 σ Q := by
  intro p e R s m args below meth c Z cells slots H locs ls C0 hH hl hret
  have hx := C0.1
  have hb : c.code = cX10_leave := C0.2.1
  have hl : lv_has ls 3 [(0, .ref (Ad E 63)), (1, .int x1), (2, .int x2)] := hl
  refine lv_iload_n hx hb dX10_leave_0 rfl (lv_at hl 1 rfl) ?_
  refine lv_i2l hx hb dX10_leave_1 rfl ?_
  refine lv_lconst (v := 1) hx hb dX10_leave_2 (by decide) ?_
  refine lv_ldc2 hx hb C0.2.2.2.1 (C0.2.2.2.2.1 _ kC_X10_177) dX10_leave_3 ?_
  refine m_cS (M2 := M_X10_in) (As := [.long x1.toInt64, .long 1, .long 6]) (rest := []) h C0 hH hl kc_X10_in ks_X10_in kM_X10_61 rfl (Nat.le_of_ble_eq_true rfl) (Nat.le_of_ble_eq_true rfl) ⟨Nat.le_of_ble_eq_true rfl, Nat.le_of_ble_eq_true rfl⟩ dX10_leave_6 rfl (fun r τ1 H locs hq hH => ?_)
  obtain ⟨r2, rfl, h⟩ := hq
  refine lv_if_eq (tgt := 24) hx hb dX10_leave_9 (by decide) (fun hc3 => ?_) (fun hc3 => ?_)
  · have h := h.1 hc3
    refine lv_bipush (v := (-102)) hx hb dX10_leave_24 (by decide) ?_
    exact hret (some (.int (-102))) _ _ _ _ _ ⟨_, rfl, h⟩ hH ⟨dX10_leave_26, .int, rfl, rfl⟩
  · have h := h.2 hc3
    refine lv_iload_n hx hb dX10_leave_12 rfl (lv_at hl 2 rfl) ?_
    refine lv_i2l hx hb dX10_leave_13 rfl ?_
    refine lv_lconst (v := 0) hx hb dX10_leave_14 (by decide) ?_
    refine lv_ldc2 hx hb C0.2.2.2.1 (C0.2.2.2.2.1 _ kC_X10_191) dX10_leave_15 ?_
    refine m_cS (M2 := M_X10_in) (As := [.long x2.toInt64, .long 0, .long 2]) (rest := []) h C0 hH hl kc_X10_in ks_X10_in kM_X10_61 rfl (Nat.le_of_ble_eq_true rfl) (Nat.le_of_ble_eq_true rfl) ⟨Nat.le_of_ble_eq_true rfl, Nat.le_of_ble_eq_true rfl⟩ dX10_leave_18 rfl (fun r τ4 H locs hq hH => ?_)
    obtain ⟨r5, rfl, h⟩ := hq
    refine lv_if_ne (tgt := 27) hx hb dX10_leave_21 (by decide) (fun hc6 => ?_) (fun hc6 => ?_)
    · have h := h.1 hc6
      refine lv_aload_n hx hb dX10_leave_27 rfl (lv_at hl 0 rfl) ?_
      refine m_cV (M2 := M_X10_lacks) (As := []) (rest := []) h C0 hH hl kc_X10_lacks ki_X10_lacks kx_X10_lacks ob_63 kM_X10_161 rfl (Nat.le_of_ble_eq_true rfl) (Nat.le_of_ble_eq_true rfl) ⟨Nat.le_of_ble_eq_true rfl, Nat.le_of_ble_eq_true rfl⟩ dX10_leave_28 rfl (fun r τ7 H locs hq hH => ?_)
      obtain ⟨r8, rfl, h⟩ := hq
      refine lv_if_ne (tgt := 43) hx hb dX10_leave_31 (by decide) (fun hc9 => ?_) (fun hc9 => ?_)
      · have h := h.1 hc9
        refine lv_bipush (v := (-103)) hx hb dX10_leave_43 (by decide) ?_
        exact hret (some (.int (-103))) _ _ _ _ _ ⟨_, rfl, h⟩ hH ⟨dX10_leave_45, .int, rfl, rfl⟩
      · have h := h.2 hc9
        refine lv_aload_n hx hb dX10_leave_34 rfl (lv_at hl 0 rfl) ?_
        refine m_geti (x := τ7 63 17) C0 hH f_63_17 kF_X10_193 dX10_leave_35 rfl ?_
        refine lv_bipush (v := 20) hx hb dX10_leave_38 (by decide) ?_
        refine lv_icmp_ne (tgt := 46) hx hb dX10_leave_40 (by decide) (fun hc10 => ?_) (fun hc10 => ?_)
        · have h := h.1 hc10
          refine lv_aload_n hx hb dX10_leave_46 rfl (lv_at hl 0 rfl) ?_
          refine lv_dup hx hb dX10_leave_47 rfl ?_
          refine m_geti (x := τ7 63 17) C0 hH f_63_17 kF_X10_193 dX10_leave_48 rfl ?_
          refine lv_iconst (v := 1) hx hb dX10_leave_51 (by decide) ?_
          refine lv_iadd hx hb dX10_leave_52 ?_
          refine m_puti C0 hH f_63_17 kF_X10_193 rfl dX10_leave_53 rfl rfl (fun H locs hH => ?_)
          refine lv_aload_n hx hb dX10_leave_56 rfl (lv_at hl 0 rfl) ?_
          refine lv_iload_n hx hb dX10_leave_57 rfl (lv_at hl 1 rfl) ?_
          refine lv_iload_n hx hb dX10_leave_58 rfl (lv_at hl 2 rfl) ?_
          refine m_cV (M2 := M_X10_leaveOf) (As := [.int x1, .int x2]) (rest := []) h C0 hH hl kc_X10_leaveOf ki_X10_leaveOf kx_X10_leaveOf ob_63 kM_X10_196 rfl (Nat.le_of_ble_eq_true rfl) (Nat.le_of_ble_eq_true rfl) ⟨Nat.le_of_ble_eq_true rfl, Nat.le_of_ble_eq_true rfl⟩ dX10_leave_59 rfl (fun r τ11 H locs hq hH => ?_)
          obtain ⟨r12, rfl, h⟩ := hq
          exact hret (some (.int r12)) _ _ _ _ _ ⟨_, rfl, h⟩ hH ⟨dX10_leave_62, .int, rfl, rfl⟩
        · have h := h.2 hc10
          refine lv_bipush (v := (-103)) hx hb dX10_leave_43 (by decide) ?_
          exact hret (some (.int (-103))) _ _ _ _ _ ⟨_, rfl, h⟩ hH ⟨dX10_leave_45, .int, rfl, rfl⟩
    · have h := h.2 hc6
      refine lv_bipush (v := (-102)) hx hb dX10_leave_24 (by decide) ?_
      exact hret (some (.int (-102))) _ _ _ _ _ ⟨_, rfl, h⟩ hH ⟨dX10_leave_26, .int, rfl, rfl⟩
