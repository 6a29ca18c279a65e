abbrev mX8_fails (G : zG) (n : Nat) (x1 : Int) (μ : zM) (K : Int → zM → Prop) : Prop := zMt G n 1 yX8_fails cX8_fails 2 (some .int) [Rv G 127, Iv x1] μ (zKi K)
abbrev pX8_fails (G : zG) (n : Nat) (K : Int → zM → Prop) (pc : Nat) (lv : List (Option Value)) (st : List Value) (μ : zM) : Prop := Z G (zrm 1 0 0) RX8 "fails" cX8_fails 2 (some .int) (zPh G n (zKi K)) 0 0 pc lv st (zE G n μ)
theorem eX8_fails {G : zG} {n : Nat} (hn : 154 ≤ n) {x1 : Int} {μ : zM} {K : Int → zM → Prop}
    (h : (∀ μ1 : zM, μ1 = zu μ 127 0 x1 → K (((-10)) - x1) μ1)) :
    mX8_fails G n x1 μ K := by
  refine zMt_of (lv := [some (Rv G 127), some (Iv x1)]) (by decide) rfl (Nat.le_of_ble_eq_true rfl) ?_
  show pX8_fails G n K 0 [some (Rv G 127), some (Iv x1)] [] μ
  refine Z_aload_n dX8_fails_0 rfl ?_
  refine Z_iload_n dX8_fails_1 rfl ?_
  refine Y_pi 0 zcX8 fk_X8_107 ⟨by decide, by omega⟩ rfl rfl rfl (by decide) rfl (tyX8_ok 0 (by decide)) dX8_fails_2 rfl ?_
  obtain ⟨μ1, eμ1⟩ : ∃ z : zM, z = zu μ 127 0 x1 := ⟨_, rfl⟩
  have h := h μ1 eμ1
  refine Z_mem eμ1 ?_
  refine Z_bipush dX8_fails_5 (by decide) ?_
  refine Z_iload_n dX8_fails_7 rfl ?_
  refine Z_isub dX8_fails_8 ?_
  exact Z_ireturn dX8_fails_9 ⟨_, rfl, h⟩
abbrev mX8_fallsOut (G : zG) (n : Nat) (x1 : Int) (μ : zM) (K : Int → zM → Prop) : Prop := zMt G n 1 yX8_fallsOut cX8_fallsOut 2 (some .long) [Rv G 127, Iv x1] μ (zKl K)
abbrev pX8_fallsOut (G : zG) (n : Nat) (K : Int → zM → Prop) (pc : Nat) (lv : List (Option Value)) (st : List Value) (μ : zM) : Prop := Z G (zrm 1 0 0) RX8 "fallsOut" cX8_fallsOut 2 (some .long) (zPh G n (zKl K)) 0 0 pc lv st (zE G n μ)
theorem eX8_fallsOut {G : zG} {n : Nat} (hn : 154 ≤ n) {x1 : Int} {μ : zM} {K : Int → zM → Prop}
    (h : (∀ μ1 : zM, μ1 = zu μ 127 0 x1 → K ((-9223372036854775808)) μ1)) :
    mX8_fallsOut G n x1 μ K := by
  refine zMt_of (lv := [some (Rv G 127), some (Iv x1)]) (by decide) rfl (Nat.le_of_ble_eq_true rfl) ?_
  show pX8_fallsOut G n K 0 [some (Rv G 127), some (Iv x1)] [] μ
  refine Z_aload_n dX8_fallsOut_0 rfl ?_
  refine Z_iload_n dX8_fallsOut_1 rfl ?_
  refine Y_pi 0 zcX8 fk_X8_107 ⟨by decide, by omega⟩ rfl rfl rfl (by decide) rfl (tyX8_ok 0 (by decide)) dX8_fallsOut_2 rfl ?_
  obtain ⟨μ1, eμ1⟩ : ∃ z : zM, z = zu μ 127 0 x1 := ⟨_, rfl⟩
  have h := h μ1 eμ1
  refine Z_mem eμ1 ?_
  refine Z_ldc2 (a := -9223372036854775808) dX8_fallsOut_5 cl_X8_110 (by decide) ?_
  exact Z_lreturn dX8_fallsOut_8 ⟨_, rfl, h⟩
abbrev mX8_within (G : zG) (n : Nat) (x0 x1 x2 : Int) (μ : zM) (K : Int → zM → Prop) : Prop := zMt G n 1 yX8_within cX8_within 3 (some .boolean) [Iv x0, Iv x1, Iv x2] μ (zKi K)
abbrev pX8_within (G : zG) (n : Nat) (K : Int → zM → Prop) (pc : Nat) (lv : List (Option Value)) (st : List Value) (μ : zM) : Prop := Z G (zrm 1 0 0) RX8 "within" cX8_within 3 (some .boolean) (zPh G n (zKi K)) 0 0 pc lv st (zE G n μ)
theorem eX8_within {G : zG} {n : Nat} (hn : 154 ≤ n) {x0 x1 x2 : Int} {μ : zM} {K : Int → zM → Prop}
    (h : (((wr x0 < wr x1 → (K 0 μ)) ∧ (¬ (wr x0 < wr x1) → (((wr x2 < wr x0 → (K 0 μ)) ∧ (¬ (wr x2 < wr x0) → (K 1 μ)))))))) :
    mX8_within G n x0 x1 x2 μ K := by
  refine zMt_of (lv := [some (Iv x0), some (Iv x1), some (Iv x2)]) (by decide) rfl (Nat.le_of_ble_eq_true rfl) ?_
  show pX8_within G n K 0 [some (Iv x0), some (Iv x1), some (Iv x2)] [] μ
  refine Z_iload_n dX8_within_0 rfl ?_
  refine Z_iload_n dX8_within_1 rfl ?_
  refine Z_icmp_lt (tgt := 14) dX8_within_2 (by decide) (fun c1 => ?_) (fun c1 => ?_)
  · have h := h.1 c1
    refine Z_iconst dX8_within_14 ?_
    exact Z_zreturn dX8_within_15 (by decide) ⟨_, rfl, h⟩
  · have h := h.2 c1
    refine Z_iload_n dX8_within_5 rfl ?_
    refine Z_iload_n dX8_within_6 rfl ?_
    refine Z_icmp_gt (tgt := 14) dX8_within_7 (by decide) (fun c2 => ?_) (fun c2 => ?_)
    · have h := h.1 c2
      refine Z_iconst dX8_within_14 ?_
      exact Z_zreturn dX8_within_15 (by decide) ⟨_, rfl, h⟩
    · have h := h.2 c2
      refine Z_iconst dX8_within_10 ?_
      refine Z_goto (tgt := 15) dX8_within_11 (by decide) ?_
      exact Z_zreturn dX8_within_15 (by decide) ⟨_, rfl, h⟩
abbrev mX8_lines (G : zG) (n : Nat) (μ : zM) (K : Int → zM → Prop) : Prop := zMt G n 1 yX8_lines cX8_lines 1 (some .int) [Rv G 127] μ (zKi K)
abbrev pX8_lines (G : zG) (n : Nat) (K : Int → zM → Prop) (pc : Nat) (lv : List (Option Value)) (st : List Value) (μ : zM) : Prop := Z G (zrm 1 0 0) RX8 "lines" cX8_lines 1 (some .int) (zPh G n (zKi K)) 0 0 pc lv st (zE G n μ)
theorem eX8_lines {G : zG} {n : Nat} (hn : 154 ≤ n) {μ : zM} {K : Int → zM → Prop}
    (h : (K ((μ 127 2) * (μ 127 3)) μ)) :
    mX8_lines G n  μ K := by
  refine zMt_of (lv := [some (Rv G 127)]) (by decide) rfl (Nat.le_of_ble_eq_true rfl) ?_
  show pX8_lines G n K 0 [some (Rv G 127)] [] μ
  refine Z_aload_n dX8_lines_0 rfl ?_
  refine Y_gi 2 zcX8 fl_X8_7 ⟨by decide, by omega⟩ rfl rfl rfl (by decide) dX8_lines_1 rfl ?_
  refine Z_aload_n dX8_lines_4 rfl ?_
  refine Y_gi 3 zcX8 fl_X8_13 ⟨by decide, by omega⟩ rfl rfl rfl (by decide) dX8_lines_5 rfl ?_
  refine Z_imul dX8_lines_8 ?_
  exact Z_ireturn dX8_lines_9 ⟨_, rfl, h⟩
abbrev mX8_calls (G : zG) (n : Nat) (μ : zM) (K : Int → zM → Prop) : Prop := zMt G n 1 yX8_calls cX8_calls 3 (some .int) [Rv G 127] μ (zKi K)
abbrev pX8_calls (G : zG) (n : Nat) (K : Int → zM → Prop) (pc : Nat) (lv : List (Option Value)) (st : List Value) (μ : zM) : Prop := Z G (zrm 1 0 0) RX8 "calls" cX8_calls 3 (some .int) (zPh G n (zKi K)) 0 0 pc lv st (zE G n μ)
theorem eX8_calls {G : zG} {n : Nat} (hn : 154 ≤ n) {μ : zM} {K : Int → zM → Prop}
    (h : (pX8_calls G n K 4 [some (Rv G 127), some (Iv 0), some (Iv 0)] [] μ)) :
    mX8_calls G n  μ K := by
  refine zMt_of (lv := [some (Rv G 127), none, none]) (by decide) rfl (Nat.le_of_ble_eq_true rfl) ?_
  show pX8_calls G n K 0 [some (Rv G 127), none, none] [] μ
  refine Z_iconst dX8_calls_0 ?_
  refine Z_istore_n (lv2 := [some (Rv G 127), some (Iv 0), none]) dX8_calls_1 rfl (by decide) rfl ?_
  refine Z_iconst dX8_calls_2 ?_
  refine Z_istore_n (lv2 := [some (Rv G 127), some (Iv 0), some (Iv 0)]) dX8_calls_3 rfl (by decide) rfl ?_
  exact Z_cut h ⟨rfl, rfl, rfl, trivial⟩
theorem bX8_calls_4 {G : zG} {n : Nat} (hn : 154 ≤ n) {x1 x2 : Int} {μ : zM} {K : Int → zM → Prop}
    (h : (((wr 20 ≤ wr x2 → (K x1 μ)) ∧ (¬ (wr 20 ≤ wr x2) → ((0 ≤ wr x2 ∧ wr x2 < 20) ∧ ((wr (μ 128 (wr x2)) ≤ 0 → (pX8_calls G n K 4 [some (Rv G 127), some (Iv (x1 + 0)), some (Iv (x2 + 1))] [] μ)) ∧ (¬ (wr (μ 128 (wr x2)) ≤ 0) → (pX8_calls G n K 4 [some (Rv G 127), some (Iv (x1 + 1)), some (Iv (x2 + 1))] [] μ)))))))) :
    pX8_calls G n K 4 [some (Rv G 127), some (Iv x1), some (Iv x2)] [] μ := by
  refine Z_iload_n dX8_calls_4 rfl ?_
  refine Z_bipush dX8_calls_5 (by decide) ?_
  refine Z_icmp_ge (tgt := 33) dX8_calls_7 (by decide) (fun c1 => ?_) (fun c1 => ?_)
  · have h := h.1 c1
    refine Z_iload_n dX8_calls_33 rfl ?_
    exact Z_ireturn dX8_calls_34 ⟨_, rfl, h⟩
  · have h := h.2 c1
    refine Z_iload_n dX8_calls_10 rfl ?_
    refine Z_aload_n dX8_calls_11 rfl ?_
    refine Z_gr (t := 128) zcX8 fl_X8_19 ⟨by decide, by omega⟩ rfl rfl rfl (by decide) (by decide) dX8_calls_12 ?_
    refine Z_iload_n dX8_calls_15 rfl ?_
    obtain ⟨b2, h⟩ := h
    refine Z_iald (zin_c (by decide) (by omega) (by decide) (by decide) b2) dX8_calls_16 ?_
    refine Z_if_le (tgt := 24) dX8_calls_17 (by decide) (fun c3 => ?_) (fun c3 => ?_)
    · have h := h.1 c3
      refine Z_iconst dX8_calls_24 ?_
      refine Z_iadd dX8_calls_25 ?_
      refine Z_istore_n (lv2 := [some (Rv G 127), some (Iv (x1 + 0)), some (Iv x2)]) dX8_calls_26 rfl (by decide) rfl ?_
      refine Z_iinc (lv2 := [some (Rv G 127), some (Iv (x1 + 0)), some (Iv (x2 + 1))]) dX8_calls_27 rfl rfl (by decide) rfl ?_
      refine Z_goto (tgt := 4) dX8_calls_30 (by decide) ?_
      exact Z_cut h ⟨rfl, rfl, rfl, trivial⟩
    · have h := h.2 c3
      refine Z_iconst dX8_calls_20 ?_
      refine Z_goto (tgt := 25) dX8_calls_21 (by decide) ?_
      refine Z_iadd dX8_calls_25 ?_
      refine Z_istore_n (lv2 := [some (Rv G 127), some (Iv (x1 + 1)), some (Iv x2)]) dX8_calls_26 rfl (by decide) rfl ?_
      refine Z_iinc (lv2 := [some (Rv G 127), some (Iv (x1 + 1)), some (Iv (x2 + 1))]) dX8_calls_27 rfl rfl (by decide) rfl ?_
      refine Z_goto (tgt := 4) dX8_calls_30 (by decide) ?_
      exact Z_cut h ⟨rfl, rfl, rfl, trivial⟩
abbrev mX8_atLeft (G : zG) (n : Nat) (x1 x2 : Int) (μ : zM) (K : Int → zM → Prop) : Prop := zMt G n 1 yX8_atLeft cX8_atLeft 4 (some .int) [Rv G 127, Iv x1, Iv x2] μ (zKi K)
abbrev pX8_atLeft (G : zG) (n : Nat) (K : Int → zM → Prop) (pc : Nat) (lv : List (Option Value)) (st : List Value) (μ : zM) : Prop := Z G (zrm 1 0 0) RX8 "atLeft" cX8_atLeft 4 (some .int) (zPh G n (zKi K)) 0 0 pc lv st (zE G n μ)
theorem eX8_atLeft {G : zG} {n : Nat} (hn : 154 ≤ n) {x1 x2 : Int} {μ : zM} {K : Int → zM → Prop}
    (h : (∀ v1 : Int, v1 = (μ 127 3) * x1 → pX8_atLeft G n K 7 [some (Rv G 127), some (Iv x1), some (Iv x2), some (Iv v1)] [] μ)) :
    mX8_atLeft G n x1 x2 μ K := by
  refine zMt_of (lv := [some (Rv G 127), some (Iv x1), some (Iv x2), none]) (by decide) rfl (Nat.le_of_ble_eq_true rfl) ?_
  show pX8_atLeft G n K 0 [some (Rv G 127), some (Iv x1), some (Iv x2), none] [] μ
  refine Z_aload_n dX8_atLeft_0 rfl ?_
  refine Y_gi 3 zcX8 fl_X8_13 ⟨by decide, by omega⟩ rfl rfl rfl (by decide) dX8_atLeft_1 rfl ?_
  refine Z_iload_n dX8_atLeft_4 rfl ?_
  refine Z_imul dX8_atLeft_5 ?_
  obtain ⟨v1, ev1⟩ : ∃ z : Int, z = (μ 127 3) * x1 := ⟨_, rfl⟩
  have h := h v1 ev1
  refine Z_nmi ev1 ?_
  refine Z_istore_n (lv2 := [some (Rv G 127), some (Iv x1), some (Iv x2), some (Iv v1)]) dX8_atLeft_6 rfl (by decide) rfl ?_
  exact Z_cut h ⟨rfl, rfl, rfl, rfl, trivial⟩
theorem bX8_atLeft_7 {G : zG} {n : Nat} (hn : 154 ≤ n) {x1 x2 x3 : Int} {μ : zM} {K : Int → zM → Prop}
    (h : (((wr (((μ 127 3) * x1) + (μ 127 3)) ≤ wr x3 → (K ((-9)) μ)) ∧ (¬ (wr (((μ 127 3) * x1) + (μ 127 3)) ≤ wr x3) → ((0 ≤ wr x3 ∧ wr x3 < 20) ∧ ((wr (μ 128 (wr x3)) ≤ 0 → (pX8_atLeft G n K 7 [some (Rv G 127), some (Iv x1), some (Iv x2), some (Iv (x3 + 1))] [] μ)) ∧ (¬ (wr (μ 128 (wr x3)) ≤ 0) → ((0 ≤ wr x3 ∧ wr x3 < 20) ∧ ((¬ wr (μ 129 (wr x3)) = wr x2 → (pX8_atLeft G n K 7 [some (Rv G 127), some (Iv x1), some (Iv x2), some (Iv (x3 + 1))] [] μ)) ∧ (wr (μ 129 (wr x3)) = wr x2 → (K x3 μ))))))))))) :
    pX8_atLeft G n K 7 [some (Rv G 127), some (Iv x1), some (Iv x2), some (Iv x3)] [] μ := by
  refine Z_iload_n dX8_atLeft_7 rfl ?_
  refine Z_aload_n dX8_atLeft_8 rfl ?_
  refine Y_gi 3 zcX8 fl_X8_13 ⟨by decide, by omega⟩ rfl rfl rfl (by decide) dX8_atLeft_9 rfl ?_
  refine Z_iload_n dX8_atLeft_12 rfl ?_
  refine Z_imul dX8_atLeft_13 ?_
  refine Z_aload_n dX8_atLeft_14 rfl ?_
  refine Y_gi 3 zcX8 fl_X8_13 ⟨by decide, by omega⟩ rfl rfl rfl (by decide) dX8_atLeft_15 rfl ?_
  refine Z_iadd dX8_atLeft_18 ?_
  refine Z_icmp_ge (tgt := 49) dX8_atLeft_19 (by decide) (fun c1 => ?_) (fun c1 => ?_)
  · have h := h.1 c1
    refine Z_bipush dX8_atLeft_49 (by decide) ?_
    exact Z_ireturn dX8_atLeft_51 ⟨_, rfl, h⟩
  · have h := h.2 c1
    refine Z_aload_n dX8_atLeft_22 rfl ?_
    refine Z_gr (t := 128) zcX8 fl_X8_19 ⟨by decide, by omega⟩ rfl rfl rfl (by decide) (by decide) dX8_atLeft_23 ?_
    refine Z_iload_n dX8_atLeft_26 rfl ?_
    obtain ⟨b2, h⟩ := h
    refine Z_iald (zin_c (by decide) (by omega) (by decide) (by decide) b2) dX8_atLeft_27 ?_
    refine Z_if_le (tgt := 43) dX8_atLeft_28 (by decide) (fun c3 => ?_) (fun c3 => ?_)
    · have h := h.1 c3
      refine Z_iinc (lv2 := [some (Rv G 127), some (Iv x1), some (Iv x2), some (Iv (x3 + 1))]) dX8_atLeft_43 rfl rfl (by decide) rfl ?_
      refine Z_goto (tgt := 7) dX8_atLeft_46 (by decide) ?_
      exact Z_cut h ⟨rfl, rfl, rfl, rfl, trivial⟩
    · have h := h.2 c3
      refine Z_aload_n dX8_atLeft_31 rfl ?_
      refine Z_gr (t := 129) zcX8 fl_X8_23 ⟨by decide, by omega⟩ rfl rfl rfl (by decide) (by decide) dX8_atLeft_32 ?_
      refine Z_iload_n dX8_atLeft_35 rfl ?_
      obtain ⟨b4, h⟩ := h
      refine Z_iald (zin_c (by decide) (by omega) (by decide) (by decide) b4) dX8_atLeft_36 ?_
      refine Z_iload_n dX8_atLeft_37 rfl ?_
      refine Z_icmp_ne (tgt := 43) dX8_atLeft_38 (by decide) (fun c5 => ?_) (fun c5 => ?_)
      · have h := h.1 c5
        refine Z_iinc (lv2 := [some (Rv G 127), some (Iv x1), some (Iv x2), some (Iv (x3 + 1))]) dX8_atLeft_43 rfl rfl (by decide) rfl ?_
        refine Z_goto (tgt := 7) dX8_atLeft_46 (by decide) ?_
        exact Z_cut h ⟨rfl, rfl, rfl, rfl, trivial⟩
      · have h := h.2 c5
        refine Z_iload_n dX8_atLeft_41 rfl ?_
        exact Z_ireturn dX8_atLeft_42 ⟨_, rfl, h⟩
abbrev mX8_setUp (G : zG) (n : Nat) (x1 x2 x3 : Int) (μ : zM) (K : Int → zM → Prop) : Prop := zMt G n 1 yX8_setUp cX8_setUp 4 (some .int) [Rv G 127, Iv x1, Iv x2, Iv x3] μ (zKi K)
abbrev pX8_setUp (G : zG) (n : Nat) (K : Int → zM → Prop) (pc : Nat) (lv : List (Option Value)) (st : List Value) (μ : zM) : Prop := Z G (zrm 1 0 0) RX8 "setUp" cX8_setUp 4 (some .int) (zPh G n (zKi K)) 0 0 pc lv st (zE G n μ)
theorem eX8_setUp {G : zG} {n : Nat} (hn : 154 ≤ n) {x1 x2 x3 : Int} {μ : zM} {K : Int → zM → Prop}
    (h : ((0 ≤ wr x1 ∧ wr x1 < 20) ∧ ∀ μ2 : zM, μ2 = zu μ 128 (wr x1) (x2 + 1) → (0 ≤ wr x1 ∧ wr x1 < 20) ∧ ∀ μ4 : zM, μ4 = zu μ2 129 (wr x1) x3 → K x3 μ4)) :
    mX8_setUp G n x1 x2 x3 μ K := by
  refine zMt_of (lv := [some (Rv G 127), some (Iv x1), some (Iv x2), some (Iv x3)]) (by decide) rfl (Nat.le_of_ble_eq_true rfl) ?_
  show pX8_setUp G n K 0 [some (Rv G 127), some (Iv x1), some (Iv x2), some (Iv x3)] [] μ
  refine Z_aload_n dX8_setUp_0 rfl ?_
  refine Z_gr (t := 128) zcX8 fl_X8_19 ⟨by decide, by omega⟩ rfl rfl rfl (by decide) (by decide) dX8_setUp_1 ?_
  refine Z_iload_n dX8_setUp_4 rfl ?_
  refine Z_iload_n dX8_setUp_5 rfl ?_
  refine Z_iconst dX8_setUp_6 ?_
  refine Z_iadd dX8_setUp_7 ?_
  obtain ⟨b1, h⟩ := h
  refine Z_iast (zin_c (by decide) (by omega) (by decide) (by decide) b1) dX8_setUp_8 ?_
  obtain ⟨μ2, eμ2⟩ : ∃ z : zM, z = zu μ 128 (wr x1) (x2 + 1) := ⟨_, rfl⟩
  have h := h μ2 eμ2
  refine Z_mem eμ2 ?_
  refine Z_aload_n dX8_setUp_9 rfl ?_
  refine Z_gr (t := 129) zcX8 fl_X8_23 ⟨by decide, by omega⟩ rfl rfl rfl (by decide) (by decide) dX8_setUp_10 ?_
  refine Z_iload_n dX8_setUp_13 rfl ?_
  refine Z_iload_n dX8_setUp_14 rfl ?_
  obtain ⟨b3, h⟩ := h
  refine Z_iast (zin_c (by decide) (by omega) (by decide) (by decide) b3) dX8_setUp_15 ?_
  obtain ⟨μ4, eμ4⟩ : ∃ z : zM, z = zu μ2 129 (wr x1) x3 := ⟨_, rfl⟩
  have h := h μ4 eμ4
  refine Z_mem eμ4 ?_
  refine Z_iload_n dX8_setUp_16 rfl ?_
  exact Z_ireturn dX8_setUp_17 ⟨_, rfl, h⟩
abbrev mX8_wide (G : zG) (n : Nat) (μ : zM) (K : Int → zM → Prop) : Prop := zMt G n 1 yX8_wide cX8_wide 1 (some .int) [Rv G 127] μ (zKi K)
abbrev pX8_wide (G : zG) (n : Nat) (K : Int → zM → Prop) (pc : Nat) (lv : List (Option Value)) (st : List Value) (μ : zM) : Prop := Z G (zrm 1 0 0) RX8 "wide" cX8_wide 1 (some .int) (zPh G n (zKi K)) 0 0 pc lv st (zE G n μ)
theorem eX8_wide {G : zG} {n : Nat} (hn : 154 ≤ n) {μ : zM} {K : Int → zM → Prop}
    (h : (K (zshl 1 (μ 127 12)) μ)) :
    mX8_wide G n  μ K := by
  refine zMt_of (lv := [some (Rv G 127)]) (by decide) rfl (Nat.le_of_ble_eq_true rfl) ?_
  show pX8_wide G n K 0 [some (Rv G 127)] [] μ
  refine Z_iconst dX8_wide_0 ?_
  refine Z_aload_n dX8_wide_1 rfl ?_
  refine Y_gi 12 zcX8 fl_X8_35 ⟨by decide, by omega⟩ rfl rfl rfl (by decide) dX8_wide_2 rfl ?_
  refine Z_ishl dX8_wide_5 ?_
  exact Z_ireturn dX8_wide_6 ⟨_, rfl, h⟩
abbrev mX8_halve (G : zG) (n : Nat) (x1 x2 x3 x4 x5 x6 : Int) (μ : zM) (K : Int → zM → Prop) : Prop := zMt G n 1 yX8_halve cX8_halve 13 (some .boolean) [Rv G 127, Rv G x1, Iv x2, Iv x3, Iv x4, Rv G x5, Iv x6] μ (zKi K)
abbrev pX8_halve (G : zG) (n : Nat) (K : Int → zM → Prop) (pc : Nat) (lv : List (Option Value)) (st : List Value) (μ : zM) : Prop := Z G (zrm 1 0 0) RX8 "halve" cX8_halve 13 (some .boolean) (zPh G n (zKi K)) 0 0 pc lv st (zE G n μ)
theorem eX8_halve {G : zG} {n : Nat} (hn : 154 ≤ n) {x1 x2 x3 x4 x5 x6 : Int} {μ : zM} {K : Int → zM → Prop}
    (h : (∀ v1 : Int, v1 = zdiv x3 2 → ∀ μ2 : zM, μ2 = zu μ 127 17 0 → pX8_halve G n K 16 [some (Rv G 127), some (Rv G x1), some (Iv x2), some (Iv x3), some (Iv x4), some (Rv G x5), some (Iv x6), some (Iv v1), some (Iv 0), some (Iv 0), none, none, none] [] μ2)) :
    mX8_halve G n x1 x2 x3 x4 x5 x6 μ K := by
  refine zMt_of (lv := [some (Rv G 127), some (Rv G x1), some (Iv x2), some (Iv x3), some (Iv x4), some (Rv G x5), some (Iv x6), none, none, none, none, none, none]) (by decide) rfl (Nat.le_of_ble_eq_true rfl) ?_
  show pX8_halve G n K 0 [some (Rv G 127), some (Rv G x1), some (Iv x2), some (Iv x3), some (Iv x4), some (Rv G x5), some (Iv x6), none, none, none, none, none, none] [] μ
  refine Z_iload_n dX8_halve_0 rfl ?_
  refine Z_iconst dX8_halve_1 ?_
  refine Z_idiv dX8_halve_2 (by decide) ?_
  obtain ⟨v1, ev1⟩ : ∃ z : Int, z = zdiv x3 2 := ⟨_, rfl⟩
  have h := h v1 ev1
  refine Z_nmi ev1 ?_
  refine Z_istore (lv2 := [some (Rv G 127), some (Rv G x1), some (Iv x2), some (Iv x3), some (Iv x4), some (Rv G x5), some (Iv x6), some (Iv v1), none, none, none, none, none]) dX8_halve_3 rfl (by decide) rfl ?_
  refine Z_iconst dX8_halve_5 ?_
  refine Z_istore (lv2 := [some (Rv G 127), some (Rv G x1), some (Iv x2), some (Iv x3), some (Iv x4), some (Rv G x5), some (Iv x6), some (Iv v1), some (Iv 0), none, none, none, none]) dX8_halve_6 rfl (by decide) rfl ?_
  refine Z_aload_n dX8_halve_8 rfl ?_
  refine Z_iconst dX8_halve_9 ?_
  refine Y_pi 17 zcX8 fk_X8_157 ⟨by decide, by omega⟩ rfl rfl rfl (by decide) rfl (tyX8_ok 17 (by decide)) dX8_halve_10 rfl ?_
  obtain ⟨μ2, eμ2⟩ : ∃ z : zM, z = zu μ 127 17 0 := ⟨_, rfl⟩
  have h := h μ2 eμ2
  refine Z_mem eμ2 ?_
  refine Z_iconst dX8_halve_13 ?_
  refine Z_istore (lv2 := [some (Rv G 127), some (Rv G x1), some (Iv x2), some (Iv x3), some (Iv x4), some (Rv G x5), some (Iv x6), some (Iv v1), some (Iv 0), some (Iv 0), none, none, none]) dX8_halve_14 rfl (by decide) rfl ?_
  exact Z_cut h ⟨rfl, rfl, rfl, rfl, rfl, rfl, rfl, rfl, rfl, rfl, trivial, trivial, trivial, trivial⟩
theorem bX8_halve_16 {G : zG} {n : Nat} (hn : 154 ≤ n) {x1 x2 x3 x4 x5 x6 x7 x8 x9 : Int} {μ : zM} {K : Int → zM → Prop}
    (h : (((wr x3 ≤ wr x9 → (K 1 μ)) ∧ (¬ (wr x3 ≤ wr x9) → (∀ v2 : Int, v2 = zxor (zand (zshr x4 (zdiv x9 2)) 1) (zand x9 1) → zin 0 n x1 (x2 + x9) ∧ ∀ v4 : Int, v4 = μ x1 (wr (x2 + x9)) → ∀ v5 : Int, v5 = zshl 1 ((2 * (zdiv v4 2)) + v2) → ((wr (zand x8 v5) = 0 → (∀ v7 : Int, v7 = zor x8 v5 → zin 0 n x5 ((x6 + (x7 * v2)) + (zdiv x9 2)) ∧ ∀ μ9 : zM, μ9 = zu μ x5 (wr ((x6 + (x7 * v2)) + (zdiv x9 2))) (zdiv v4 2) → ((wr (zand v4 1) = wr v2 → (∀ μ11 : zM, μ11 = zu μ9 127 17 (zor (μ9 127 17) 0) → pX8_halve G n K 16 [some (Rv G 127), some (Rv G x1), some (Iv x2), some (Iv x3), some (Iv x4), some (Rv G x5), some (Iv x6), some (Iv x7), some (Iv v7), some (Iv (x9 + 1)), none, none, none] [] μ11)) ∧ (¬ (wr (zand v4 1) = wr v2) → (∀ μ12 : zM, μ12 = zu μ9 127 17 (zor (μ9 127 17) (zshl 1 (zdiv v4 2))) → pX8_halve G n K 16 [some (Rv G 127), some (Rv G x1), some (Iv x2), some (Iv x3), some (Iv x4), some (Rv G x5), some (Iv x6), some (Iv x7), some (Iv v7), some (Iv (x9 + 1)), none, none, none] [] μ12))))) ∧ (¬ (wr (zand x8 v5) = 0) → (K 0 μ)))))))) :
    pX8_halve G n K 16 [some (Rv G 127), some (Rv G x1), some (Iv x2), some (Iv x3), some (Iv x4), some (Rv G x5), some (Iv x6), some (Iv x7), some (Iv x8), some (Iv x9), none, none, none] [] μ := by
  refine Z_iload dX8_halve_16 rfl ?_
  refine Z_iload_n dX8_halve_18 rfl ?_
  refine Z_icmp_ge (tgt := 130) dX8_halve_19 (by decide) (fun c1 => ?_) (fun c1 => ?_)
  · have h := h.1 c1
    refine Z_iconst dX8_halve_130 ?_
    exact Z_zreturn dX8_halve_131 (by decide) ⟨_, rfl, h⟩
  · have h := h.2 c1
    refine Z_iload dX8_halve_22 rfl ?_
    refine Z_iload dX8_halve_24 rfl ?_
    refine Z_iconst dX8_halve_26 ?_
    refine Z_idiv dX8_halve_27 (by decide) ?_
    refine Z_ishr dX8_halve_28 ?_
    refine Z_iconst dX8_halve_29 ?_
    refine Z_iand dX8_halve_30 ?_
    refine Z_iload dX8_halve_31 rfl ?_
    refine Z_iconst dX8_halve_33 ?_
    refine Z_iand dX8_halve_34 ?_
    refine Z_ixor dX8_halve_35 ?_
    obtain ⟨v2, ev2⟩ : ∃ z : Int, z = zxor (zand (zshr x4 (zdiv x9 2)) 1) (zand x9 1) := ⟨_, rfl⟩
    have h := h v2 ev2
    refine Z_nmi ev2 ?_
    refine Z_istore (lv2 := [some (Rv G 127), some (Rv G x1), some (Iv x2), some (Iv x3), some (Iv x4), some (Rv G x5), some (Iv x6), some (Iv x7), some (Iv x8), some (Iv x9), some (Iv v2), none, none]) dX8_halve_36 rfl (by decide) rfl ?_
    refine Z_aload_n dX8_halve_38 rfl ?_
    refine Z_iload_n dX8_halve_39 rfl ?_
    refine Z_iload dX8_halve_40 rfl ?_
    refine Z_iadd dX8_halve_42 ?_
    obtain ⟨b3, h⟩ := h
    refine Z_iald b3 dX8_halve_43 ?_
    obtain ⟨v4, ev4⟩ : ∃ z : Int, z = μ x1 (wr (x2 + x9)) := ⟨_, rfl⟩
    have h := h v4 ev4
    refine Z_nmi ev4 ?_
    refine Z_istore (lv2 := [some (Rv G 127), some (Rv G x1), some (Iv x2), some (Iv x3), some (Iv x4), some (Rv G x5), some (Iv x6), some (Iv x7), some (Iv x8), some (Iv x9), some (Iv v2), some (Iv v4), none]) dX8_halve_44 rfl (by decide) rfl ?_
    refine Z_iconst dX8_halve_46 ?_
    refine Z_iconst dX8_halve_47 ?_
    refine Z_iload dX8_halve_48 rfl ?_
    refine Z_iconst dX8_halve_50 ?_
    refine Z_idiv dX8_halve_51 (by decide) ?_
    refine Z_imul dX8_halve_52 ?_
    refine Z_iload dX8_halve_53 rfl ?_
    refine Z_iadd dX8_halve_55 ?_
    refine Z_ishl dX8_halve_56 ?_
    obtain ⟨v5, ev5⟩ : ∃ z : Int, z = zshl 1 ((2 * (zdiv v4 2)) + v2) := ⟨_, rfl⟩
    have h := h v5 ev5
    refine Z_nmi ev5 ?_
    refine Z_istore (lv2 := [some (Rv G 127), some (Rv G x1), some (Iv x2), some (Iv x3), some (Iv x4), some (Rv G x5), some (Iv x6), some (Iv x7), some (Iv x8), some (Iv x9), some (Iv v2), some (Iv v4), some (Iv v5)]) dX8_halve_57 rfl (by decide) rfl ?_
    refine Z_iload dX8_halve_59 rfl ?_
    refine Z_iload dX8_halve_61 rfl ?_
    refine Z_iand dX8_halve_63 ?_
    refine Z_if_eq (tgt := 69) dX8_halve_64 (by decide) (fun c6 => ?_) (fun c6 => ?_)
    · have h := h.1 c6
      refine Z_iload dX8_halve_69 rfl ?_
      refine Z_iload dX8_halve_71 rfl ?_
      refine Z_ior dX8_halve_73 ?_
      obtain ⟨v7, ev7⟩ : ∃ z : Int, z = zor x8 v5 := ⟨_, rfl⟩
      have h := h v7 ev7
      refine Z_nmi ev7 ?_
      refine Z_istore (lv2 := [some (Rv G 127), some (Rv G x1), some (Iv x2), some (Iv x3), some (Iv x4), some (Rv G x5), some (Iv x6), some (Iv x7), some (Iv v7), some (Iv x9), some (Iv v2), some (Iv v4), some (Iv v5)]) dX8_halve_74 rfl (by decide) rfl ?_
      refine Z_aload dX8_halve_76 rfl ?_
      refine Z_iload dX8_halve_78 rfl ?_
      refine Z_iload dX8_halve_80 rfl ?_
      refine Z_iload dX8_halve_82 rfl ?_
      refine Z_imul dX8_halve_84 ?_
      refine Z_iadd dX8_halve_85 ?_
      refine Z_iload dX8_halve_86 rfl ?_
      refine Z_iconst dX8_halve_88 ?_
      refine Z_idiv dX8_halve_89 (by decide) ?_
      refine Z_iadd dX8_halve_90 ?_
      refine Z_iload dX8_halve_91 rfl ?_
      refine Z_iconst dX8_halve_93 ?_
      refine Z_idiv dX8_halve_94 (by decide) ?_
      obtain ⟨b8, h⟩ := h
      refine Z_iast b8 dX8_halve_95 ?_
      obtain ⟨μ9, eμ9⟩ : ∃ z : zM, z = zu μ x5 (wr ((x6 + (x7 * v2)) + (zdiv x9 2))) (zdiv v4 2) := ⟨_, rfl⟩
      have h := h μ9 eμ9
      refine Z_mem eμ9 ?_
      refine Z_aload_n dX8_halve_96 rfl ?_
      refine Z_dup dX8_halve_97 rfl ?_
      refine Y_gi 17 zcX8 fl_X8_157 ⟨by decide, by omega⟩ rfl rfl rfl (by decide) dX8_halve_98 rfl ?_
      refine Z_iload dX8_halve_101 rfl ?_
      refine Z_iconst dX8_halve_103 ?_
      refine Z_iand dX8_halve_104 ?_
      refine Z_iload dX8_halve_105 rfl ?_
      refine Z_icmp_eq (tgt := 119) dX8_halve_107 (by decide) (fun c10 => ?_) (fun c10 => ?_)
      · have h := h.1 c10
        refine Z_iconst dX8_halve_119 ?_
        refine Z_ior dX8_halve_120 ?_
        refine Y_pi 17 zcX8 fk_X8_157 ⟨by decide, by omega⟩ rfl rfl rfl (by decide) rfl (tyX8_ok 17 (by decide)) dX8_halve_121 rfl ?_
        obtain ⟨μ11, eμ11⟩ : ∃ z : zM, z = zu μ9 127 17 (zor (μ9 127 17) 0) := ⟨_, rfl⟩
        have h := h μ11 eμ11
        refine Z_mem eμ11 ?_
        refine Z_iinc (lv2 := [some (Rv G 127), some (Rv G x1), some (Iv x2), some (Iv x3), some (Iv x4), some (Rv G x5), some (Iv x6), some (Iv x7), some (Iv v7), some (Iv (x9 + 1)), some (Iv v2), some (Iv v4), some (Iv v5)]) dX8_halve_124 rfl rfl (by decide) rfl ?_
        refine Z_goto (tgt := 16) dX8_halve_127 (by decide) ?_
        exact Z_cut h ⟨rfl, rfl, rfl, rfl, rfl, rfl, rfl, rfl, rfl, rfl, trivial, trivial, trivial, trivial⟩
      · have h := h.2 c10
        refine Z_iconst dX8_halve_110 ?_
        refine Z_iload dX8_halve_111 rfl ?_
        refine Z_iconst dX8_halve_113 ?_
        refine Z_idiv dX8_halve_114 (by decide) ?_
        refine Z_ishl dX8_halve_115 ?_
        refine Z_goto (tgt := 120) dX8_halve_116 (by decide) ?_
        refine Z_ior dX8_halve_120 ?_
        refine Y_pi 17 zcX8 fk_X8_157 ⟨by decide, by omega⟩ rfl rfl rfl (by decide) rfl (tyX8_ok 17 (by decide)) dX8_halve_121 rfl ?_
        obtain ⟨μ12, eμ12⟩ : ∃ z : zM, z = zu μ9 127 17 (zor (μ9 127 17) (zshl 1 (zdiv v4 2))) := ⟨_, rfl⟩
        have h := h μ12 eμ12
        refine Z_mem eμ12 ?_
        refine Z_iinc (lv2 := [some (Rv G 127), some (Rv G x1), some (Iv x2), some (Iv x3), some (Iv x4), some (Rv G x5), some (Iv x6), some (Iv x7), some (Iv v7), some (Iv (x9 + 1)), some (Iv v2), some (Iv v4), some (Iv v5)]) dX8_halve_124 rfl rfl (by decide) rfl ?_
        refine Z_goto (tgt := 16) dX8_halve_127 (by decide) ?_
        exact Z_cut h ⟨rfl, rfl, rfl, rfl, rfl, rfl, rfl, rfl, rfl, rfl, trivial, trivial, trivial, trivial⟩
    · have h := h.2 c6
      refine Z_iconst dX8_halve_67 ?_
      exact Z_zreturn dX8_halve_68 (by decide) ⟨_, rfl, h⟩
abbrev mX8_firstOfTwo (G : zG) (n : Nat) (x0 x1 : Int) (μ : zM) (K : Int → zM → Prop) : Prop := zMt G n 1 yX8_firstOfTwo cX8_firstOfTwo 2 (some .long) [Rv G x0, Iv x1] μ (zKl K)
abbrev pX8_firstOfTwo (G : zG) (n : Nat) (K : Int → zM → Prop) (pc : Nat) (lv : List (Option Value)) (st : List Value) (μ : zM) : Prop := Z G (zrm 1 0 0) RX8 "firstOfTwo" cX8_firstOfTwo 2 (some .long) (zPh G n (zKl K)) 0 0 pc lv st (zE G n μ)
theorem eX8_firstOfTwo {G : zG} {n : Nat} (hn : 154 ≤ n) {x0 x1 : Int} {μ : zM} {K : Int → zM → Prop}
    (h : (zin 0 n x0 x1 ∧ ((¬ wr (μ x0 (wr x1)) = 0 → (K 1 μ)) ∧ (wr (μ x0 (wr x1)) = 0 → (K 0 μ))))) :
    mX8_firstOfTwo G n x0 x1 μ K := by
  refine zMt_of (lv := [some (Rv G x0), some (Iv x1)]) (by decide) rfl (Nat.le_of_ble_eq_true rfl) ?_
  show pX8_firstOfTwo G n K 0 [some (Rv G x0), some (Iv x1)] [] μ
  refine Z_aload_n dX8_firstOfTwo_0 rfl ?_
  refine Z_iload_n dX8_firstOfTwo_1 rfl ?_
  obtain ⟨b1, h⟩ := h
  refine Z_iald b1 dX8_firstOfTwo_2 ?_
  refine Z_if_ne (tgt := 10) dX8_firstOfTwo_3 (by decide) (fun c2 => ?_) (fun c2 => ?_)
  · have h := h.1 c2
    refine Z_lconst (a := 1) dX8_firstOfTwo_10 (by decide) ?_
    exact Z_lreturn dX8_firstOfTwo_11 ⟨_, rfl, h⟩
  · have h := h.2 c2
    refine Z_lconst (a := 0) dX8_firstOfTwo_6 (by decide) ?_
    refine Z_goto (tgt := 11) dX8_firstOfTwo_7 (by decide) ?_
    exact Z_lreturn dX8_firstOfTwo_11 ⟨_, rfl, h⟩
abbrev mX8_carriedTwo (G : zG) (n : Nat) (x0 x1 : Int) (μ : zM) (K : Int → zM → Prop) : Prop := zMt G n 1 yX8_carriedTwo cX8_carriedTwo 2 (some .int) [Iv x0, Iv x1] μ (zKi K)
abbrev pX8_carriedTwo (G : zG) (n : Nat) (K : Int → zM → Prop) (pc : Nat) (lv : List (Option Value)) (st : List Value) (μ : zM) : Prop := Z G (zrm 1 0 0) RX8 "carriedTwo" cX8_carriedTwo 2 (some .int) (zPh G n (zKi K)) 0 0 pc lv st (zE G n μ)
theorem eX8_carriedTwo {G : zG} {n : Nat} (hn : 154 ≤ n) {x0 x1 : Int} {μ : zM} {K : Int → zM → Prop}
    (h : (K (zxor x0 (zand x1 1)) μ)) :
    mX8_carriedTwo G n x0 x1 μ K := by
  refine zMt_of (lv := [some (Iv x0), some (Iv x1)]) (by decide) rfl (Nat.le_of_ble_eq_true rfl) ?_
  show pX8_carriedTwo G n K 0 [some (Iv x0), some (Iv x1)] [] μ
  refine Z_iload_n dX8_carriedTwo_0 rfl ?_
  refine Z_iload_n dX8_carriedTwo_1 rfl ?_
  refine Z_iconst dX8_carriedTwo_2 ?_
  refine Z_iand dX8_carriedTwo_3 ?_
  refine Z_ixor dX8_carriedTwo_4 ?_
  exact Z_ireturn dX8_carriedTwo_5 ⟨_, rfl, h⟩
abbrev mX8_setsAhead (G : zG) (n : Nat) (x1 : Int) (μ : zM) (K : Int → zM → Prop) : Prop := zMt G n 1 yX8_setsAhead cX8_setsAhead 4 (some .int) [Rv G 127, Iv x1] μ (zKi K)
abbrev pX8_setsAhead (G : zG) (n : Nat) (K : Int → zM → Prop) (pc : Nat) (lv : List (Option Value)) (st : List Value) (μ : zM) : Prop := Z G (zrm 1 0 0) RX8 "setsAhead" cX8_setsAhead 4 (some .int) (zPh G n (zKi K)) 0 0 pc lv st (zE G n μ)
theorem eX8_setsAhead {G : zG} {n : Nat} (hn : 154 ≤ n) {x1 : Int} {μ : zM} {K : Int → zM → Prop}
    (h : (pX8_setsAhead G n K 4 [some (Rv G 127), some (Iv x1), some (Iv 0), some (Iv 0)] [] μ)) :
    mX8_setsAhead G n x1 μ K := by
  refine zMt_of (lv := [some (Rv G 127), some (Iv x1), none, none]) (by decide) rfl (Nat.le_of_ble_eq_true rfl) ?_
  show pX8_setsAhead G n K 0 [some (Rv G 127), some (Iv x1), none, none] [] μ
  refine Z_iconst dX8_setsAhead_0 ?_
  refine Z_istore_n (lv2 := [some (Rv G 127), some (Iv x1), some (Iv 0), none]) dX8_setsAhead_1 rfl (by decide) rfl ?_
  refine Z_iconst dX8_setsAhead_2 ?_
  refine Z_istore_n (lv2 := [some (Rv G 127), some (Iv x1), some (Iv 0), some (Iv 0)]) dX8_setsAhead_3 rfl (by decide) rfl ?_
  exact Z_cut h ⟨rfl, rfl, rfl, rfl, trivial⟩
theorem bX8_setsAhead_4 {G : zG} {n : Nat} (hn : 154 ≤ n) {x1 x2 x3 : Int} {μ : zM} {K : Int → zM → Prop}
    (h : (((wr x1 ≤ wr x3 → (K x2 μ)) ∧ (¬ (wr x1 ≤ wr x3) → ((0 ≤ wr x3 ∧ wr x3 < 8) ∧ ((wr ((μ 140 (wr x3)) + 1) ≤ wr x2 → (pX8_setsAhead G n K 4 [some (Rv G 127), some (Iv x1), some (Iv x2), some (Iv (x3 + 1))] [] μ)) ∧ (¬ (wr ((μ 140 (wr x3)) + 1) ≤ wr x2) → ((0 ≤ wr x3 ∧ wr x3 < 8) ∧ ∀ v5 : Int, v5 = (μ 140 (wr x3)) + 1 → pX8_setsAhead G n K 4 [some (Rv G 127), some (Iv x1), some (Iv v5), some (Iv (x3 + 1))] [] μ)))))))) :
    pX8_setsAhead G n K 4 [some (Rv G 127), some (Iv x1), some (Iv x2), some (Iv x3)] [] μ := by
  refine Z_iload_n dX8_setsAhead_4 rfl ?_
  refine Z_iload_n dX8_setsAhead_5 rfl ?_
  refine Z_icmp_ge (tgt := 40) dX8_setsAhead_6 (by decide) (fun c1 => ?_) (fun c1 => ?_)
  · have h := h.1 c1
    refine Z_iload_n dX8_setsAhead_40 rfl ?_
    exact Z_ireturn dX8_setsAhead_41 ⟨_, rfl, h⟩
  · have h := h.2 c1
    refine Z_aload_n dX8_setsAhead_9 rfl ?_
    refine Z_gr (t := 140) zcX8 fl_X8_59 ⟨by decide, by omega⟩ rfl rfl rfl (by decide) (by decide) dX8_setsAhead_10 ?_
    refine Z_iload_n dX8_setsAhead_13 rfl ?_
    obtain ⟨b2, h⟩ := h
    refine Z_iald (zin_c (by decide) (by omega) (by decide) (by decide) b2) dX8_setsAhead_14 ?_
    refine Z_iconst dX8_setsAhead_15 ?_
    refine Z_iadd dX8_setsAhead_16 ?_
    refine Z_iload_n dX8_setsAhead_17 rfl ?_
    refine Z_icmp_le (tgt := 32) dX8_setsAhead_18 (by decide) (fun c3 => ?_) (fun c3 => ?_)
    · have h := h.1 c3
      refine Z_iload_n dX8_setsAhead_32 rfl ?_
      refine Z_istore_n (lv2 := [some (Rv G 127), some (Iv x1), some (Iv x2), some (Iv x3)]) dX8_setsAhead_33 rfl (by decide) rfl ?_
      refine Z_iinc (lv2 := [some (Rv G 127), some (Iv x1), some (Iv x2), some (Iv (x3 + 1))]) dX8_setsAhead_34 rfl rfl (by decide) rfl ?_
      refine Z_goto (tgt := 4) dX8_setsAhead_37 (by decide) ?_
      exact Z_cut h ⟨rfl, rfl, rfl, rfl, trivial⟩
    · have h := h.2 c3
      refine Z_aload_n dX8_setsAhead_21 rfl ?_
      refine Z_gr (t := 140) zcX8 fl_X8_59 ⟨by decide, by omega⟩ rfl rfl rfl (by decide) (by decide) dX8_setsAhead_22 ?_
      refine Z_iload_n dX8_setsAhead_25 rfl ?_
      obtain ⟨b4, h⟩ := h
      refine Z_iald (zin_c (by decide) (by omega) (by decide) (by decide) b4) dX8_setsAhead_26 ?_
      refine Z_iconst dX8_setsAhead_27 ?_
      refine Z_iadd dX8_setsAhead_28 ?_
      refine Z_goto (tgt := 33) dX8_setsAhead_29 (by decide) ?_
      obtain ⟨v5, ev5⟩ : ∃ z : Int, z = (μ 140 (wr x3)) + 1 := ⟨_, rfl⟩
      have h := h v5 ev5
      refine Z_nmi ev5 ?_
      refine Z_istore_n (lv2 := [some (Rv G 127), some (Iv x1), some (Iv v5), some (Iv x3)]) dX8_setsAhead_33 rfl (by decide) rfl ?_
      refine Z_iinc (lv2 := [some (Rv G 127), some (Iv x1), some (Iv v5), some (Iv (x3 + 1))]) dX8_setsAhead_34 rfl rfl (by decide) rfl ?_
      refine Z_goto (tgt := 4) dX8_setsAhead_37 (by decide) ?_
      exact Z_cut h ⟨rfl, rfl, rfl, rfl, trivial⟩
abbrev mX8_isWire (G : zG) (n : Nat) (x1 : Int) (μ : zM) (K : Int → zM → Prop) : Prop := zMt G n 1 yX8_isWire cX8_isWire 2 (some .boolean) [Rv G 127, Iv x1] μ (zKi K)
abbrev pX8_isWire (G : zG) (n : Nat) (K : Int → zM → Prop) (pc : Nat) (lv : List (Option Value)) (st : List Value) (μ : zM) : Prop := Z G (zrm 1 0 0) RX8 "isWire" cX8_isWire 2 (some .boolean) (zPh G n (zKi K)) 0 0 pc lv st (zE G n μ)
theorem eX8_isWire {G : zG} {n : Nat} (hn : 154 ≤ n) {x1 : Int} {μ : zM} {K : Int → zM → Prop}
    (h : (((wr x1 < 0 → (K 0 μ)) ∧ (¬ (wr x1 < 0) → (((wr (μ 127 24) ≤ wr x1 → (K 0 μ)) ∧ (¬ (wr (μ 127 24) ≤ wr x1) → (K 1 μ)))))))) :
    mX8_isWire G n x1 μ K := by
  refine zMt_of (lv := [some (Rv G 127), some (Iv x1)]) (by decide) rfl (Nat.le_of_ble_eq_true rfl) ?_
  show pX8_isWire G n K 0 [some (Rv G 127), some (Iv x1)] [] μ
  refine Z_iload_n dX8_isWire_0 rfl ?_
  refine Z_if_lt (tgt := 16) dX8_isWire_1 (by decide) (fun c1 => ?_) (fun c1 => ?_)
  · have h := h.1 c1
    refine Z_iconst dX8_isWire_16 ?_
    exact Z_zreturn dX8_isWire_17 (by decide) ⟨_, rfl, h⟩
  · have h := h.2 c1
    refine Z_iload_n dX8_isWire_4 rfl ?_
    refine Z_aload_n dX8_isWire_5 rfl ?_
    refine Y_gi 24 zcX8 fl_X8_62 ⟨by decide, by omega⟩ rfl rfl rfl (by decide) dX8_isWire_6 rfl ?_
    refine Z_icmp_ge (tgt := 16) dX8_isWire_9 (by decide) (fun c2 => ?_) (fun c2 => ?_)
    · have h := h.1 c2
      refine Z_iconst dX8_isWire_16 ?_
      exact Z_zreturn dX8_isWire_17 (by decide) ⟨_, rfl, h⟩
    · have h := h.2 c2
      refine Z_iconst dX8_isWire_12 ?_
      refine Z_goto (tgt := 17) dX8_isWire_13 (by decide) ?_
      exact Z_zreturn dX8_isWire_17 (by decide) ⟨_, rfl, h⟩
abbrev mX8_back (G : zG) (n : Nat) (μ : zM) (K : Int → zM → Prop) : Prop := zMt G n 1 yX8_back cX8_back 1 (some .int) [Rv G 127] μ (zKi K)
abbrev pX8_back (G : zG) (n : Nat) (K : Int → zM → Prop) (pc : Nat) (lv : List (Option Value)) (st : List Value) (μ : zM) : Prop := Z G (zrm 1 0 0) RX8 "back" cX8_back 1 (some .int) (zPh G n (zKi K)) 0 0 pc lv st (zE G n μ)
theorem eX8_back {G : zG} {n : Nat} (hn : 154 ≤ n) {μ : zM} {K : Int → zM → Prop}
    (h : (((¬ wr (μ 127 25) = 0 → (∀ μ2 : zM, μ2 = zu μ 127 25 ((μ 127 25) - 1) → K (μ2 127 25) μ2)) ∧ (wr (μ 127 25) = 0 → (K ((-3)) μ))))) :
    mX8_back G n  μ K := by
  refine zMt_of (lv := [some (Rv G 127)]) (by decide) rfl (Nat.le_of_ble_eq_true rfl) ?_
  show pX8_back G n K 0 [some (Rv G 127)] [] μ
  refine Z_aload_n dX8_back_0 rfl ?_
  refine Y_gi 25 zcX8 fl_X8_234 ⟨by decide, by omega⟩ rfl rfl rfl (by decide) dX8_back_1 rfl ?_
  refine Z_if_ne (tgt := 10) dX8_back_4 (by decide) (fun c1 => ?_) (fun c1 => ?_)
  · have h := h.1 c1
    refine Z_aload_n dX8_back_10 rfl ?_
    refine Z_dup dX8_back_11 rfl ?_
    refine Y_gi 25 zcX8 fl_X8_234 ⟨by decide, by omega⟩ rfl rfl rfl (by decide) dX8_back_12 rfl ?_
    refine Z_iconst dX8_back_15 ?_
    refine Z_isub dX8_back_16 ?_
    refine Y_pi 25 zcX8 fk_X8_234 ⟨by decide, by omega⟩ rfl rfl rfl (by decide) rfl (tyX8_ok 25 (by decide)) dX8_back_17 rfl ?_
    obtain ⟨μ2, eμ2⟩ : ∃ z : zM, z = zu μ 127 25 ((μ 127 25) - 1) := ⟨_, rfl⟩
    have h := h μ2 eμ2
    refine Z_mem eμ2 ?_
    refine Z_aload_n dX8_back_20 rfl ?_
    refine Y_gi 25 zcX8 fl_X8_234 ⟨by decide, by omega⟩ rfl rfl rfl (by decide) dX8_back_21 rfl ?_
    exact Z_ireturn dX8_back_24 ⟨_, rfl, h⟩
  · have h := h.2 c1
    refine Z_bipush dX8_back_7 (by decide) ?_
    exact Z_ireturn dX8_back_9 ⟨_, rfl, h⟩
abbrev mX8_through (G : zG) (n : Nat) (x1 x2 : Int) (μ : zM) (K : Int → zM → Prop) : Prop := zMt G n 1 yX8_through cX8_through 7 (some .int) [Rv G 127, Iv x1, Iv x2] μ (zKi K)
abbrev pX8_through (G : zG) (n : Nat) (K : Int → zM → Prop) (pc : Nat) (lv : List (Option Value)) (st : List Value) (μ : zM) : Prop := Z G (zrm 1 0 0) RX8 "through" cX8_through 7 (some .int) (zPh G n (zKi K)) 0 0 pc lv st (zE G n μ)
theorem eX8_through {G : zG} {n : Nat} (hn : 154 ≤ n) {x1 x2 : Int} {μ : zM} {K : Int → zM → Prop}
    (h : (pX8_through G n K 5 [some (Rv G 127), none, some (Iv x2), some (Iv x1), some (Iv 0), none, none] [] μ)) :
    mX8_through G n x1 x2 μ K := by
  refine zMt_of (lv := [some (Rv G 127), some (Iv x1), some (Iv x2), none, none, none, none]) (by decide) rfl (Nat.le_of_ble_eq_true rfl) ?_
  show pX8_through G n K 0 [some (Rv G 127), some (Iv x1), some (Iv x2), none, none, none, none] [] μ
  refine Z_iload_n dX8_through_0 rfl ?_
  refine Z_istore_n (lv2 := [some (Rv G 127), some (Iv x1), some (Iv x2), some (Iv x1), none, none, none]) dX8_through_1 rfl (by decide) rfl ?_
  refine Z_iconst dX8_through_2 ?_
  refine Z_istore (lv2 := [some (Rv G 127), some (Iv x1), some (Iv x2), some (Iv x1), some (Iv 0), none, none]) dX8_through_3 rfl (by decide) rfl ?_
  exact Z_cut h ⟨rfl, trivial, rfl, rfl, rfl, trivial, trivial, trivial⟩
theorem bX8_through_5 {G : zG} {n : Nat} (hn : 154 ≤ n) {x2 x3 x4 : Int} {μ : zM} {K : Int → zM → Prop}
    (h : (((wr x2 ≤ wr x4 → (K x3 μ)) ∧ (¬ (wr x2 ≤ wr x4) → ((0 ≤ wr x4 ∧ wr x4 < 30) ∧ ∀ v3 : Int, v3 = μ 141 (wr x4) → (0 ≤ wr x4 ∧ wr x4 < 30) ∧ ∀ v5 : Int, v5 = μ 142 (wr x4) → ((¬ wr (zand (zshr x3 v3) 1) = wr 1 → (pX8_through G n K 5 [some (Rv G 127), none, some (Iv x2), some (Iv x3), some (Iv (x4 + 1)), none, none] [] μ)) ∧ (wr (zand (zshr x3 v3) 1) = wr 1 → (((¬ wr (zand (zshr x3 v5) 1) = 0 → (pX8_through G n K 5 [some (Rv G 127), none, some (Iv x2), some (Iv x3), some (Iv (x4 + 1)), none, none] [] μ)) ∧ (wr (zand (zshr x3 v5) 1) = 0 → (∀ v8 : Int, v8 = zxor x3 (zor (zshl 1 v3) (zshl 1 v5)) → pX8_through G n K 5 [some (Rv G 127), none, some (Iv x2), some (Iv v8), some (Iv (x4 + 1)), none, none] [] μ))))))))))) :
    pX8_through G n K 5 [some (Rv G 127), none, some (Iv x2), some (Iv x3), some (Iv x4), none, none] [] μ := by
  refine Z_iload dX8_through_5 rfl ?_
  refine Z_iload_n dX8_through_7 rfl ?_
  refine Z_icmp_ge (tgt := 66) dX8_through_8 (by decide) (fun c1 => ?_) (fun c1 => ?_)
  · have h := h.1 c1
    refine Z_iload_n dX8_through_66 rfl ?_
    exact Z_ireturn dX8_through_67 ⟨_, rfl, h⟩
  · have h := h.2 c1
    refine Z_aload_n dX8_through_11 rfl ?_
    refine Z_gr (t := 141) zcX8 fl_X8_65 ⟨by decide, by omega⟩ rfl rfl rfl (by decide) (by decide) dX8_through_12 ?_
    refine Z_iload dX8_through_15 rfl ?_
    obtain ⟨b2, h⟩ := h
    refine Z_iald (zin_c (by decide) (by omega) (by decide) (by decide) b2) dX8_through_17 ?_
    obtain ⟨v3, ev3⟩ : ∃ z : Int, z = μ 141 (wr x4) := ⟨_, rfl⟩
    have h := h v3 ev3
    refine Z_nmi ev3 ?_
    refine Z_istore (lv2 := [some (Rv G 127), none, some (Iv x2), some (Iv x3), some (Iv x4), some (Iv v3), none]) dX8_through_18 rfl (by decide) rfl ?_
    refine Z_aload_n dX8_through_20 rfl ?_
    refine Z_gr (t := 142) zcX8 fl_X8_68 ⟨by decide, by omega⟩ rfl rfl rfl (by decide) (by decide) dX8_through_21 ?_
    refine Z_iload dX8_through_24 rfl ?_
    obtain ⟨b4, h⟩ := h
    refine Z_iald (zin_c (by decide) (by omega) (by decide) (by decide) b4) dX8_through_26 ?_
    obtain ⟨v5, ev5⟩ : ∃ z : Int, z = μ 142 (wr x4) := ⟨_, rfl⟩
    have h := h v5 ev5
    refine Z_nmi ev5 ?_
    refine Z_istore (lv2 := [some (Rv G 127), none, some (Iv x2), some (Iv x3), some (Iv x4), some (Iv v3), some (Iv v5)]) dX8_through_27 rfl (by decide) rfl ?_
    refine Z_iload_n dX8_through_29 rfl ?_
    refine Z_iload dX8_through_30 rfl ?_
    refine Z_ishr dX8_through_32 ?_
    refine Z_iconst dX8_through_33 ?_
    refine Z_iand dX8_through_34 ?_
    refine Z_iconst dX8_through_35 ?_
    refine Z_icmp_ne (tgt := 60) dX8_through_36 (by decide) (fun c6 => ?_) (fun c6 => ?_)
    · have h := h.1 c6
      refine Z_iinc (lv2 := [some (Rv G 127), none, some (Iv x2), some (Iv x3), some (Iv (x4 + 1)), some (Iv v3), some (Iv v5)]) dX8_through_60 rfl rfl (by decide) rfl ?_
      refine Z_goto (tgt := 5) dX8_through_63 (by decide) ?_
      exact Z_cut h ⟨rfl, trivial, rfl, rfl, rfl, trivial, trivial, trivial⟩
    · have h := h.2 c6
      refine Z_iload_n dX8_through_39 rfl ?_
      refine Z_iload dX8_through_40 rfl ?_
      refine Z_ishr dX8_through_42 ?_
      refine Z_iconst dX8_through_43 ?_
      refine Z_iand dX8_through_44 ?_
      refine Z_if_ne (tgt := 60) dX8_through_45 (by decide) (fun c7 => ?_) (fun c7 => ?_)
      · have h := h.1 c7
        refine Z_iinc (lv2 := [some (Rv G 127), none, some (Iv x2), some (Iv x3), some (Iv (x4 + 1)), some (Iv v3), some (Iv v5)]) dX8_through_60 rfl rfl (by decide) rfl ?_
        refine Z_goto (tgt := 5) dX8_through_63 (by decide) ?_
        exact Z_cut h ⟨rfl, trivial, rfl, rfl, rfl, trivial, trivial, trivial⟩
      · have h := h.2 c7
        refine Z_iload_n dX8_through_48 rfl ?_
        refine Z_iconst dX8_through_49 ?_
        refine Z_iload dX8_through_50 rfl ?_
        refine Z_ishl dX8_through_52 ?_
        refine Z_iconst dX8_through_53 ?_
        refine Z_iload dX8_through_54 rfl ?_
        refine Z_ishl dX8_through_56 ?_
        refine Z_ior dX8_through_57 ?_
        refine Z_ixor dX8_through_58 ?_
        obtain ⟨v8, ev8⟩ : ∃ z : Int, z = zxor x3 (zor (zshl 1 v3) (zshl 1 v5)) := ⟨_, rfl⟩
        have h := h v8 ev8
        refine Z_nmi ev8 ?_
        refine Z_istore_n (lv2 := [some (Rv G 127), none, some (Iv x2), some (Iv v8), some (Iv x4), some (Iv v3), some (Iv v5)]) dX8_through_59 rfl (by decide) rfl ?_
        refine Z_iinc (lv2 := [some (Rv G 127), none, some (Iv x2), some (Iv v8), some (Iv (x4 + 1)), some (Iv v3), some (Iv v5)]) dX8_through_60 rfl rfl (by decide) rfl ?_
        refine Z_goto (tgt := 5) dX8_through_63 (by decide) ?_
        exact Z_cut h ⟨rfl, trivial, rfl, rfl, rfl, trivial, trivial, trivial⟩
abbrev mX8_isInOrder (G : zG) (n : Nat) (x1 : Int) (μ : zM) (K : Int → zM → Prop) : Prop := zMt G n 1 yX8_isInOrder cX8_isInOrder 3 (some .boolean) [Rv G 127, Iv x1] μ (zKi K)
abbrev pX8_isInOrder (G : zG) (n : Nat) (K : Int → zM → Prop) (pc : Nat) (lv : List (Option Value)) (st : List Value) (μ : zM) : Prop := Z G (zrm 1 0 0) RX8 "isInOrder" cX8_isInOrder 3 (some .boolean) (zPh G n (zKi K)) 0 0 pc lv st (zE G n μ)
theorem eX8_isInOrder {G : zG} {n : Nat} (hn : 154 ≤ n) {x1 : Int} {μ : zM} {K : Int → zM → Prop}
    (h : (pX8_isInOrder G n K 2 [some (Rv G 127), some (Iv x1), some (Iv 0)] [] μ)) :
    mX8_isInOrder G n x1 μ K := by
  refine zMt_of (lv := [some (Rv G 127), some (Iv x1), none]) (by decide) rfl (Nat.le_of_ble_eq_true rfl) ?_
  show pX8_isInOrder G n K 0 [some (Rv G 127), some (Iv x1), none] [] μ
  refine Z_iconst dX8_isInOrder_0 ?_
  refine Z_istore_n (lv2 := [some (Rv G 127), some (Iv x1), some (Iv 0)]) dX8_isInOrder_1 rfl (by decide) rfl ?_
  exact Z_cut h ⟨rfl, rfl, rfl, trivial⟩
theorem bX8_isInOrder_2 {G : zG} {n : Nat} (hn : 154 ≤ n) {x1 x2 : Int} {μ : zM} {K : Int → zM → Prop}
    (h : (((wr (μ 127 24) ≤ wr (x2 + 1) → (K 1 μ)) ∧ (¬ (wr (μ 127 24) ≤ wr (x2 + 1)) → (((wr (zand (zshr x1 x2) 1) ≤ wr (zand (zshr x1 (x2 + 1)) 1) → (pX8_isInOrder G n K 2 [some (Rv G 127), some (Iv x1), some (Iv (x2 + 1))] [] μ)) ∧ (¬ (wr (zand (zshr x1 x2) 1) ≤ wr (zand (zshr x1 (x2 + 1)) 1)) → (K 0 μ)))))))) :
    pX8_isInOrder G n K 2 [some (Rv G 127), some (Iv x1), some (Iv x2)] [] μ := by
  refine Z_iload_n dX8_isInOrder_2 rfl ?_
  refine Z_iconst dX8_isInOrder_3 ?_
  refine Z_iadd dX8_isInOrder_4 ?_
  refine Z_aload_n dX8_isInOrder_5 rfl ?_
  refine Y_gi 24 zcX8 fl_X8_62 ⟨by decide, by omega⟩ rfl rfl rfl (by decide) dX8_isInOrder_6 rfl ?_
  refine Z_icmp_ge (tgt := 35) dX8_isInOrder_9 (by decide) (fun c1 => ?_) (fun c1 => ?_)
  · have h := h.1 c1
    refine Z_iconst dX8_isInOrder_35 ?_
    exact Z_zreturn dX8_isInOrder_36 (by decide) ⟨_, rfl, h⟩
  · have h := h.2 c1
    refine Z_iload_n dX8_isInOrder_12 rfl ?_
    refine Z_iload_n dX8_isInOrder_13 rfl ?_
    refine Z_ishr dX8_isInOrder_14 ?_
    refine Z_iconst dX8_isInOrder_15 ?_
    refine Z_iand dX8_isInOrder_16 ?_
    refine Z_iload_n dX8_isInOrder_17 rfl ?_
    refine Z_iload_n dX8_isInOrder_18 rfl ?_
    refine Z_iconst dX8_isInOrder_19 ?_
    refine Z_iadd dX8_isInOrder_20 ?_
    refine Z_ishr dX8_isInOrder_21 ?_
    refine Z_iconst dX8_isInOrder_22 ?_
    refine Z_iand dX8_isInOrder_23 ?_
    refine Z_icmp_le (tgt := 29) dX8_isInOrder_24 (by decide) (fun c2 => ?_) (fun c2 => ?_)
    · have h := h.1 c2
      refine Z_iinc (lv2 := [some (Rv G 127), some (Iv x1), some (Iv (x2 + 1))]) dX8_isInOrder_29 rfl rfl (by decide) rfl ?_
      refine Z_goto (tgt := 2) dX8_isInOrder_32 (by decide) ?_
      exact Z_cut h ⟨rfl, rfl, rfl, trivial⟩
    · have h := h.2 c2
      refine Z_iconst dX8_isInOrder_27 ?_
      exact Z_zreturn dX8_isInOrder_28 (by decide) ⟨_, rfl, h⟩
abbrev mX8_step (G : zG) (n : Nat) (x1 : Int) (μ : zM) (K : Int → zM → Prop) : Prop := zMt G n 1 yX8_step cX8_step 5 (some .int) [Rv G 127, Iv x1] μ (zKi K)
abbrev pX8_step (G : zG) (n : Nat) (K : Int → zM → Prop) (pc : Nat) (lv : List (Option Value)) (st : List Value) (μ : zM) : Prop := Z G (zrm 1 0 0) RX8 "step" cX8_step 5 (some .int) (zPh G n (zKi K)) 0 0 pc lv st (zE G n μ)
theorem eX8_step {G : zG} {n : Nat} (hn : 154 ≤ n) {x1 : Int} {μ : zM} {K : Int → zM → Prop}
    (h : (pX8_step G n K 4 [some (Rv G 127), some (Iv x1), some (Iv 0), some (Iv 0), none] [] μ)) :
    mX8_step G n x1 μ K := by
  refine zMt_of (lv := [some (Rv G 127), some (Iv x1), none, none, none]) (by decide) rfl (Nat.le_of_ble_eq_true rfl) ?_
  show pX8_step G n K 0 [some (Rv G 127), some (Iv x1), none, none, none] [] μ
  refine Z_iconst dX8_step_0 ?_
  refine Z_istore_n (lv2 := [some (Rv G 127), some (Iv x1), some (Iv 0), none, none]) dX8_step_1 rfl (by decide) rfl ?_
  refine Z_iconst dX8_step_2 ?_
  refine Z_istore_n (lv2 := [some (Rv G 127), some (Iv x1), some (Iv 0), some (Iv 0), none]) dX8_step_3 rfl (by decide) rfl ?_
  exact Z_cut h ⟨rfl, rfl, rfl, rfl, trivial, trivial⟩
theorem bX8_step_4 {G : zG} {n : Nat} (hn : 154 ≤ n) {x1 x2 x3 : Int} {μ : zM} {K : Int → zM → Prop}
    (h : (((wr 8 ≤ wr x3 → (pX8_step G n K 25 [some (Rv G 127), some (Iv x1), some (Iv x2), some (Iv 0), none] [] μ)) ∧ (¬ (wr 8 ≤ wr x3) → ((0 ≤ wr x3 ∧ wr x3 < 8) ∧ ∀ μ3 : zM, μ3 = zu μ 143 (wr x3) 0 → pX8_step G n K 4 [some (Rv G 127), some (Iv x1), some (Iv x2), some (Iv (x3 + 1)), none] [] μ3))))) :
    pX8_step G n K 4 [some (Rv G 127), some (Iv x1), some (Iv x2), some (Iv x3), none] [] μ := by
  refine Z_iload_n dX8_step_4 rfl ?_
  refine Z_bipush dX8_step_5 (by decide) ?_
  refine Z_icmp_ge (tgt := 23) dX8_step_7 (by decide) (fun c1 => ?_) (fun c1 => ?_)
  · have h := h.1 c1
    refine Z_iconst dX8_step_23 ?_
    refine Z_istore_n (lv2 := [some (Rv G 127), some (Iv x1), some (Iv x2), some (Iv 0), none]) dX8_step_24 rfl (by decide) rfl ?_
    exact Z_cut h ⟨rfl, rfl, rfl, rfl, trivial, trivial⟩
  · have h := h.2 c1
    refine Z_aload_n dX8_step_10 rfl ?_
    refine Z_gr (t := 143) zcX8 fl_X8_71 ⟨by decide, by omega⟩ rfl rfl rfl (by decide) (by decide) dX8_step_11 ?_
    refine Z_iload_n dX8_step_14 rfl ?_
    refine Z_iconst dX8_step_15 ?_
    obtain ⟨b2, h⟩ := h
    refine Z_iast (zin_c (by decide) (by omega) (by decide) (by decide) b2) dX8_step_16 ?_
    obtain ⟨μ3, eμ3⟩ : ∃ z : zM, z = zu μ 143 (wr x3) 0 := ⟨_, rfl⟩
    have h := h μ3 eμ3
    refine Z_mem eμ3 ?_
    refine Z_iinc (lv2 := [some (Rv G 127), some (Iv x1), some (Iv x2), some (Iv (x3 + 1)), none]) dX8_step_17 rfl rfl (by decide) rfl ?_
    refine Z_goto (tgt := 4) dX8_step_20 (by decide) ?_
    exact Z_cut h ⟨rfl, rfl, rfl, rfl, trivial, trivial⟩
theorem bX8_step_25 {G : zG} {n : Nat} (hn : 154 ≤ n) {x1 x2 x3 : Int} {μ : zM} {K : Int → zM → Prop}
    (h : (((wr (μ 127 25) ≤ wr x3 → (K x2 μ)) ∧ (¬ (wr (μ 127 25) ≤ wr x3) → ((0 ≤ wr x3 ∧ wr x3 < 30) ∧ (0 ≤ wr (μ 141 (wr x3)) ∧ wr (μ 141 (wr x3)) < 8) ∧ (0 ≤ wr x3 ∧ wr x3 < 30) ∧ (0 ≤ wr (μ 142 (wr x3)) ∧ wr (μ 142 (wr x3)) < 8) ∧ ((wr (μ 143 (wr (μ 141 (wr x3)))) ≤ wr (μ 143 (wr (μ 142 (wr x3)))) → ((0 ≤ wr x3 ∧ wr x3 < 30) ∧ (0 ≤ wr (μ 142 (wr x3)) ∧ wr (μ 142 (wr x3)) < 8) ∧ ∀ v9 : Int, v9 = μ 143 (wr (μ 142 (wr x3))) → ((¬ wr x3 = wr x1 → ((0 ≤ wr x3 ∧ wr x3 < 30) ∧ (0 ≤ wr (μ 141 (wr x3)) ∧ wr (μ 141 (wr x3)) < 8) ∧ ∀ μ13 : zM, μ13 = zu μ 143 (wr (μ 141 (wr x3))) (v9 + 1) → (0 ≤ wr x3 ∧ wr x3 < 30) ∧ (0 ≤ wr (μ13 142 (wr x3)) ∧ wr (μ13 142 (wr x3)) < 8) ∧ ∀ μ16 : zM, μ16 = zu μ13 143 (wr (μ13 142 (wr x3))) (v9 + 1) → ((wr (v9 + 1) ≤ wr x2 → (pX8_step G n K 25 [some (Rv G 127), some (Iv x1), some (Iv x2), some (Iv (x3 + 1)), none] [] μ16)) ∧ (¬ (wr (v9 + 1) ≤ wr x2) → (pX8_step G n K 25 [some (Rv G 127), some (Iv x1), some (Iv (v9 + 1)), some (Iv (x3 + 1)), none] [] μ16))))) ∧ (wr x3 = wr x1 → (K v9 μ))))) ∧ (¬ (wr (μ 143 (wr (μ 141 (wr x3)))) ≤ wr (μ 143 (wr (μ 142 (wr x3))))) → ((0 ≤ wr x3 ∧ wr x3 < 30) ∧ (0 ≤ wr (μ 141 (wr x3)) ∧ wr (μ 141 (wr x3)) < 8) ∧ ∀ v20 : Int, v20 = μ 143 (wr (μ 141 (wr x3))) → ((¬ wr x3 = wr x1 → ((0 ≤ wr x3 ∧ wr x3 < 30) ∧ (0 ≤ wr (μ 141 (wr x3)) ∧ wr (μ 141 (wr x3)) < 8) ∧ ∀ μ24 : zM, μ24 = zu μ 143 (wr (μ 141 (wr x3))) (v20 + 1) → (0 ≤ wr x3 ∧ wr x3 < 30) ∧ (0 ≤ wr (μ24 142 (wr x3)) ∧ wr (μ24 142 (wr x3)) < 8) ∧ ∀ μ27 : zM, μ27 = zu μ24 143 (wr (μ24 142 (wr x3))) (v20 + 1) → ((wr (v20 + 1) ≤ wr x2 → (pX8_step G n K 25 [some (Rv G 127), some (Iv x1), some (Iv x2), some (Iv (x3 + 1)), none] [] μ27)) ∧ (¬ (wr (v20 + 1) ≤ wr x2) → (pX8_step G n K 25 [some (Rv G 127), some (Iv x1), some (Iv (v20 + 1)), some (Iv (x3 + 1)), none] [] μ27))))) ∧ (wr x3 = wr x1 → (K v20 μ))))))))))) :
    pX8_step G n K 25 [some (Rv G 127), some (Iv x1), some (Iv x2), some (Iv x3), none] [] μ := by
  refine Z_iload_n dX8_step_25 rfl ?_
  refine Z_aload_n dX8_step_26 rfl ?_
  refine Y_gi 25 zcX8 fl_X8_234 ⟨by decide, by omega⟩ rfl rfl rfl (by decide) dX8_step_27 rfl ?_
  refine Z_icmp_ge (tgt := 146) dX8_step_30 (by decide) (fun c1 => ?_) (fun c1 => ?_)
  · have h := h.1 c1
    refine Z_iload_n dX8_step_146 rfl ?_
    exact Z_ireturn dX8_step_147 ⟨_, rfl, h⟩
  · have h := h.2 c1
    refine Z_aload_n dX8_step_33 rfl ?_
    refine Z_gr (t := 143) zcX8 fl_X8_71 ⟨by decide, by omega⟩ rfl rfl rfl (by decide) (by decide) dX8_step_34 ?_
    refine Z_aload_n dX8_step_37 rfl ?_
    refine Z_gr (t := 141) zcX8 fl_X8_65 ⟨by decide, by omega⟩ rfl rfl rfl (by decide) (by decide) dX8_step_38 ?_
    refine Z_iload_n dX8_step_41 rfl ?_
    obtain ⟨b2, h⟩ := h
    refine Z_iald (zin_c (by decide) (by omega) (by decide) (by decide) b2) dX8_step_42 ?_
    obtain ⟨b3, h⟩ := h
    refine Z_iald (zin_c (by decide) (by omega) (by decide) (by decide) b3) dX8_step_43 ?_
    refine Z_aload_n dX8_step_44 rfl ?_
    refine Z_gr (t := 143) zcX8 fl_X8_71 ⟨by decide, by omega⟩ rfl rfl rfl (by decide) (by decide) dX8_step_45 ?_
    refine Z_aload_n dX8_step_48 rfl ?_
    refine Z_gr (t := 142) zcX8 fl_X8_68 ⟨by decide, by omega⟩ rfl rfl rfl (by decide) (by decide) dX8_step_49 ?_
    refine Z_iload_n dX8_step_52 rfl ?_
    obtain ⟨b4, h⟩ := h
    refine Z_iald (zin_c (by decide) (by omega) (by decide) (by decide) b4) dX8_step_53 ?_
    obtain ⟨b5, h⟩ := h
    refine Z_iald (zin_c (by decide) (by omega) (by decide) (by decide) b5) dX8_step_54 ?_
    refine Z_icmp_le (tgt := 72) dX8_step_55 (by decide) (fun c6 => ?_) (fun c6 => ?_)
    · have h := h.1 c6
      refine Z_aload_n dX8_step_72 rfl ?_
      refine Z_gr (t := 143) zcX8 fl_X8_71 ⟨by decide, by omega⟩ rfl rfl rfl (by decide) (by decide) dX8_step_73 ?_
      refine Z_aload_n dX8_step_76 rfl ?_
      refine Z_gr (t := 142) zcX8 fl_X8_68 ⟨by decide, by omega⟩ rfl rfl rfl (by decide) (by decide) dX8_step_77 ?_
      refine Z_iload_n dX8_step_80 rfl ?_
      obtain ⟨b7, h⟩ := h
      refine Z_iald (zin_c (by decide) (by omega) (by decide) (by decide) b7) dX8_step_81 ?_
      obtain ⟨b8, h⟩ := h
      refine Z_iald (zin_c (by decide) (by omega) (by decide) (by decide) b8) dX8_step_82 ?_
      obtain ⟨v9, ev9⟩ : ∃ z : Int, z = μ 143 (wr (μ 142 (wr x3))) := ⟨_, rfl⟩
      have h := h v9 ev9
      refine Z_nmi ev9 ?_
      refine Z_istore (lv2 := [some (Rv G 127), some (Iv x1), some (Iv x2), some (Iv x3), some (Iv v9)]) dX8_step_83 rfl (by decide) rfl ?_
      refine Z_iload_n dX8_step_85 rfl ?_
      refine Z_iload_n dX8_step_86 rfl ?_
      refine Z_icmp_ne (tgt := 93) dX8_step_87 (by decide) (fun c10 => ?_) (fun c10 => ?_)
      · have h := h.1 c10
        refine Z_aload_n dX8_step_93 rfl ?_
        refine Z_gr (t := 143) zcX8 fl_X8_71 ⟨by decide, by omega⟩ rfl rfl rfl (by decide) (by decide) dX8_step_94 ?_
        refine Z_aload_n dX8_step_97 rfl ?_
        refine Z_gr (t := 141) zcX8 fl_X8_65 ⟨by decide, by omega⟩ rfl rfl rfl (by decide) (by decide) dX8_step_98 ?_
        refine Z_iload_n dX8_step_101 rfl ?_
        obtain ⟨b11, h⟩ := h
        refine Z_iald (zin_c (by decide) (by omega) (by decide) (by decide) b11) dX8_step_102 ?_
        refine Z_iload dX8_step_103 rfl ?_
        refine Z_iconst dX8_step_105 ?_
        refine Z_iadd dX8_step_106 ?_
        obtain ⟨b12, h⟩ := h
        refine Z_iast (zin_c (by decide) (by omega) (by decide) (by decide) b12) dX8_step_107 ?_
        obtain ⟨μ13, eμ13⟩ : ∃ z : zM, z = zu μ 143 (wr (μ 141 (wr x3))) (v9 + 1) := ⟨_, rfl⟩
        have h := h μ13 eμ13
        refine Z_mem eμ13 ?_
        refine Z_aload_n dX8_step_108 rfl ?_
        refine Z_gr (t := 143) zcX8 fl_X8_71 ⟨by decide, by omega⟩ rfl rfl rfl (by decide) (by decide) dX8_step_109 ?_
        refine Z_aload_n dX8_step_112 rfl ?_
        refine Z_gr (t := 142) zcX8 fl_X8_68 ⟨by decide, by omega⟩ rfl rfl rfl (by decide) (by decide) dX8_step_113 ?_
        refine Z_iload_n dX8_step_116 rfl ?_
        obtain ⟨b14, h⟩ := h
        refine Z_iald (zin_c (by decide) (by omega) (by decide) (by decide) b14) dX8_step_117 ?_
        refine Z_iload dX8_step_118 rfl ?_
        refine Z_iconst dX8_step_120 ?_
        refine Z_iadd dX8_step_121 ?_
        obtain ⟨b15, h⟩ := h
        refine Z_iast (zin_c (by decide) (by omega) (by decide) (by decide) b15) dX8_step_122 ?_
        obtain ⟨μ16, eμ16⟩ : ∃ z : zM, z = zu μ13 143 (wr (μ13 142 (wr x3))) (v9 + 1) := ⟨_, rfl⟩
        have h := h μ16 eμ16
        refine Z_mem eμ16 ?_
        refine Z_iload dX8_step_123 rfl ?_
        refine Z_iconst dX8_step_125 ?_
        refine Z_iadd dX8_step_126 ?_
        refine Z_iload_n dX8_step_127 rfl ?_
        refine Z_icmp_le (tgt := 138) dX8_step_128 (by decide) (fun c17 => ?_) (fun c17 => ?_)
        · have h := h.1 c17
          refine Z_iload_n dX8_step_138 rfl ?_
          refine Z_istore_n (lv2 := [some (Rv G 127), some (Iv x1), some (Iv x2), some (Iv x3), some (Iv v9)]) dX8_step_139 rfl (by decide) rfl ?_
          refine Z_iinc (lv2 := [some (Rv G 127), some (Iv x1), some (Iv x2), some (Iv (x3 + 1)), some (Iv v9)]) dX8_step_140 rfl rfl (by decide) rfl ?_
          refine Z_goto (tgt := 25) dX8_step_143 (by decide) ?_
          exact Z_cut h ⟨rfl, rfl, rfl, rfl, trivial, trivial⟩
        · have h := h.2 c17
          refine Z_iload dX8_step_131 rfl ?_
          refine Z_iconst dX8_step_133 ?_
          refine Z_iadd dX8_step_134 ?_
          refine Z_goto (tgt := 139) dX8_step_135 (by decide) ?_
          refine Z_istore_n (lv2 := [some (Rv G 127), some (Iv x1), some (Iv (v9 + 1)), some (Iv x3), some (Iv v9)]) dX8_step_139 rfl (by decide) rfl ?_
          refine Z_iinc (lv2 := [some (Rv G 127), some (Iv x1), some (Iv (v9 + 1)), some (Iv (x3 + 1)), some (Iv v9)]) dX8_step_140 rfl rfl (by decide) rfl ?_
          refine Z_goto (tgt := 25) dX8_step_143 (by decide) ?_
          exact Z_cut h ⟨rfl, rfl, rfl, rfl, trivial, trivial⟩
      · have h := h.2 c10
        refine Z_iload dX8_step_90 rfl ?_
        exact Z_ireturn dX8_step_92 ⟨_, rfl, h⟩
    · have h := h.2 c6
      refine Z_aload_n dX8_step_58 rfl ?_
      refine Z_gr (t := 143) zcX8 fl_X8_71 ⟨by decide, by omega⟩ rfl rfl rfl (by decide) (by decide) dX8_step_59 ?_
      refine Z_aload_n dX8_step_62 rfl ?_
      refine Z_gr (t := 141) zcX8 fl_X8_65 ⟨by decide, by omega⟩ rfl rfl rfl (by decide) (by decide) dX8_step_63 ?_
      refine Z_iload_n dX8_step_66 rfl ?_
      obtain ⟨b18, h⟩ := h
      refine Z_iald (zin_c (by decide) (by omega) (by decide) (by decide) b18) dX8_step_67 ?_
      obtain ⟨b19, h⟩ := h
      refine Z_iald (zin_c (by decide) (by omega) (by decide) (by decide) b19) dX8_step_68 ?_
      refine Z_goto (tgt := 83) dX8_step_69 (by decide) ?_
      obtain ⟨v20, ev20⟩ : ∃ z : Int, z = μ 143 (wr (μ 141 (wr x3))) := ⟨_, rfl⟩
      have h := h v20 ev20
      refine Z_nmi ev20 ?_
      refine Z_istore (lv2 := [some (Rv G 127), some (Iv x1), some (Iv x2), some (Iv x3), some (Iv v20)]) dX8_step_83 rfl (by decide) rfl ?_
      refine Z_iload_n dX8_step_85 rfl ?_
      refine Z_iload_n dX8_step_86 rfl ?_
      refine Z_icmp_ne (tgt := 93) dX8_step_87 (by decide) (fun c21 => ?_) (fun c21 => ?_)
      · have h := h.1 c21
        refine Z_aload_n dX8_step_93 rfl ?_
        refine Z_gr (t := 143) zcX8 fl_X8_71 ⟨by decide, by omega⟩ rfl rfl rfl (by decide) (by decide) dX8_step_94 ?_
        refine Z_aload_n dX8_step_97 rfl ?_
        refine Z_gr (t := 141) zcX8 fl_X8_65 ⟨by decide, by omega⟩ rfl rfl rfl (by decide) (by decide) dX8_step_98 ?_
        refine Z_iload_n dX8_step_101 rfl ?_
        obtain ⟨b22, h⟩ := h
        refine Z_iald (zin_c (by decide) (by omega) (by decide) (by decide) b22) dX8_step_102 ?_
        refine Z_iload dX8_step_103 rfl ?_
        refine Z_iconst dX8_step_105 ?_
        refine Z_iadd dX8_step_106 ?_
        obtain ⟨b23, h⟩ := h
        refine Z_iast (zin_c (by decide) (by omega) (by decide) (by decide) b23) dX8_step_107 ?_
        obtain ⟨μ24, eμ24⟩ : ∃ z : zM, z = zu μ 143 (wr (μ 141 (wr x3))) (v20 + 1) := ⟨_, rfl⟩
        have h := h μ24 eμ24
        refine Z_mem eμ24 ?_
        refine Z_aload_n dX8_step_108 rfl ?_
        refine Z_gr (t := 143) zcX8 fl_X8_71 ⟨by decide, by omega⟩ rfl rfl rfl (by decide) (by decide) dX8_step_109 ?_
        refine Z_aload_n dX8_step_112 rfl ?_
        refine Z_gr (t := 142) zcX8 fl_X8_68 ⟨by decide, by omega⟩ rfl rfl rfl (by decide) (by decide) dX8_step_113 ?_
        refine Z_iload_n dX8_step_116 rfl ?_
        obtain ⟨b25, h⟩ := h
        refine Z_iald (zin_c (by decide) (by omega) (by decide) (by decide) b25) dX8_step_117 ?_
        refine Z_iload dX8_step_118 rfl ?_
        refine Z_iconst dX8_step_120 ?_
        refine Z_iadd dX8_step_121 ?_
        obtain ⟨b26, h⟩ := h
        refine Z_iast (zin_c (by decide) (by omega) (by decide) (by decide) b26) dX8_step_122 ?_
        obtain ⟨μ27, eμ27⟩ : ∃ z : zM, z = zu μ24 143 (wr (μ24 142 (wr x3))) (v20 + 1) := ⟨_, rfl⟩
        have h := h μ27 eμ27
        refine Z_mem eμ27 ?_
        refine Z_iload dX8_step_123 rfl ?_
        refine Z_iconst dX8_step_125 ?_
        refine Z_iadd dX8_step_126 ?_
        refine Z_iload_n dX8_step_127 rfl ?_
        refine Z_icmp_le (tgt := 138) dX8_step_128 (by decide) (fun c28 => ?_) (fun c28 => ?_)
        · have h := h.1 c28
          refine Z_iload_n dX8_step_138 rfl ?_
          refine Z_istore_n (lv2 := [some (Rv G 127), some (Iv x1), some (Iv x2), some (Iv x3), some (Iv v20)]) dX8_step_139 rfl (by decide) rfl ?_
          refine Z_iinc (lv2 := [some (Rv G 127), some (Iv x1), some (Iv x2), some (Iv (x3 + 1)), some (Iv v20)]) dX8_step_140 rfl rfl (by decide) rfl ?_
          refine Z_goto (tgt := 25) dX8_step_143 (by decide) ?_
          exact Z_cut h ⟨rfl, rfl, rfl, rfl, trivial, trivial⟩
        · have h := h.2 c28
          refine Z_iload dX8_step_131 rfl ?_
          refine Z_iconst dX8_step_133 ?_
          refine Z_iadd dX8_step_134 ?_
          refine Z_goto (tgt := 139) dX8_step_135 (by decide) ?_
          refine Z_istore_n (lv2 := [some (Rv G 127), some (Iv x1), some (Iv (v20 + 1)), some (Iv x3), some (Iv v20)]) dX8_step_139 rfl (by decide) rfl ?_
          refine Z_iinc (lv2 := [some (Rv G 127), some (Iv x1), some (Iv (v20 + 1)), some (Iv (x3 + 1)), some (Iv v20)]) dX8_step_140 rfl rfl (by decide) rfl ?_
          refine Z_goto (tgt := 25) dX8_step_143 (by decide) ?_
          exact Z_cut h ⟨rfl, rfl, rfl, rfl, trivial, trivial⟩
      · have h := h.2 c21
        refine Z_iload dX8_step_90 rfl ?_
        exact Z_ireturn dX8_step_92 ⟨_, rfl, h⟩
abbrev mX8_isComparer (G : zG) (n : Nat) (x1 : Int) (μ : zM) (K : Int → zM → Prop) : Prop := zMt G n 1 yX8_isComparer cX8_isComparer 2 (some .boolean) [Rv G 127, Iv x1] μ (zKi K)
abbrev pX8_isComparer (G : zG) (n : Nat) (K : Int → zM → Prop) (pc : Nat) (lv : List (Option Value)) (st : List Value) (μ : zM) : Prop := Z G (zrm 1 0 0) RX8 "isComparer" cX8_isComparer 2 (some .boolean) (zPh G n (zKi K)) 0 0 pc lv st (zE G n μ)
theorem eX8_isComparer {G : zG} {n : Nat} (hn : 154 ≤ n) {x1 : Int} {μ : zM} {K : Int → zM → Prop}
    (h : (((wr x1 < 0 → (K 0 μ)) ∧ (¬ (wr x1 < 0) → (((wr (μ 127 25) ≤ wr x1 → (K 0 μ)) ∧ (¬ (wr (μ 127 25) ≤ wr x1) → (K 1 μ)))))))) :
    mX8_isComparer G n x1 μ K := by
  refine zMt_of (lv := [some (Rv G 127), some (Iv x1)]) (by decide) rfl (Nat.le_of_ble_eq_true rfl) ?_
  show pX8_isComparer G n K 0 [some (Rv G 127), some (Iv x1)] [] μ
  refine Z_iload_n dX8_isComparer_0 rfl ?_
  refine Z_if_lt (tgt := 16) dX8_isComparer_1 (by decide) (fun c1 => ?_) (fun c1 => ?_)
  · have h := h.1 c1
    refine Z_iconst dX8_isComparer_16 ?_
    exact Z_zreturn dX8_isComparer_17 (by decide) ⟨_, rfl, h⟩
  · have h := h.2 c1
    refine Z_iload_n dX8_isComparer_4 rfl ?_
    refine Z_aload_n dX8_isComparer_5 rfl ?_
    refine Y_gi 25 zcX8 fl_X8_234 ⟨by decide, by omega⟩ rfl rfl rfl (by decide) dX8_isComparer_6 rfl ?_
    refine Z_icmp_ge (tgt := 16) dX8_isComparer_9 (by decide) (fun c2 => ?_) (fun c2 => ?_)
    · have h := h.1 c2
      refine Z_iconst dX8_isComparer_16 ?_
      exact Z_zreturn dX8_isComparer_17 (by decide) ⟨_, rfl, h⟩
    · have h := h.2 c2
      refine Z_iconst dX8_isComparer_12 ?_
      refine Z_goto (tgt := 17) dX8_isComparer_13 (by decide) ?_
      exact Z_zreturn dX8_isComparer_17 (by decide) ⟨_, rfl, h⟩
abbrev mX8_kindOf (G : zG) (n : Nat) (x1 : Int) (μ : zM) (K : Int → zM → Prop) : Prop := zMt G n 1 yX8_kindOf cX8_kindOf 2 (some .int) [Rv G 127, Iv x1] μ (zKi K)
abbrev pX8_kindOf (G : zG) (n : Nat) (K : Int → zM → Prop) (pc : Nat) (lv : List (Option Value)) (st : List Value) (μ : zM) : Prop := Z G (zrm 1 0 0) RX8 "kindOf" cX8_kindOf 2 (some .int) (zPh G n (zKi K)) 0 0 pc lv st (zE G n μ)
theorem eX8_kindOf {G : zG} {n : Nat} (hn : 154 ≤ n) {x1 : Int} {μ : zM} {K : Int → zM → Prop}
    (h : ((0 ≤ wr x1 ∧ wr x1 < 30) ∧ (0 ≤ wr x1 ∧ wr x1 < 30) ∧ ((wr (μ 141 (wr x1)) ≤ wr (μ 142 (wr x1)) → ((0 ≤ wr x1 ∧ wr x1 < 30) ∧ (0 ≤ wr x1 ∧ wr x1 < 30) ∧ ((wr ((μ 142 (wr x1)) - (μ 141 (wr x1))) ≤ wr 1 → (K 0 μ)) ∧ (¬ (wr ((μ 142 (wr x1)) - (μ 141 (wr x1))) ≤ wr 1) → (K 1 μ))))) ∧ (¬ (wr (μ 141 (wr x1)) ≤ wr (μ 142 (wr x1))) → (K 2 μ))))) :
    mX8_kindOf G n x1 μ K := by
  refine zMt_of (lv := [some (Rv G 127), some (Iv x1)]) (by decide) rfl (Nat.le_of_ble_eq_true rfl) ?_
  show pX8_kindOf G n K 0 [some (Rv G 127), some (Iv x1)] [] μ
  refine Z_aload_n dX8_kindOf_0 rfl ?_
  refine Z_gr (t := 141) zcX8 fl_X8_65 ⟨by decide, by omega⟩ rfl rfl rfl (by decide) (by decide) dX8_kindOf_1 ?_
  refine Z_iload_n dX8_kindOf_4 rfl ?_
  obtain ⟨b1, h⟩ := h
  refine Z_iald (zin_c (by decide) (by omega) (by decide) (by decide) b1) dX8_kindOf_5 ?_
  refine Z_aload_n dX8_kindOf_6 rfl ?_
  refine Z_gr (t := 142) zcX8 fl_X8_68 ⟨by decide, by omega⟩ rfl rfl rfl (by decide) (by decide) dX8_kindOf_7 ?_
  refine Z_iload_n dX8_kindOf_10 rfl ?_
  obtain ⟨b2, h⟩ := h
  refine Z_iald (zin_c (by decide) (by omega) (by decide) (by decide) b2) dX8_kindOf_11 ?_
  refine Z_icmp_le (tgt := 19) dX8_kindOf_12 (by decide) (fun c3 => ?_) (fun c3 => ?_)
  · have h := h.1 c3
    refine Z_aload_n dX8_kindOf_19 rfl ?_
    refine Z_gr (t := 142) zcX8 fl_X8_68 ⟨by decide, by omega⟩ rfl rfl rfl (by decide) (by decide) dX8_kindOf_20 ?_
    refine Z_iload_n dX8_kindOf_23 rfl ?_
    obtain ⟨b4, h⟩ := h
    refine Z_iald (zin_c (by decide) (by omega) (by decide) (by decide) b4) dX8_kindOf_24 ?_
    refine Z_aload_n dX8_kindOf_25 rfl ?_
    refine Z_gr (t := 141) zcX8 fl_X8_65 ⟨by decide, by omega⟩ rfl rfl rfl (by decide) (by decide) dX8_kindOf_26 ?_
    refine Z_iload_n dX8_kindOf_29 rfl ?_
    obtain ⟨b5, h⟩ := h
    refine Z_iald (zin_c (by decide) (by omega) (by decide) (by decide) b5) dX8_kindOf_30 ?_
    refine Z_isub dX8_kindOf_31 ?_
    refine Z_iconst dX8_kindOf_32 ?_
    refine Z_icmp_le (tgt := 40) dX8_kindOf_33 (by decide) (fun c6 => ?_) (fun c6 => ?_)
    · have h := h.1 c6
      refine Z_iconst dX8_kindOf_40 ?_
      exact Z_ireturn dX8_kindOf_41 ⟨_, rfl, h⟩
    · have h := h.2 c6
      refine Z_iconst dX8_kindOf_36 ?_
      refine Z_goto (tgt := 41) dX8_kindOf_37 (by decide) ?_
      exact Z_ireturn dX8_kindOf_41 ⟨_, rfl, h⟩
  · have h := h.2 c3
    refine Z_iconst dX8_kindOf_15 ?_
    refine Z_goto (tgt := 41) dX8_kindOf_16 (by decide) ?_
    exact Z_ireturn dX8_kindOf_41 ⟨_, rfl, h⟩
abbrev mX8_isPort (G : zG) (n : Nat) (x1 : Int) (μ : zM) (K : Int → zM → Prop) : Prop := zMt G n 1 yX8_isPort cX8_isPort 2 (some .boolean) [Rv G 127, Iv x1] μ (zKi K)
abbrev pX8_isPort (G : zG) (n : Nat) (K : Int → zM → Prop) (pc : Nat) (lv : List (Option Value)) (st : List Value) (μ : zM) : Prop := Z G (zrm 1 0 0) RX8 "isPort" cX8_isPort 2 (some .boolean) (zPh G n (zKi K)) 0 0 pc lv st (zE G n μ)
theorem eX8_isPort {G : zG} {n : Nat} (hn : 154 ≤ n) {x1 : Int} {μ : zM} {K : Int → zM → Prop}
    (h : (((wr x1 < 0 → (K 0 μ)) ∧ (¬ (wr x1 < 0) → (((wr (μ 127 30) ≤ wr x1 → (K 0 μ)) ∧ (¬ (wr (μ 127 30) ≤ wr x1) → (K 1 μ)))))))) :
    mX8_isPort G n x1 μ K := by
  refine zMt_of (lv := [some (Rv G 127), some (Iv x1)]) (by decide) rfl (Nat.le_of_ble_eq_true rfl) ?_
  show pX8_isPort G n K 0 [some (Rv G 127), some (Iv x1)] [] μ
  refine Z_iload_n dX8_isPort_0 rfl ?_
  refine Z_if_lt (tgt := 16) dX8_isPort_1 (by decide) (fun c1 => ?_) (fun c1 => ?_)
  · have h := h.1 c1
    refine Z_iconst dX8_isPort_16 ?_
    exact Z_zreturn dX8_isPort_17 (by decide) ⟨_, rfl, h⟩
  · have h := h.2 c1
    refine Z_iload_n dX8_isPort_4 rfl ?_
    refine Z_aload_n dX8_isPort_5 rfl ?_
    refine Y_gi 30 zcX8 fl_X8_77 ⟨by decide, by omega⟩ rfl rfl rfl (by decide) dX8_isPort_6 rfl ?_
    refine Z_icmp_ge (tgt := 16) dX8_isPort_9 (by decide) (fun c2 => ?_) (fun c2 => ?_)
    · have h := h.1 c2
      refine Z_iconst dX8_isPort_16 ?_
      exact Z_zreturn dX8_isPort_17 (by decide) ⟨_, rfl, h⟩
    · have h := h.2 c2
      refine Z_iconst dX8_isPort_12 ?_
      refine Z_goto (tgt := 17) dX8_isPort_13 (by decide) ?_
      exact Z_zreturn dX8_isPort_17 (by decide) ⟨_, rfl, h⟩
abbrev mX8_sumOf (G : zG) (n : Nat) (x1 x2 : Int) (μ : zM) (K : Int → zM → Prop) : Prop := zMt G n 1 yX8_sumOf cX8_sumOf 5 (some .int) [Rv G 127, Iv x1, Iv x2] μ (zKi K)
abbrev pX8_sumOf (G : zG) (n : Nat) (K : Int → zM → Prop) (pc : Nat) (lv : List (Option Value)) (st : List Value) (μ : zM) : Prop := Z G (zrm 1 0 0) RX8 "sumOf" cX8_sumOf 5 (some .int) (zPh G n (zKi K)) 0 0 pc lv st (zE G n μ)
theorem eX8_sumOf {G : zG} {n : Nat} (hn : 154 ≤ n) {x1 x2 : Int} {μ : zM} {K : Int → zM → Prop}
    (h : (pX8_sumOf G n K 5 [some (Rv G 127), some (Iv x1), some (Iv x2), some (Iv 0), some (Iv 0)] [] μ)) :
    mX8_sumOf G n x1 x2 μ K := by
  refine zMt_of (lv := [some (Rv G 127), some (Iv x1), some (Iv x2), none, none]) (by decide) rfl (Nat.le_of_ble_eq_true rfl) ?_
  show pX8_sumOf G n K 0 [some (Rv G 127), some (Iv x1), some (Iv x2), none, none] [] μ
  refine Z_iconst dX8_sumOf_0 ?_
  refine Z_istore_n (lv2 := [some (Rv G 127), some (Iv x1), some (Iv x2), some (Iv 0), none]) dX8_sumOf_1 rfl (by decide) rfl ?_
  refine Z_iconst dX8_sumOf_2 ?_
  refine Z_istore (lv2 := [some (Rv G 127), some (Iv x1), some (Iv x2), some (Iv 0), some (Iv 0)]) dX8_sumOf_3 rfl (by decide) rfl ?_
  exact Z_cut h ⟨rfl, rfl, rfl, rfl, rfl, trivial⟩
theorem bX8_sumOf_5 {G : zG} {n : Nat} (hn : 154 ≤ n) {x1 x2 x3 x4 : Int} {μ : zM} {K : Int → zM → Prop}
    (h : (((wr (μ 127 30) ≤ wr x4 → (K x3 μ)) ∧ (¬ (wr (μ 127 30) ≤ wr x4) → (((wr x1 = 0 → ((0 ≤ wr ((5 * x4) + x2) ∧ wr ((5 * x4) + x2) < 25) ∧ ∀ v4 : Int, v4 = x3 + (μ 146 (wr ((5 * x4) + x2))) → pX8_sumOf G n K 5 [some (Rv G 127), some (Iv x1), some (Iv x2), some (Iv v4), some (Iv (x4 + 1))] [] μ)) ∧ (¬ (wr x1 = 0) → ((0 ≤ wr ((5 * x2) + x4) ∧ wr ((5 * x2) + x4) < 25) ∧ ∀ v6 : Int, v6 = x3 + (μ 146 (wr ((5 * x2) + x4))) → pX8_sumOf G n K 5 [some (Rv G 127), some (Iv x1), some (Iv x2), some (Iv v6), some (Iv (x4 + 1))] [] μ)))))))) :
    pX8_sumOf G n K 5 [some (Rv G 127), some (Iv x1), some (Iv x2), some (Iv x3), some (Iv x4)] [] μ := by
  refine Z_iload dX8_sumOf_5 rfl ?_
  refine Z_aload_n dX8_sumOf_7 rfl ?_
  refine Y_gi 30 zcX8 fl_X8_77 ⟨by decide, by omega⟩ rfl rfl rfl (by decide) dX8_sumOf_8 rfl ?_
  refine Z_icmp_ge (tgt := 52) dX8_sumOf_11 (by decide) (fun c1 => ?_) (fun c1 => ?_)
  · have h := h.1 c1
    refine Z_iload_n dX8_sumOf_52 rfl ?_
    exact Z_ireturn dX8_sumOf_53 ⟨_, rfl, h⟩
  · have h := h.2 c1
    refine Z_iload_n dX8_sumOf_14 rfl ?_
    refine Z_iload_n dX8_sumOf_15 rfl ?_
    refine Z_if_eq (tgt := 33) dX8_sumOf_16 (by decide) (fun c2 => ?_) (fun c2 => ?_)
    · have h := h.1 c2
      refine Z_aload_n dX8_sumOf_33 rfl ?_
      refine Z_gr (t := 146) zcX8 fl_X8_83 ⟨by decide, by omega⟩ rfl rfl rfl (by decide) (by decide) dX8_sumOf_34 ?_
      refine Z_iconst dX8_sumOf_37 ?_
      refine Z_iload dX8_sumOf_38 rfl ?_
      refine Z_imul dX8_sumOf_40 ?_
      refine Z_iload_n dX8_sumOf_41 rfl ?_
      refine Z_iadd dX8_sumOf_42 ?_
      obtain ⟨b3, h⟩ := h
      refine Z_iald (zin_c (by decide) (by omega) (by decide) (by decide) b3) dX8_sumOf_43 ?_
      refine Z_iadd dX8_sumOf_44 ?_
      obtain ⟨v4, ev4⟩ : ∃ z : Int, z = x3 + (μ 146 (wr ((5 * x4) + x2))) := ⟨_, rfl⟩
      have h := h v4 ev4
      refine Z_nmi ev4 ?_
      refine Z_istore_n (lv2 := [some (Rv G 127), some (Iv x1), some (Iv x2), some (Iv v4), some (Iv x4)]) dX8_sumOf_45 rfl (by decide) rfl ?_
      refine Z_iinc (lv2 := [some (Rv G 127), some (Iv x1), some (Iv x2), some (Iv v4), some (Iv (x4 + 1))]) dX8_sumOf_46 rfl rfl (by decide) rfl ?_
      refine Z_goto (tgt := 5) dX8_sumOf_49 (by decide) ?_
      exact Z_cut h ⟨rfl, rfl, rfl, rfl, rfl, trivial⟩
    · have h := h.2 c2
      refine Z_aload_n dX8_sumOf_19 rfl ?_
      refine Z_gr (t := 146) zcX8 fl_X8_83 ⟨by decide, by omega⟩ rfl rfl rfl (by decide) (by decide) dX8_sumOf_20 ?_
      refine Z_iconst dX8_sumOf_23 ?_
      refine Z_iload_n dX8_sumOf_24 rfl ?_
      refine Z_imul dX8_sumOf_25 ?_
      refine Z_iload dX8_sumOf_26 rfl ?_
      refine Z_iadd dX8_sumOf_28 ?_
      obtain ⟨b5, h⟩ := h
      refine Z_iald (zin_c (by decide) (by omega) (by decide) (by decide) b5) dX8_sumOf_29 ?_
      refine Z_goto (tgt := 44) dX8_sumOf_30 (by decide) ?_
      refine Z_iadd dX8_sumOf_44 ?_
      obtain ⟨v6, ev6⟩ : ∃ z : Int, z = x3 + (μ 146 (wr ((5 * x2) + x4))) := ⟨_, rfl⟩
      have h := h v6 ev6
      refine Z_nmi ev6 ?_
      refine Z_istore_n (lv2 := [some (Rv G 127), some (Iv x1), some (Iv x2), some (Iv v6), some (Iv x4)]) dX8_sumOf_45 rfl (by decide) rfl ?_
      refine Z_iinc (lv2 := [some (Rv G 127), some (Iv x1), some (Iv x2), some (Iv v6), some (Iv (x4 + 1))]) dX8_sumOf_46 rfl rfl (by decide) rfl ?_
      refine Z_goto (tgt := 5) dX8_sumOf_49 (by decide) ?_
      exact Z_cut h ⟨rfl, rfl, rfl, rfl, rfl, trivial⟩
abbrev mX8_layLeft (G : zG) (n : Nat) (μ : zM) (K : zM → Prop) : Prop := zMt G n 1 yX8_layLeft cX8_layLeft 2 none [Rv G 127] μ (zKv K)
abbrev pX8_layLeft (G : zG) (n : Nat) (K : zM → Prop) (pc : Nat) (lv : List (Option Value)) (st : List Value) (μ : zM) : Prop := Z G (zrm 1 0 0) RX8 "layLeft" cX8_layLeft 2 none (zPh G n (zKv K)) 0 0 pc lv st (zE G n μ)
theorem eX8_layLeft {G : zG} {n : Nat} (hn : 154 ≤ n) {μ : zM} {K : zM → Prop}
    (h : (pX8_layLeft G n K 2 [some (Rv G 127), some (Iv 0)] [] μ)) :
    mX8_layLeft G n  μ K := by
  refine zMt_of (lv := [some (Rv G 127), none]) (by decide) rfl (Nat.le_of_ble_eq_true rfl) ?_
  show pX8_layLeft G n K 0 [some (Rv G 127), none] [] μ
  refine Z_iconst dX8_layLeft_0 ?_
  refine Z_istore_n (lv2 := [some (Rv G 127), some (Iv 0)]) dX8_layLeft_1 rfl (by decide) rfl ?_
  exact Z_cut h ⟨rfl, rfl, trivial⟩
theorem bX8_layLeft_2 {G : zG} {n : Nat} (hn : 154 ≤ n) {x1 : Int} {μ : zM} {K : zM → Prop}
    (h : (((wr 25 ≤ wr x1 → (K μ)) ∧ (¬ (wr 25 ≤ wr x1) → ((0 ≤ wr x1 ∧ wr x1 < 25) ∧ (0 ≤ wr x1 ∧ wr x1 < 25) ∧ ∀ μ4 : zM, μ4 = zu μ 146 (wr x1) (μ 145 (wr x1)) → pX8_layLeft G n K 2 [some (Rv G 127), some (Iv (x1 + 1))] [] μ4))))) :
    pX8_layLeft G n K 2 [some (Rv G 127), some (Iv x1)] [] μ := by
  refine Z_iload_n dX8_layLeft_2 rfl ?_
  refine Z_bipush dX8_layLeft_3 (by decide) ?_
  refine Z_icmp_ge (tgt := 26) dX8_layLeft_5 (by decide) (fun c1 => ?_) (fun c1 => ?_)
  · have h := h.1 c1
    exact Z_return dX8_layLeft_26 ⟨rfl, h⟩
  · have h := h.2 c1
    refine Z_aload_n dX8_layLeft_8 rfl ?_
    refine Z_gr (t := 146) zcX8 fl_X8_83 ⟨by decide, by omega⟩ rfl rfl rfl (by decide) (by decide) dX8_layLeft_9 ?_
    refine Z_iload_n dX8_layLeft_12 rfl ?_
    refine Z_aload_n dX8_layLeft_13 rfl ?_
    refine Z_gr (t := 145) zcX8 fl_X8_80 ⟨by decide, by omega⟩ rfl rfl rfl (by decide) (by decide) dX8_layLeft_14 ?_
    refine Z_iload_n dX8_layLeft_17 rfl ?_
    obtain ⟨b2, h⟩ := h
    refine Z_iald (zin_c (by decide) (by omega) (by decide) (by decide) b2) dX8_layLeft_18 ?_
    obtain ⟨b3, h⟩ := h
    refine Z_iast (zin_c (by decide) (by omega) (by decide) (by decide) b3) dX8_layLeft_19 ?_
    obtain ⟨μ4, eμ4⟩ : ∃ z : zM, z = zu μ 146 (wr x1) (μ 145 (wr x1)) := ⟨_, rfl⟩
    have h := h μ4 eμ4
    refine Z_mem eμ4 ?_
    refine Z_iinc (lv2 := [some (Rv G 127), some (Iv (x1 + 1))]) dX8_layLeft_20 rfl rfl (by decide) rfl ?_
    refine Z_goto (tgt := 2) dX8_layLeft_23 (by decide) ?_
    exact Z_cut h ⟨rfl, rfl, trivial⟩
abbrev mX8_isFree (G : zG) (n : Nat) (x1 : Int) (μ : zM) (K : Int → zM → Prop) : Prop := zMt G n 1 yX8_isFree cX8_isFree 3 (some .boolean) [Rv G 127, Iv x1] μ (zKi K)
abbrev pX8_isFree (G : zG) (n : Nat) (K : Int → zM → Prop) (pc : Nat) (lv : List (Option Value)) (st : List Value) (μ : zM) : Prop := Z G (zrm 1 0 0) RX8 "isFree" cX8_isFree 3 (some .boolean) (zPh G n (zKi K)) 0 0 pc lv st (zE G n μ)
theorem eX8_isFree {G : zG} {n : Nat} (hn : 154 ≤ n) {x1 : Int} {μ : zM} {K : Int → zM → Prop}
    (h : (pX8_isFree G n K 2 [some (Rv G 127), some (Iv x1), some (Iv 0)] [] μ)) :
    mX8_isFree G n x1 μ K := by
  refine zMt_of (lv := [some (Rv G 127), some (Iv x1), none]) (by decide) rfl (Nat.le_of_ble_eq_true rfl) ?_
  show pX8_isFree G n K 0 [some (Rv G 127), some (Iv x1), none] [] μ
  refine Z_iconst dX8_isFree_0 ?_
  refine Z_istore_n (lv2 := [some (Rv G 127), some (Iv x1), some (Iv 0)]) dX8_isFree_1 rfl (by decide) rfl ?_
  exact Z_cut h ⟨rfl, rfl, rfl, trivial⟩
theorem bX8_isFree_2 {G : zG} {n : Nat} (hn : 154 ≤ n) {x1 x2 : Int} {μ : zM} {K : Int → zM → Prop}
    (h : (((wr x1 ≤ wr x2 → (K 1 μ)) ∧ (¬ (wr x1 ≤ wr x2) → ((0 ≤ wr x2 ∧ wr x2 < 5) ∧ (0 ≤ wr x1 ∧ wr x1 < 5) ∧ ((¬ wr (μ 150 (wr x2)) = wr (μ 150 (wr x1)) → (pX8_isFree G n K 2 [some (Rv G 127), some (Iv x1), some (Iv (x2 + 1))] [] μ)) ∧ (wr (μ 150 (wr x2)) = wr (μ 150 (wr x1)) → (K 0 μ)))))))) :
    pX8_isFree G n K 2 [some (Rv G 127), some (Iv x1), some (Iv x2)] [] μ := by
  refine Z_iload_n dX8_isFree_2 rfl ?_
  refine Z_iload_n dX8_isFree_3 rfl ?_
  refine Z_icmp_ge (tgt := 30) dX8_isFree_4 (by decide) (fun c1 => ?_) (fun c1 => ?_)
  · have h := h.1 c1
    refine Z_iconst dX8_isFree_30 ?_
    exact Z_zreturn dX8_isFree_31 (by decide) ⟨_, rfl, h⟩
  · have h := h.2 c1
    refine Z_aload_n dX8_isFree_7 rfl ?_
    refine Z_gr (t := 150) zcX8 fl_X8_95 ⟨by decide, by omega⟩ rfl rfl rfl (by decide) (by decide) dX8_isFree_8 ?_
    refine Z_iload_n dX8_isFree_11 rfl ?_
    obtain ⟨b2, h⟩ := h
    refine Z_iald (zin_c (by decide) (by omega) (by decide) (by decide) b2) dX8_isFree_12 ?_
    refine Z_aload_n dX8_isFree_13 rfl ?_
    refine Z_gr (t := 150) zcX8 fl_X8_95 ⟨by decide, by omega⟩ rfl rfl rfl (by decide) (by decide) dX8_isFree_14 ?_
    refine Z_iload_n dX8_isFree_17 rfl ?_
    obtain ⟨b3, h⟩ := h
    refine Z_iald (zin_c (by decide) (by omega) (by decide) (by decide) b3) dX8_isFree_18 ?_
    refine Z_icmp_ne (tgt := 24) dX8_isFree_19 (by decide) (fun c4 => ?_) (fun c4 => ?_)
    · have h := h.1 c4
      refine Z_iinc (lv2 := [some (Rv G 127), some (Iv x1), some (Iv (x2 + 1))]) dX8_isFree_24 rfl rfl (by decide) rfl ?_
      refine Z_goto (tgt := 2) dX8_isFree_27 (by decide) ?_
      exact Z_cut h ⟨rfl, rfl, rfl, trivial⟩
    · have h := h.2 c4
      refine Z_iconst dX8_isFree_22 ?_
      exact Z_zreturn dX8_isFree_23 (by decide) ⟨_, rfl, h⟩
abbrev mX8_begin (G : zG) (n : Nat) (μ : zM) (K : zM → Prop) : Prop := zMt G n 1 yX8_begin cX8_begin 1 none [Rv G 127] μ (zKv K)
abbrev pX8_begin (G : zG) (n : Nat) (K : zM → Prop) (pc : Nat) (lv : List (Option Value)) (st : List Value) (μ : zM) : Prop := Z G (zrm 1 0 0) RX8 "begin" cX8_begin 1 none (zPh G n (zKv K)) 0 0 pc lv st (zE G n μ)
theorem eX8_begin {G : zG} {n : Nat} (hn : 154 ≤ n) {μ : zM} {K : zM → Prop}
    (h : (∀ μ1 : zM, μ1 = zu μ 127 38 0 → (0 ≤ wr 0 ∧ wr 0 < 5) ∧ ∀ μ3 : zM, μ3 = zu μ1 150 (wr 0) ((-1)) → K μ3)) :
    mX8_begin G n  μ K := by
  refine zMt_of (lv := [some (Rv G 127)]) (by decide) rfl (Nat.le_of_ble_eq_true rfl) ?_
  show pX8_begin G n K 0 [some (Rv G 127)] [] μ
  refine Z_aload_n dX8_begin_0 rfl ?_
  refine Z_iconst dX8_begin_1 ?_
  refine Y_pi 38 zcX8 fk_X8_271 ⟨by decide, by omega⟩ rfl rfl rfl (by decide) rfl (tyX8_ok 38 (by decide)) dX8_begin_2 rfl ?_
  obtain ⟨μ1, eμ1⟩ : ∃ z : zM, z = zu μ 127 38 0 := ⟨_, rfl⟩
  have h := h μ1 eμ1
  refine Z_mem eμ1 ?_
  refine Z_aload_n dX8_begin_5 rfl ?_
  refine Z_gr (t := 150) zcX8 fl_X8_95 ⟨by decide, by omega⟩ rfl rfl rfl (by decide) (by decide) dX8_begin_6 ?_
  refine Z_iconst dX8_begin_9 ?_
  refine Z_iconst dX8_begin_10 ?_
  obtain ⟨b2, h⟩ := h
  refine Z_iast (zin_c (by decide) (by omega) (by decide) (by decide) b2) dX8_begin_11 ?_
  obtain ⟨μ3, eμ3⟩ : ∃ z : zM, z = zu μ1 150 (wr 0) ((-1)) := ⟨_, rfl⟩
  have h := h μ3 eμ3
  refine Z_mem eμ3 ?_
  exact Z_return dX8_begin_12 ⟨rfl, h⟩
abbrev mX8_isMatched (G : zG) (n : Nat) (x1 : Int) (μ : zM) (K : Int → zM → Prop) : Prop := zMt G n 1 yX8_isMatched cX8_isMatched 3 (some .boolean) [Rv G 127, Iv x1] μ (zKi K)
abbrev pX8_isMatched (G : zG) (n : Nat) (K : Int → zM → Prop) (pc : Nat) (lv : List (Option Value)) (st : List Value) (μ : zM) : Prop := Z G (zrm 1 0 0) RX8 "isMatched" cX8_isMatched 3 (some .boolean) (zPh G n (zKi K)) 0 0 pc lv st (zE G n μ)
theorem eX8_isMatched {G : zG} {n : Nat} (hn : 154 ≤ n) {x1 : Int} {μ : zM} {K : Int → zM → Prop}
    (h : (pX8_isMatched G n K 2 [some (Rv G 127), some (Iv x1), some (Iv 0)] [] μ)) :
    mX8_isMatched G n x1 μ K := by
  refine zMt_of (lv := [some (Rv G 127), some (Iv x1), none]) (by decide) rfl (Nat.le_of_ble_eq_true rfl) ?_
  show pX8_isMatched G n K 0 [some (Rv G 127), some (Iv x1), none] [] μ
  refine Z_iconst dX8_isMatched_0 ?_
  refine Z_istore_n (lv2 := [some (Rv G 127), some (Iv x1), some (Iv 0)]) dX8_isMatched_1 rfl (by decide) rfl ?_
  exact Z_cut h ⟨rfl, rfl, rfl, trivial⟩
theorem bX8_isMatched_2 {G : zG} {n : Nat} (hn : 154 ≤ n) {x1 x2 : Int} {μ : zM} {K : Int → zM → Prop}
    (h : (((wr (μ 127 30) ≤ wr x2 → (K 0 μ)) ∧ (¬ (wr (μ 127 30) ≤ wr x2) → ((0 ≤ wr x2 ∧ wr x2 < 5) ∧ ((¬ wr (μ 151 (wr x2)) = wr x1 → (pX8_isMatched G n K 2 [some (Rv G 127), some (Iv x1), some (Iv (x2 + 1))] [] μ)) ∧ (wr (μ 151 (wr x2)) = wr x1 → (K 1 μ)))))))) :
    pX8_isMatched G n K 2 [some (Rv G 127), some (Iv x1), some (Iv x2)] [] μ := by
  refine Z_iload_n dX8_isMatched_2 rfl ?_
  refine Z_aload_n dX8_isMatched_3 rfl ?_
  refine Y_gi 30 zcX8 fl_X8_77 ⟨by decide, by omega⟩ rfl rfl rfl (by decide) dX8_isMatched_4 rfl ?_
  refine Z_icmp_ge (tgt := 28) dX8_isMatched_7 (by decide) (fun c1 => ?_) (fun c1 => ?_)
  · have h := h.1 c1
    refine Z_iconst dX8_isMatched_28 ?_
    exact Z_zreturn dX8_isMatched_29 (by decide) ⟨_, rfl, h⟩
  · have h := h.2 c1
    refine Z_aload_n dX8_isMatched_10 rfl ?_
    refine Z_gr (t := 151) zcX8 fl_X8_98 ⟨by decide, by omega⟩ rfl rfl rfl (by decide) (by decide) dX8_isMatched_11 ?_
    refine Z_iload_n dX8_isMatched_14 rfl ?_
    obtain ⟨b2, h⟩ := h
    refine Z_iald (zin_c (by decide) (by omega) (by decide) (by decide) b2) dX8_isMatched_15 ?_
    refine Z_iload_n dX8_isMatched_16 rfl ?_
    refine Z_icmp_ne (tgt := 22) dX8_isMatched_17 (by decide) (fun c3 => ?_) (fun c3 => ?_)
    · have h := h.1 c3
      refine Z_iinc (lv2 := [some (Rv G 127), some (Iv x1), some (Iv (x2 + 1))]) dX8_isMatched_22 rfl rfl (by decide) rfl ?_
      refine Z_goto (tgt := 2) dX8_isMatched_25 (by decide) ?_
      exact Z_cut h ⟨rfl, rfl, rfl, trivial⟩
    · have h := h.2 c3
      refine Z_iconst dX8_isMatched_20 ?_
      exact Z_zreturn dX8_isMatched_21 (by decide) ⟨_, rfl, h⟩
abbrev mX8_takenBy (G : zG) (n : Nat) (x1 : Int) (μ : zM) (K : Int → zM → Prop) : Prop := zMt G n 1 yX8_takenBy cX8_takenBy 4 (some .int) [Rv G 127, Iv x1] μ (zKi K)
abbrev pX8_takenBy (G : zG) (n : Nat) (K : Int → zM → Prop) (pc : Nat) (lv : List (Option Value)) (st : List Value) (μ : zM) : Prop := Z G (zrm 1 0 0) RX8 "takenBy" cX8_takenBy 4 (some .int) (zPh G n (zKi K)) 0 0 pc lv st (zE G n μ)
theorem eX8_takenBy {G : zG} {n : Nat} (hn : 154 ≤ n) {x1 : Int} {μ : zM} {K : Int → zM → Prop}
    (h : (pX8_takenBy G n K 2 [some (Rv G 127), some (Iv x1), some (Iv 0), none] [] μ)) :
    mX8_takenBy G n x1 μ K := by
  refine zMt_of (lv := [some (Rv G 127), some (Iv x1), none, none]) (by decide) rfl (Nat.le_of_ble_eq_true rfl) ?_
  show pX8_takenBy G n K 0 [some (Rv G 127), some (Iv x1), none, none] [] μ
  refine Z_iconst dX8_takenBy_0 ?_
  refine Z_istore_n (lv2 := [some (Rv G 127), some (Iv x1), some (Iv 0), none]) dX8_takenBy_1 rfl (by decide) rfl ?_
  exact Z_cut h ⟨rfl, rfl, rfl, trivial, trivial⟩
theorem bX8_takenBy_2 {G : zG} {n : Nat} (hn : 154 ≤ n) {x1 x2 : Int} {μ : zM} {K : Int → zM → Prop}
    (h : (((wr (μ 127 30) ≤ wr x2 → (K ((-9)) μ)) ∧ (¬ (wr (μ 127 30) ≤ wr x2) → ((0 ≤ wr x1 ∧ wr x1 < 5) ∧ wr (μ 127 30) ≠ 0 ∧ ∀ v4 : Int, v4 = zrem ((μ 149 (wr x1)) + x2) (μ 127 30) → (0 ≤ wr v4 ∧ wr v4 < 5) ∧ ((¬ wr (μ 151 (wr v4)) = wr ((-9)) → (pX8_takenBy G n K 2 [some (Rv G 127), some (Iv x1), some (Iv (x2 + 1)), none] [] μ)) ∧ (wr (μ 151 (wr v4)) = wr ((-9)) → ((0 ≤ wr ((5 * v4) + x1) ∧ wr ((5 * v4) + x1) < 25) ∧ ((wr (μ 147 (wr ((5 * v4) + x1))) ≤ 0 → (pX8_takenBy G n K 2 [some (Rv G 127), some (Iv x1), some (Iv (x2 + 1)), none] [] μ)) ∧ (¬ (wr (μ 147 (wr ((5 * v4) + x1))) ≤ 0) → (K v4 μ))))))))))) :
    pX8_takenBy G n K 2 [some (Rv G 127), some (Iv x1), some (Iv x2), none] [] μ := by
  refine Z_iload_n dX8_takenBy_2 rfl ?_
  refine Z_aload_n dX8_takenBy_3 rfl ?_
  refine Y_gi 30 zcX8 fl_X8_77 ⟨by decide, by omega⟩ rfl rfl rfl (by decide) dX8_takenBy_4 rfl ?_
  refine Z_icmp_ge (tgt := 56) dX8_takenBy_7 (by decide) (fun c1 => ?_) (fun c1 => ?_)
  · have h := h.1 c1
    refine Z_bipush dX8_takenBy_56 (by decide) ?_
    exact Z_ireturn dX8_takenBy_58 ⟨_, rfl, h⟩
  · have h := h.2 c1
    refine Z_aload_n dX8_takenBy_10 rfl ?_
    refine Z_gr (t := 149) zcX8 fl_X8_92 ⟨by decide, by omega⟩ rfl rfl rfl (by decide) (by decide) dX8_takenBy_11 ?_
    refine Z_iload_n dX8_takenBy_14 rfl ?_
    obtain ⟨b2, h⟩ := h
    refine Z_iald (zin_c (by decide) (by omega) (by decide) (by decide) b2) dX8_takenBy_15 ?_
    refine Z_iload_n dX8_takenBy_16 rfl ?_
    refine Z_iadd dX8_takenBy_17 ?_
    refine Z_aload_n dX8_takenBy_18 rfl ?_
    refine Y_gi 30 zcX8 fl_X8_77 ⟨by decide, by omega⟩ rfl rfl rfl (by decide) dX8_takenBy_19 rfl ?_
    obtain ⟨b3, h⟩ := h
    refine Z_irem dX8_takenBy_22 b3 ?_
    obtain ⟨v4, ev4⟩ : ∃ z : Int, z = zrem ((μ 149 (wr x1)) + x2) (μ 127 30) := ⟨_, rfl⟩
    have h := h v4 ev4
    refine Z_nmi ev4 ?_
    refine Z_istore_n (lv2 := [some (Rv G 127), some (Iv x1), some (Iv x2), some (Iv v4)]) dX8_takenBy_23 rfl (by decide) rfl ?_
    refine Z_aload_n dX8_takenBy_24 rfl ?_
    refine Z_gr (t := 151) zcX8 fl_X8_98 ⟨by decide, by omega⟩ rfl rfl rfl (by decide) (by decide) dX8_takenBy_25 ?_
    refine Z_iload_n dX8_takenBy_28 rfl ?_
    obtain ⟨b5, h⟩ := h
    refine Z_iald (zin_c (by decide) (by omega) (by decide) (by decide) b5) dX8_takenBy_29 ?_
    refine Z_bipush dX8_takenBy_30 (by decide) ?_
    refine Z_icmp_ne (tgt := 50) dX8_takenBy_32 (by decide) (fun c6 => ?_) (fun c6 => ?_)
    · have h := h.1 c6
      refine Z_iinc (lv2 := [some (Rv G 127), some (Iv x1), some (Iv (x2 + 1)), some (Iv v4)]) dX8_takenBy_50 rfl rfl (by decide) rfl ?_
      refine Z_goto (tgt := 2) dX8_takenBy_53 (by decide) ?_
      exact Z_cut h ⟨rfl, rfl, rfl, trivial, trivial⟩
    · have h := h.2 c6
      refine Z_aload_n dX8_takenBy_35 rfl ?_
      refine Z_gr (t := 147) zcX8 fl_X8_86 ⟨by decide, by omega⟩ rfl rfl rfl (by decide) (by decide) dX8_takenBy_36 ?_
      refine Z_iconst dX8_takenBy_39 ?_
      refine Z_iload_n dX8_takenBy_40 rfl ?_
      refine Z_imul dX8_takenBy_41 ?_
      refine Z_iload_n dX8_takenBy_42 rfl ?_
      refine Z_iadd dX8_takenBy_43 ?_
      obtain ⟨b7, h⟩ := h
      refine Z_iald (zin_c (by decide) (by omega) (by decide) (by decide) b7) dX8_takenBy_44 ?_
      refine Z_if_le (tgt := 50) dX8_takenBy_45 (by decide) (fun c8 => ?_) (fun c8 => ?_)
      · have h := h.1 c8
        refine Z_iinc (lv2 := [some (Rv G 127), some (Iv x1), some (Iv (x2 + 1)), some (Iv v4)]) dX8_takenBy_50 rfl rfl (by decide) rfl ?_
        refine Z_goto (tgt := 2) dX8_takenBy_53 (by decide) ?_
        exact Z_cut h ⟨rfl, rfl, rfl, trivial, trivial⟩
      · have h := h.2 c8
        refine Z_iload_n dX8_takenBy_48 rfl ?_
        exact Z_ireturn dX8_takenBy_49 ⟨_, rfl, h⟩
abbrev mX8_waiting (G : zG) (n : Nat) (μ : zM) (K : Int → zM → Prop) : Prop := zMt G n 1 yX8_waiting cX8_waiting 3 (some .int) [Rv G 127] μ (zKi K)
abbrev pX8_waiting (G : zG) (n : Nat) (K : Int → zM → Prop) (pc : Nat) (lv : List (Option Value)) (st : List Value) (μ : zM) : Prop := Z G (zrm 1 0 0) RX8 "waiting" cX8_waiting 3 (some .int) (zPh G n (zKi K)) 0 0 pc lv st (zE G n μ)
theorem eX8_waiting {G : zG} {n : Nat} (hn : 154 ≤ n) {μ : zM} {K : Int → zM → Prop}
    (h : (pX8_waiting G n K 4 [some (Rv G 127), some (Iv 0), some (Iv 0)] [] μ)) :
    mX8_waiting G n  μ K := by
  refine zMt_of (lv := [some (Rv G 127), none, none]) (by decide) rfl (Nat.le_of_ble_eq_true rfl) ?_
  show pX8_waiting G n K 0 [some (Rv G 127), none, none] [] μ
  refine Z_iconst dX8_waiting_0 ?_
  refine Z_istore_n (lv2 := [some (Rv G 127), some (Iv 0), none]) dX8_waiting_1 rfl (by decide) rfl ?_
  refine Z_iconst dX8_waiting_2 ?_
  refine Z_istore_n (lv2 := [some (Rv G 127), some (Iv 0), some (Iv 0)]) dX8_waiting_3 rfl (by decide) rfl ?_
  exact Z_cut h ⟨rfl, rfl, rfl, trivial⟩
theorem bX8_waiting_4 {G : zG} {n : Nat} (hn : 154 ≤ n) {x1 x2 : Int} {μ : zM} {K : Int → zM → Prop}
    (h : (((wr 25 ≤ wr x2 → (K x1 μ)) ∧ (¬ (wr 25 ≤ wr x2) → ((0 ≤ wr x2 ∧ wr x2 < 25) ∧ ∀ v3 : Int, v3 = x1 + (μ 147 (wr x2)) → pX8_waiting G n K 4 [some (Rv G 127), some (Iv v3), some (Iv (x2 + 1))] [] μ))))) :
    pX8_waiting G n K 4 [some (Rv G 127), some (Iv x1), some (Iv x2)] [] μ := by
  refine Z_iload_n dX8_waiting_4 rfl ?_
  refine Z_bipush dX8_waiting_5 (by decide) ?_
  refine Z_icmp_ge (tgt := 25) dX8_waiting_7 (by decide) (fun c1 => ?_) (fun c1 => ?_)
  · have h := h.1 c1
    refine Z_iload_n dX8_waiting_25 rfl ?_
    exact Z_ireturn dX8_waiting_26 ⟨_, rfl, h⟩
  · have h := h.2 c1
    refine Z_iload_n dX8_waiting_10 rfl ?_
    refine Z_aload_n dX8_waiting_11 rfl ?_
    refine Z_gr (t := 147) zcX8 fl_X8_86 ⟨by decide, by omega⟩ rfl rfl rfl (by decide) (by decide) dX8_waiting_12 ?_
    refine Z_iload_n dX8_waiting_15 rfl ?_
    obtain ⟨b2, h⟩ := h
    refine Z_iald (zin_c (by decide) (by omega) (by decide) (by decide) b2) dX8_waiting_16 ?_
    refine Z_iadd dX8_waiting_17 ?_
    obtain ⟨v3, ev3⟩ : ∃ z : Int, z = x1 + (μ 147 (wr x2)) := ⟨_, rfl⟩
    have h := h v3 ev3
    refine Z_nmi ev3 ?_
    refine Z_istore_n (lv2 := [some (Rv G 127), some (Iv v3), some (Iv x2)]) dX8_waiting_18 rfl (by decide) rfl ?_
    refine Z_iinc (lv2 := [some (Rv G 127), some (Iv v3), some (Iv (x2 + 1))]) dX8_waiting_19 rfl rfl (by decide) rfl ?_
    refine Z_goto (tgt := 4) dX8_waiting_22 (by decide) ?_
    exact Z_cut h ⟨rfl, rfl, rfl, trivial⟩
abbrev mX8_begins (G : zG) (n : Nat) (x1 : Int) (μ : zM) (K : zM → Prop) : Prop := zMt G n 1 yX8_begins cX8_begins 2 none [Rv G 127, Iv x1] μ (zKv K)
abbrev pX8_begins (G : zG) (n : Nat) (K : zM → Prop) (pc : Nat) (lv : List (Option Value)) (st : List Value) (μ : zM) : Prop := Z G (zrm 1 0 0) RX8 "begins" cX8_begins 2 none (zPh G n (zKv K)) 0 0 pc lv st (zE G n μ)
theorem eX8_begins {G : zG} {n : Nat} (hn : 154 ≤ n) {x1 : Int} {μ : zM} {K : zM → Prop}
    (h : (∀ μ1 : zM, μ1 = zu μ 127 1 ((31 * (μ 127 1)) + x1) → K μ1)) :
    mX8_begins G n x1 μ K := by
  refine zMt_of (lv := [some (Rv G 127), some (Iv x1)]) (by decide) rfl (Nat.le_of_ble_eq_true rfl) ?_
  show pX8_begins G n K 0 [some (Rv G 127), some (Iv x1)] [] μ
  refine Z_aload_n dX8_begins_0 rfl ?_
  refine Z_bipush dX8_begins_1 (by decide) ?_
  refine Z_aload_n dX8_begins_3 rfl ?_
  refine Y_gi 1 zcX8 fl_X8_312 ⟨by decide, by omega⟩ rfl rfl rfl (by decide) dX8_begins_4 rfl ?_
  refine Z_imul dX8_begins_7 ?_
  refine Z_iload_n dX8_begins_8 rfl ?_
  refine Z_iadd dX8_begins_9 ?_
  refine Y_pi 1 zcX8 fk_X8_312 ⟨by decide, by omega⟩ rfl rfl rfl (by decide) rfl (tyX8_ok 1 (by decide)) dX8_begins_10 rfl ?_
  obtain ⟨μ1, eμ1⟩ : ∃ z : zM, z = zu μ 127 1 ((31 * (μ 127 1)) + x1) := ⟨_, rfl⟩
  have h := h μ1 eμ1
  refine Z_mem eμ1 ?_
  exact Z_return dX8_begins_13 ⟨rfl, h⟩
abbrev mX8_trace (G : zG) (n : Nat) (μ : zM) (K : Int → zM → Prop) : Prop := zMt G n 1 yX8_trace cX8_trace 1 (some .int) [Rv G 127] μ (zKi K)
abbrev pX8_trace (G : zG) (n : Nat) (K : Int → zM → Prop) (pc : Nat) (lv : List (Option Value)) (st : List Value) (μ : zM) : Prop := Z G (zrm 1 0 0) RX8 "trace" cX8_trace 1 (some .int) (zPh G n (zKi K)) 0 0 pc lv st (zE G n μ)
theorem eX8_trace {G : zG} {n : Nat} (hn : 154 ≤ n) {μ : zM} {K : Int → zM → Prop}
    (h : (K (μ 127 1) μ)) :
    mX8_trace G n  μ K := by
  refine zMt_of (lv := [some (Rv G 127)]) (by decide) rfl (Nat.le_of_ble_eq_true rfl) ?_
  show pX8_trace G n K 0 [some (Rv G 127)] [] μ
  refine Z_aload_n dX8_trace_0 rfl ?_
  refine Y_gi 1 zcX8 fl_X8_312 ⟨by decide, by omega⟩ rfl rfl rfl (by decide) dX8_trace_1 rfl ?_
  exact Z_ireturn dX8_trace_4 ⟨_, rfl, h⟩
abbrev mX8_fault (G : zG) (n : Nat) (μ : zM) (K : Int → zM → Prop) : Prop := zMt G n 1 yX8_fault cX8_fault 1 (some .int) [Rv G 127] μ (zKi K)
abbrev pX8_fault (G : zG) (n : Nat) (K : Int → zM → Prop) (pc : Nat) (lv : List (Option Value)) (st : List Value) (μ : zM) : Prop := Z G (zrm 1 0 0) RX8 "fault" cX8_fault 1 (some .int) (zPh G n (zKi K)) 0 0 pc lv st (zE G n μ)
theorem eX8_fault {G : zG} {n : Nat} (hn : 154 ≤ n) {μ : zM} {K : Int → zM → Prop}
    (h : (K (μ 127 0) μ)) :
    mX8_fault G n  μ K := by
  refine zMt_of (lv := [some (Rv G 127)]) (by decide) rfl (Nat.le_of_ble_eq_true rfl) ?_
  show pX8_fault G n K 0 [some (Rv G 127)] [] μ
  refine Z_aload_n dX8_fault_0 rfl ?_
  refine Y_gi 0 zcX8 fl_X8_107 ⟨by decide, by omega⟩ rfl rfl rfl (by decide) dX8_fault_1 rfl ?_
  exact Z_ireturn dX8_fault_4 ⟨_, rfl, h⟩
abbrev mX8_isLine (G : zG) (n : Nat) (x1 : Int) (μ : zM) (K : Int → zM → Prop) : Prop := zMt G n 2 yX8_isLine cX8_isLine 2 (some .boolean) [Rv G 127, Iv x1] μ (zKi K)
abbrev pX8_isLine (G : zG) (n : Nat) (K : Int → zM → Prop) (pc : Nat) (lv : List (Option Value)) (st : List Value) (μ : zM) : Prop := Z G (zrm 2 0 0) RX8 "isLine" cX8_isLine 2 (some .boolean) (zPh G n (zKi K)) 0 0 pc lv st (zE G n μ)
theorem eX8_isLine {G : zG} {n : Nat} (hn : 154 ≤ n) {x1 : Int} {μ : zM} {K : Int → zM → Prop}
    (h : (((wr x1 < 0 → (K 0 μ)) ∧ (¬ (wr x1 < 0) → (mX8_lines G n  μ (fun r2 μ3 => ((wr r2 ≤ wr x1 → (K 0 μ3)) ∧ (¬ (wr r2 ≤ wr x1) → (K 1 μ3))))))))) :
    mX8_isLine G n x1 μ K := by
  refine zMt_of (lv := [some (Rv G 127), some (Iv x1)]) (by decide) rfl (Nat.le_of_ble_eq_true rfl) ?_
  show pX8_isLine G n K 0 [some (Rv G 127), some (Iv x1)] [] μ
  refine Z_iload_n dX8_isLine_0 rfl ?_
  refine Z_if_lt (tgt := 16) dX8_isLine_1 (by decide) (fun c1 => ?_) (fun c1 => ?_)
  · have h := h.1 c1
    refine Z_iconst dX8_isLine_16 ?_
    exact Z_zreturn dX8_isLine_17 (by decide) ⟨_, rfl, h⟩
  · have h := h.2 c1
    refine Z_iload_n dX8_isLine_4 rfl ?_
    refine Z_aload_n dX8_isLine_5 rfl ?_
    refine Z_callVi h md_X8_lines sv_X8_lines lk_X8_112 zcX8 rfl ⟨by decide, by omega⟩ rfl rfl rfl rfl (Nat.le_of_ble_eq_true rfl) dX8_isLine_6 ⟨by decide, Nat.le_of_ble_eq_true rfl⟩ ⟨Nat.zero_le _, Nat.zero_le _⟩ ?_
    intro r2 μ3 h
    refine Z_icmp_ge (tgt := 16) dX8_isLine_9 (by decide) (fun c4 => ?_) (fun c4 => ?_)
    · have h := h.1 c4
      refine Z_iconst dX8_isLine_16 ?_
      exact Z_zreturn dX8_isLine_17 (by decide) ⟨_, rfl, h⟩
    · have h := h.2 c4
      refine Z_iconst dX8_isLine_12 ?_
      refine Z_goto (tgt := 17) dX8_isLine_13 (by decide) ?_
      exact Z_zreturn dX8_isLine_17 (by decide) ⟨_, rfl, h⟩
abbrev mX8_net (G : zG) (n : Nat) (x1 x2 x3 : Int) (μ : zM) (K : Int → zM → Prop) : Prop := zMt G n 2 yX8_net cX8_net 5 (some .int) [Rv G 127, Iv x1, Iv x2, Iv x3] μ (zKi K)
abbrev pX8_net (G : zG) (n : Nat) (K : Int → zM → Prop) (pc : Nat) (lv : List (Option Value)) (st : List Value) (μ : zM) : Prop := Z G (zrm 2 0 0) RX8 "net" cX8_net 5 (some .int) (zPh G n (zKi K)) 0 0 pc lv st (zE G n μ)
theorem eX8_net {G : zG} {n : Nat} (hn : 154 ≤ n) {x1 x2 x3 : Int} {μ : zM} {K : Int → zM → Prop}
    (h : (mX8_within G n x1 1 5 μ (fun r1 μ2 => ((wr r1 = 0 → (K ((-2)) μ2)) ∧ (¬ (wr r1 = 0) → (mX8_within G n x2 1 4 μ2 (fun r4 μ5 => ((wr r4 = 0 → (K ((-2)) μ5)) ∧ (¬ (wr r4 = 0) → (mX8_within G n x3 1 7 μ5 (fun r7 μ8 => ((¬ wr r7 = 0 → (∀ μ10 : zM, μ10 = zu μ8 127 2 x1 → ∀ μ11 : zM, μ11 = zu μ10 127 3 x2 → ∀ μ12 : zM, μ12 = zu μ11 127 4 x3 → pX8_net G n K 49 [some (Rv G 127), none, none, none, some (Iv 0)] [] μ12)) ∧ (wr r7 = 0 → (K ((-2)) μ8)))))))))))))) :
    mX8_net G n x1 x2 x3 μ K := by
  refine zMt_of (lv := [some (Rv G 127), some (Iv x1), some (Iv x2), some (Iv x3), none]) (by decide) rfl (Nat.le_of_ble_eq_true rfl) ?_
  show pX8_net G n K 0 [some (Rv G 127), some (Iv x1), some (Iv x2), some (Iv x3), none] [] μ
  refine Z_iload_n dX8_net_0 rfl ?_
  refine Z_iconst dX8_net_1 ?_
  refine Z_iconst dX8_net_2 ?_
  refine Z_callSi h md_X8_within sv_X8_within lk_X8_116 rfl rfl (Nat.le_of_ble_eq_true rfl) dX8_net_3 ⟨by decide, Nat.le_of_ble_eq_true rfl⟩ ⟨Nat.zero_le _, Nat.zero_le _⟩ ?_
  intro r1 μ2 h
  refine Z_if_eq (tgt := 28) dX8_net_6 (by decide) (fun c3 => ?_) (fun c3 => ?_)
  · have h := h.1 c3
    refine Z_bipush dX8_net_28 (by decide) ?_
    exact Z_ireturn dX8_net_30 ⟨_, rfl, h⟩
  · have h := h.2 c3
    refine Z_iload_n dX8_net_9 rfl ?_
    refine Z_iconst dX8_net_10 ?_
    refine Z_iconst dX8_net_11 ?_
    refine Z_callSi h md_X8_within sv_X8_within lk_X8_116 rfl rfl (Nat.le_of_ble_eq_true rfl) dX8_net_12 ⟨by decide, Nat.le_of_ble_eq_true rfl⟩ ⟨Nat.zero_le _, Nat.zero_le _⟩ ?_
    intro r4 μ5 h
    refine Z_if_eq (tgt := 28) dX8_net_15 (by decide) (fun c6 => ?_) (fun c6 => ?_)
    · have h := h.1 c6
      refine Z_bipush dX8_net_28 (by decide) ?_
      exact Z_ireturn dX8_net_30 ⟨_, rfl, h⟩
    · have h := h.2 c6
      refine Z_iload_n dX8_net_18 rfl ?_
      refine Z_iconst dX8_net_19 ?_
      refine Z_bipush dX8_net_20 (by decide) ?_
      refine Z_callSi h md_X8_within sv_X8_within lk_X8_116 rfl rfl (Nat.le_of_ble_eq_true rfl) dX8_net_22 ⟨by decide, Nat.le_of_ble_eq_true rfl⟩ ⟨Nat.zero_le _, Nat.zero_le _⟩ ?_
      intro r7 μ8 h
      refine Z_if_ne (tgt := 31) dX8_net_25 (by decide) (fun c9 => ?_) (fun c9 => ?_)
      · have h := h.1 c9
        refine Z_aload_n dX8_net_31 rfl ?_
        refine Z_iload_n dX8_net_32 rfl ?_
        refine Y_pi 2 zcX8 fk_X8_7 ⟨by decide, by omega⟩ rfl rfl rfl (by decide) rfl (tyX8_ok 2 (by decide)) dX8_net_33 rfl ?_
        obtain ⟨μ10, eμ10⟩ : ∃ z : zM, z = zu μ8 127 2 x1 := ⟨_, rfl⟩
        have h := h μ10 eμ10
        refine Z_mem eμ10 ?_
        refine Z_aload_n dX8_net_36 rfl ?_
        refine Z_iload_n dX8_net_37 rfl ?_
        refine Y_pi 3 zcX8 fk_X8_13 ⟨by decide, by omega⟩ rfl rfl rfl (by decide) rfl (tyX8_ok 3 (by decide)) dX8_net_38 rfl ?_
        obtain ⟨μ11, eμ11⟩ : ∃ z : zM, z = zu μ10 127 3 x2 := ⟨_, rfl⟩
        have h := h μ11 eμ11
        refine Z_mem eμ11 ?_
        refine Z_aload_n dX8_net_41 rfl ?_
        refine Z_iload_n dX8_net_42 rfl ?_
        refine Y_pi 4 zcX8 fk_X8_16 ⟨by decide, by omega⟩ rfl rfl rfl (by decide) rfl (tyX8_ok 4 (by decide)) dX8_net_43 rfl ?_
        obtain ⟨μ12, eμ12⟩ : ∃ z : zM, z = zu μ11 127 4 x3 := ⟨_, rfl⟩
        have h := h μ12 eμ12
        refine Z_mem eμ12 ?_
        refine Z_iconst dX8_net_46 ?_
        refine Z_istore (lv2 := [some (Rv G 127), some (Iv x1), some (Iv x2), some (Iv x3), some (Iv 0)]) dX8_net_47 rfl (by decide) rfl ?_
        exact Z_cut h ⟨rfl, trivial, trivial, trivial, rfl, trivial⟩
      · have h := h.2 c9
        refine Z_bipush dX8_net_28 (by decide) ?_
        exact Z_ireturn dX8_net_30 ⟨_, rfl, h⟩
theorem bX8_net_49 {G : zG} {n : Nat} (hn : 154 ≤ n) {x4 : Int} {μ : zM} {K : Int → zM → Prop}
    (h : (((wr 20 ≤ wr x4 → (mX8_lines G n  μ (fun r2 μ3 => K r2 μ3))) ∧ (¬ (wr 20 ≤ wr x4) → ((0 ≤ wr x4 ∧ wr x4 < 20) ∧ ∀ μ5 : zM, μ5 = zu μ 128 (wr x4) 0 → pX8_net G n K 49 [some (Rv G 127), none, none, none, some (Iv (x4 + 1))] [] μ5))))) :
    pX8_net G n K 49 [some (Rv G 127), none, none, none, some (Iv x4)] [] μ := by
  refine Z_iload dX8_net_49 rfl ?_
  refine Z_bipush dX8_net_51 (by decide) ?_
  refine Z_icmp_ge (tgt := 70) dX8_net_53 (by decide) (fun c1 => ?_) (fun c1 => ?_)
  · have h := h.1 c1
    refine Z_aload_n dX8_net_70 rfl ?_
    refine Z_callVi h md_X8_lines sv_X8_lines lk_X8_112 zcX8 rfl ⟨by decide, by omega⟩ rfl rfl rfl rfl (Nat.le_of_ble_eq_true rfl) dX8_net_71 ⟨by decide, Nat.le_of_ble_eq_true rfl⟩ ⟨Nat.zero_le _, Nat.zero_le _⟩ ?_
    intro r2 μ3 h
    exact Z_ireturn dX8_net_74 ⟨_, rfl, h⟩
  · have h := h.2 c1
    refine Z_aload_n dX8_net_56 rfl ?_
    refine Z_gr (t := 128) zcX8 fl_X8_19 ⟨by decide, by omega⟩ rfl rfl rfl (by decide) (by decide) dX8_net_57 ?_
    refine Z_iload dX8_net_60 rfl ?_
    refine Z_iconst dX8_net_62 ?_
    obtain ⟨b4, h⟩ := h
    refine Z_iast (zin_c (by decide) (by omega) (by decide) (by decide) b4) dX8_net_63 ?_
    obtain ⟨μ5, eμ5⟩ : ∃ z : zM, z = zu μ 128 (wr x4) 0 := ⟨_, rfl⟩
    have h := h μ5 eμ5
    refine Z_mem eμ5 ?_
    refine Z_iinc (lv2 := [some (Rv G 127), none, none, none, some (Iv (x4 + 1))]) dX8_net_64 rfl rfl (by decide) rfl ?_
    refine Z_goto (tgt := 49) dX8_net_67 (by decide) ?_
    exact Z_cut h ⟨rfl, trivial, trivial, trivial, rfl, trivial⟩
abbrev mX8_netOf (G : zG) (n : Nat) (x1 : Int) (μ : zM) (K : Int → zM → Prop) : Prop := zMt G n 2 yX8_netOf cX8_netOf 2 (some .int) [Rv G 127, Iv x1] μ (zKi K)
abbrev pX8_netOf (G : zG) (n : Nat) (K : Int → zM → Prop) (pc : Nat) (lv : List (Option Value)) (st : List Value) (μ : zM) : Prop := Z G (zrm 2 0 0) RX8 "netOf" cX8_netOf 2 (some .int) (zPh G n (zKi K)) 0 0 pc lv st (zE G n μ)
theorem eX8_netOf {G : zG} {n : Nat} (hn : 154 ≤ n) {x1 : Int} {μ : zM} {K : Int → zM → Prop}
    (h : ((((wr x1 < 0 ∨ 5 < wr x1) → (K ((-2)) μ)) ∧ (wr x1 = 0 → (K (μ 127 2) μ)) ∧ (wr x1 = 1 → (K (μ 127 3) μ)) ∧ (wr x1 = 2 → (K (μ 127 4) μ)) ∧ (wr x1 = 3 → (mX8_calls G n  μ (fun r2 μ3 => K r2 μ3))) ∧ (wr x1 = 4 → (((wr ((2 * (μ 127 3)) - 1) ≤ wr (μ 127 4) → (K 1 μ)) ∧ (¬ (wr ((2 * (μ 127 3)) - 1) ≤ wr (μ 127 4)) → (((¬ wr (μ 127 2) = wr 1 → (K 0 μ)) ∧ (wr (μ 127 2) = wr 1 → (((wr (μ 127 4) < wr (μ 127 3) → (K 0 μ)) ∧ (¬ (wr (μ 127 4) < wr (μ 127 3)) → (K 1 μ))))))))))) ∧ (wr x1 = 5 → (((wr (μ 127 4) < wr (μ 127 3) → (K 0 μ)) ∧ (¬ (wr (μ 127 4) < wr (μ 127 3)) → (K 1 μ)))))))) :
    mX8_netOf G n x1 μ K := by
  refine zMt_of (lv := [some (Rv G 127), some (Iv x1)]) (by decide) rfl (Nat.le_of_ble_eq_true rfl) ?_
  show pX8_netOf G n K 0 [some (Rv G 127), some (Iv x1)] [] μ
  refine Z_iload_n dX8_netOf_0 rfl ?_
  by_cases c1 : wr x1 < 0 ∨ 5 < wr x1
  · have h := h.1 c1
    refine Z_tableOut (tgt := 117) dX8_netOf_1 c1 (by decide) ?_
    refine Z_bipush dX8_netOf_117 (by decide) ?_
    exact Z_ireturn dX8_netOf_119 ⟨_, rfl, h⟩
  · have hd := dX8_netOf_1
    have c1q : wr x1 = 0 ∨ wr x1 = 1 ∨ wr x1 = 2 ∨ wr x1 = 3 ∨ wr x1 = 4 ∨ wr x1 = 5 := by omega
    rcases c1q with c1 | c1 | c1 | c1 | c1 | c1
    · have h := h.2.1 c1
      refine Z_tableIn (tgt := 40) 0 dX8_netOf_1 c1 (by decide) (by decide) rfl (by decide) ?_
      refine Z_aload_n dX8_netOf_40 rfl ?_
      refine Y_gi 2 zcX8 fl_X8_7 ⟨by decide, by omega⟩ rfl rfl rfl (by decide) dX8_netOf_41 rfl ?_
      exact Z_ireturn dX8_netOf_44 ⟨_, rfl, h⟩
    · have h := h.2.2.1 c1
      refine Z_tableIn (tgt := 45) 1 dX8_netOf_1 c1 (by decide) (by decide) rfl (by decide) ?_
      refine Z_aload_n dX8_netOf_45 rfl ?_
      refine Y_gi 3 zcX8 fl_X8_13 ⟨by decide, by omega⟩ rfl rfl rfl (by decide) dX8_netOf_46 rfl ?_
      exact Z_ireturn dX8_netOf_49 ⟨_, rfl, h⟩
    · have h := h.2.2.2.1 c1
      refine Z_tableIn (tgt := 50) 2 dX8_netOf_1 c1 (by decide) (by decide) rfl (by decide) ?_
      refine Z_aload_n dX8_netOf_50 rfl ?_
      refine Y_gi 4 zcX8 fl_X8_16 ⟨by decide, by omega⟩ rfl rfl rfl (by decide) dX8_netOf_51 rfl ?_
      exact Z_ireturn dX8_netOf_54 ⟨_, rfl, h⟩
    · have h := h.2.2.2.2.1 c1
      refine Z_tableIn (tgt := 55) 3 dX8_netOf_1 c1 (by decide) (by decide) rfl (by decide) ?_
      refine Z_aload_n dX8_netOf_55 rfl ?_
      refine Z_callVi h md_X8_calls sv_X8_calls lk_X8_120 zcX8 rfl ⟨by decide, by omega⟩ rfl rfl rfl rfl (Nat.le_of_ble_eq_true rfl) dX8_netOf_56 ⟨by decide, Nat.le_of_ble_eq_true rfl⟩ ⟨Nat.zero_le _, Nat.zero_le _⟩ ?_
      intro r2 μ3 h
      exact Z_ireturn dX8_netOf_59 ⟨_, rfl, h⟩
    · have h := h.2.2.2.2.2.1 c1
      refine Z_tableIn (tgt := 60) 4 dX8_netOf_1 c1 (by decide) (by decide) rfl (by decide) ?_
      refine Z_aload_n dX8_netOf_60 rfl ?_
      refine Y_gi 4 zcX8 fl_X8_16 ⟨by decide, by omega⟩ rfl rfl rfl (by decide) dX8_netOf_61 rfl ?_
      refine Z_iconst dX8_netOf_64 ?_
      refine Z_aload_n dX8_netOf_65 rfl ?_
      refine Y_gi 3 zcX8 fl_X8_13 ⟨by decide, by omega⟩ rfl rfl rfl (by decide) dX8_netOf_66 rfl ?_
      refine Z_imul dX8_netOf_69 ?_
      refine Z_iconst dX8_netOf_70 ?_
      refine Z_isub dX8_netOf_71 ?_
      refine Z_icmp_ge (tgt := 94) dX8_netOf_72 (by decide) (fun c4 => ?_) (fun c4 => ?_)
      · have h := h.1 c4
        refine Z_iconst dX8_netOf_94 ?_
        refine Z_goto (tgt := 99) dX8_netOf_95 (by decide) ?_
        exact Z_ireturn dX8_netOf_99 ⟨_, rfl, h⟩
      · have h := h.2 c4
        refine Z_aload_n dX8_netOf_75 rfl ?_
        refine Y_gi 2 zcX8 fl_X8_7 ⟨by decide, by omega⟩ rfl rfl rfl (by decide) dX8_netOf_76 rfl ?_
        refine Z_iconst dX8_netOf_79 ?_
        refine Z_icmp_ne (tgt := 98) dX8_netOf_80 (by decide) (fun c5 => ?_) (fun c5 => ?_)
        · have h := h.1 c5
          refine Z_iconst dX8_netOf_98 ?_
          exact Z_ireturn dX8_netOf_99 ⟨_, rfl, h⟩
        · have h := h.2 c5
          refine Z_aload_n dX8_netOf_83 rfl ?_
          refine Y_gi 4 zcX8 fl_X8_16 ⟨by decide, by omega⟩ rfl rfl rfl (by decide) dX8_netOf_84 rfl ?_
          refine Z_aload_n dX8_netOf_87 rfl ?_
          refine Y_gi 3 zcX8 fl_X8_13 ⟨by decide, by omega⟩ rfl rfl rfl (by decide) dX8_netOf_88 rfl ?_
          refine Z_icmp_lt (tgt := 98) dX8_netOf_91 (by decide) (fun c6 => ?_) (fun c6 => ?_)
          · have h := h.1 c6
            refine Z_iconst dX8_netOf_98 ?_
            exact Z_ireturn dX8_netOf_99 ⟨_, rfl, h⟩
          · have h := h.2 c6
            refine Z_iconst dX8_netOf_94 ?_
            refine Z_goto (tgt := 99) dX8_netOf_95 (by decide) ?_
            exact Z_ireturn dX8_netOf_99 ⟨_, rfl, h⟩
    · have h := h.2.2.2.2.2.2 c1
      refine Z_tableIn (tgt := 100) 5 dX8_netOf_1 c1 (by decide) (by decide) rfl (by decide) ?_
      refine Z_aload_n dX8_netOf_100 rfl ?_
      refine Y_gi 4 zcX8 fl_X8_16 ⟨by decide, by omega⟩ rfl rfl rfl (by decide) dX8_netOf_101 rfl ?_
      refine Z_aload_n dX8_netOf_104 rfl ?_
      refine Y_gi 3 zcX8 fl_X8_13 ⟨by decide, by omega⟩ rfl rfl rfl (by decide) dX8_netOf_105 rfl ?_
      refine Z_icmp_lt (tgt := 115) dX8_netOf_108 (by decide) (fun c7 => ?_) (fun c7 => ?_)
      · have h := h.1 c7
        refine Z_iconst dX8_netOf_115 ?_
        exact Z_ireturn dX8_netOf_116 ⟨_, rfl, h⟩
      · have h := h.2 c7
        refine Z_iconst dX8_netOf_111 ?_
        refine Z_goto (tgt := 116) dX8_netOf_112 (by decide) ?_
        exact Z_ireturn dX8_netOf_116 ⟨_, rfl, h⟩
abbrev mX8_atRight (G : zG) (n : Nat) (x1 x2 : Int) (μ : zM) (K : Int → zM → Prop) : Prop := zMt G n 2 yX8_atRight cX8_atRight 4 (some .int) [Rv G 127, Iv x1, Iv x2] μ (zKi K)
abbrev pX8_atRight (G : zG) (n : Nat) (K : Int → zM → Prop) (pc : Nat) (lv : List (Option Value)) (st : List Value) (μ : zM) : Prop := Z G (zrm 2 0 0) RX8 "atRight" cX8_atRight 4 (some .int) (zPh G n (zKi K)) 0 0 pc lv st (zE G n μ)
theorem eX8_atRight {G : zG} {n : Nat} (hn : 154 ≤ n) {x1 x2 : Int} {μ : zM} {K : Int → zM → Prop}
    (h : (pX8_atRight G n K 2 [some (Rv G 127), some (Iv x1), some (Iv x2), some (Iv 0)] [] μ)) :
    mX8_atRight G n x1 x2 μ K := by
  refine zMt_of (lv := [some (Rv G 127), some (Iv x1), some (Iv x2), none]) (by decide) rfl (Nat.le_of_ble_eq_true rfl) ?_
  show pX8_atRight G n K 0 [some (Rv G 127), some (Iv x1), some (Iv x2), none] [] μ
  refine Z_iconst dX8_atRight_0 ?_
  refine Z_istore_n (lv2 := [some (Rv G 127), some (Iv x1), some (Iv x2), some (Iv 0)]) dX8_atRight_1 rfl (by decide) rfl ?_
  exact Z_cut h ⟨rfl, rfl, rfl, rfl, trivial⟩
theorem bX8_atRight_2 {G : zG} {n : Nat} (hn : 154 ≤ n) {x1 x2 x3 : Int} {μ : zM} {K : Int → zM → Prop}
    (h : (mX8_lines G n  μ (fun r1 μ2 => ((wr r1 ≤ wr x3 → (K ((-9)) μ2)) ∧ (¬ (wr r1 ≤ wr x3) → ((0 ≤ wr x3 ∧ wr x3 < 20) ∧ ((wr (μ2 128 (wr x3)) ≤ 0 → (pX8_atRight G n K 2 [some (Rv G 127), some (Iv x1), some (Iv x2), some (Iv (x3 + 1))] [] μ2)) ∧ (¬ (wr (μ2 128 (wr x3)) ≤ 0) → ((0 ≤ wr x3 ∧ wr x3 < 20) ∧ wr (μ2 127 3) ≠ 0 ∧ ((¬ wr (zdiv ((μ2 128 (wr x3)) - 1) (μ2 127 3)) = wr x1 → (pX8_atRight G n K 2 [some (Rv G 127), some (Iv x1), some (Iv x2), some (Iv (x3 + 1))] [] μ2)) ∧ (wr (zdiv ((μ2 128 (wr x3)) - 1) (μ2 127 3)) = wr x1 → ((0 ≤ wr x3 ∧ wr x3 < 20) ∧ ((¬ wr (μ2 129 (wr x3)) = wr x2 → (pX8_atRight G n K 2 [some (Rv G 127), some (Iv x1), some (Iv x2), some (Iv (x3 + 1))] [] μ2)) ∧ (wr (μ2 129 (wr x3)) = wr x2 → (K x3 μ2))))))))))))))) :
    pX8_atRight G n K 2 [some (Rv G 127), some (Iv x1), some (Iv x2), some (Iv x3)] [] μ := by
  refine Z_iload_n dX8_atRight_2 rfl ?_
  refine Z_aload_n dX8_atRight_3 rfl ?_
  refine Z_callVi h md_X8_lines sv_X8_lines lk_X8_112 zcX8 rfl ⟨by decide, by omega⟩ rfl rfl rfl rfl (Nat.le_of_ble_eq_true rfl) dX8_atRight_4 ⟨by decide, Nat.le_of_ble_eq_true rfl⟩ ⟨Nat.zero_le _, Nat.zero_le _⟩ ?_
  intro r1 μ2 h
  refine Z_icmp_ge (tgt := 54) dX8_atRight_7 (by decide) (fun c3 => ?_) (fun c3 => ?_)
  · have h := h.1 c3
    refine Z_bipush dX8_atRight_54 (by decide) ?_
    exact Z_ireturn dX8_atRight_56 ⟨_, rfl, h⟩
  · have h := h.2 c3
    refine Z_aload_n dX8_atRight_10 rfl ?_
    refine Z_gr (t := 128) zcX8 fl_X8_19 ⟨by decide, by omega⟩ rfl rfl rfl (by decide) (by decide) dX8_atRight_11 ?_
    refine Z_iload_n dX8_atRight_14 rfl ?_
    obtain ⟨b4, h⟩ := h
    refine Z_iald (zin_c (by decide) (by omega) (by decide) (by decide) b4) dX8_atRight_15 ?_
    refine Z_if_le (tgt := 48) dX8_atRight_16 (by decide) (fun c5 => ?_) (fun c5 => ?_)
    · have h := h.1 c5
      refine Z_iinc (lv2 := [some (Rv G 127), some (Iv x1), some (Iv x2), some (Iv (x3 + 1))]) dX8_atRight_48 rfl rfl (by decide) rfl ?_
      refine Z_goto (tgt := 2) dX8_atRight_51 (by decide) ?_
      exact Z_cut h ⟨rfl, rfl, rfl, rfl, trivial⟩
    · have h := h.2 c5
      refine Z_aload_n dX8_atRight_19 rfl ?_
      refine Z_gr (t := 128) zcX8 fl_X8_19 ⟨by decide, by omega⟩ rfl rfl rfl (by decide) (by decide) dX8_atRight_20 ?_
      refine Z_iload_n dX8_atRight_23 rfl ?_
      obtain ⟨b6, h⟩ := h
      refine Z_iald (zin_c (by decide) (by omega) (by decide) (by decide) b6) dX8_atRight_24 ?_
      refine Z_iconst dX8_atRight_25 ?_
      refine Z_isub dX8_atRight_26 ?_
      refine Z_aload_n dX8_atRight_27 rfl ?_
      refine Y_gi 3 zcX8 fl_X8_13 ⟨by decide, by omega⟩ rfl rfl rfl (by decide) dX8_atRight_28 rfl ?_
      obtain ⟨b7, h⟩ := h
      refine Z_idiv dX8_atRight_31 b7 ?_
      refine Z_iload_n dX8_atRight_32 rfl ?_
      refine Z_icmp_ne (tgt := 48) dX8_atRight_33 (by decide) (fun c8 => ?_) (fun c8 => ?_)
      · have h := h.1 c8
        refine Z_iinc (lv2 := [some (Rv G 127), some (Iv x1), some (Iv x2), some (Iv (x3 + 1))]) dX8_atRight_48 rfl rfl (by decide) rfl ?_
        refine Z_goto (tgt := 2) dX8_atRight_51 (by decide) ?_
        exact Z_cut h ⟨rfl, rfl, rfl, rfl, trivial⟩
      · have h := h.2 c8
        refine Z_aload_n dX8_atRight_36 rfl ?_
        refine Z_gr (t := 129) zcX8 fl_X8_23 ⟨by decide, by omega⟩ rfl rfl rfl (by decide) (by decide) dX8_atRight_37 ?_
        refine Z_iload_n dX8_atRight_40 rfl ?_
        obtain ⟨b9, h⟩ := h
        refine Z_iald (zin_c (by decide) (by omega) (by decide) (by decide) b9) dX8_atRight_41 ?_
        refine Z_iload_n dX8_atRight_42 rfl ?_
        refine Z_icmp_ne (tgt := 48) dX8_atRight_43 (by decide) (fun c10 => ?_) (fun c10 => ?_)
        · have h := h.1 c10
          refine Z_iinc (lv2 := [some (Rv G 127), some (Iv x1), some (Iv x2), some (Iv (x3 + 1))]) dX8_atRight_48 rfl rfl (by decide) rfl ?_
          refine Z_goto (tgt := 2) dX8_atRight_51 (by decide) ?_
          exact Z_cut h ⟨rfl, rfl, rfl, rfl, trivial⟩
        · have h := h.2 c10
          refine Z_iload_n dX8_atRight_46 rfl ?_
          exact Z_ireturn dX8_atRight_47 ⟨_, rfl, h⟩
abbrev mX8_isTaken (G : zG) (n : Nat) (x1 x2 : Int) (μ : zM) (K : Int → zM → Prop) : Prop := zMt G n 2 yX8_isTaken cX8_isTaken 4 (some .boolean) [Rv G 127, Iv x1, Iv x2] μ (zKi K)
abbrev pX8_isTaken (G : zG) (n : Nat) (K : Int → zM → Prop) (pc : Nat) (lv : List (Option Value)) (st : List Value) (μ : zM) : Prop := Z G (zrm 2 0 0) RX8 "isTaken" cX8_isTaken 4 (some .boolean) (zPh G n (zKi K)) 0 0 pc lv st (zE G n μ)
theorem eX8_isTaken {G : zG} {n : Nat} (hn : 154 ≤ n) {x1 x2 : Int} {μ : zM} {K : Int → zM → Prop}
    (h : (pX8_isTaken G n K 2 [some (Rv G 127), some (Iv x1), some (Iv x2), some (Iv 0)] [] μ)) :
    mX8_isTaken G n x1 x2 μ K := by
  refine zMt_of (lv := [some (Rv G 127), some (Iv x1), some (Iv x2), none]) (by decide) rfl (Nat.le_of_ble_eq_true rfl) ?_
  show pX8_isTaken G n K 0 [some (Rv G 127), some (Iv x1), some (Iv x2), none] [] μ
  refine Z_iconst dX8_isTaken_0 ?_
  refine Z_istore_n (lv2 := [some (Rv G 127), some (Iv x1), some (Iv x2), some (Iv 0)]) dX8_isTaken_1 rfl (by decide) rfl ?_
  exact Z_cut h ⟨rfl, rfl, rfl, rfl, trivial⟩
theorem bX8_isTaken_2 {G : zG} {n : Nat} (hn : 154 ≤ n) {x1 x2 x3 : Int} {μ : zM} {K : Int → zM → Prop}
    (h : (mX8_lines G n  μ (fun r1 μ2 => ((wr r1 ≤ wr x3 → ((0 ≤ wr x1 ∧ wr x1 < 20) ∧ ((wr (μ2 128 (wr x1)) ≤ 0 → (K 0 μ2)) ∧ (¬ (wr (μ2 128 (wr x1)) ≤ 0) → (K 1 μ2))))) ∧ (¬ (wr r1 ≤ wr x3) → ((0 ≤ wr x3 ∧ wr x3 < 20) ∧ ((¬ wr (μ2 128 (wr x3)) = wr (x2 + 1) → (pX8_isTaken G n K 2 [some (Rv G 127), some (Iv x1), some (Iv x2), some (Iv (x3 + 1))] [] μ2)) ∧ (wr (μ2 128 (wr x3)) = wr (x2 + 1) → (K 1 μ2))))))))) :
    pX8_isTaken G n K 2 [some (Rv G 127), some (Iv x1), some (Iv x2), some (Iv x3)] [] μ := by
  refine Z_iload_n dX8_isTaken_2 rfl ?_
  refine Z_aload_n dX8_isTaken_3 rfl ?_
  refine Z_callVi h md_X8_lines sv_X8_lines lk_X8_112 zcX8 rfl ⟨by decide, by omega⟩ rfl rfl rfl rfl (Nat.le_of_ble_eq_true rfl) dX8_isTaken_4 ⟨by decide, Nat.le_of_ble_eq_true rfl⟩ ⟨Nat.zero_le _, Nat.zero_le _⟩ ?_
  intro r1 μ2 h
  refine Z_icmp_ge (tgt := 30) dX8_isTaken_7 (by decide) (fun c3 => ?_) (fun c3 => ?_)
  · have h := h.1 c3
    refine Z_aload_n dX8_isTaken_30 rfl ?_
    refine Z_gr (t := 128) zcX8 fl_X8_19 ⟨by decide, by omega⟩ rfl rfl rfl (by decide) (by decide) dX8_isTaken_31 ?_
    refine Z_iload_n dX8_isTaken_34 rfl ?_
    obtain ⟨b4, h⟩ := h
    refine Z_iald (zin_c (by decide) (by omega) (by decide) (by decide) b4) dX8_isTaken_35 ?_
    refine Z_if_le (tgt := 43) dX8_isTaken_36 (by decide) (fun c5 => ?_) (fun c5 => ?_)
    · have h := h.1 c5
      refine Z_iconst dX8_isTaken_43 ?_
      exact Z_zreturn dX8_isTaken_44 (by decide) ⟨_, rfl, h⟩
    · have h := h.2 c5
      refine Z_iconst dX8_isTaken_39 ?_
      refine Z_goto (tgt := 44) dX8_isTaken_40 (by decide) ?_
      exact Z_zreturn dX8_isTaken_44 (by decide) ⟨_, rfl, h⟩
  · have h := h.2 c3
    refine Z_aload_n dX8_isTaken_10 rfl ?_
    refine Z_gr (t := 128) zcX8 fl_X8_19 ⟨by decide, by omega⟩ rfl rfl rfl (by decide) (by decide) dX8_isTaken_11 ?_
    refine Z_iload_n dX8_isTaken_14 rfl ?_
    obtain ⟨b6, h⟩ := h
    refine Z_iald (zin_c (by decide) (by omega) (by decide) (by decide) b6) dX8_isTaken_15 ?_
    refine Z_iload_n dX8_isTaken_16 rfl ?_
    refine Z_iconst dX8_isTaken_17 ?_
    refine Z_iadd dX8_isTaken_18 ?_
    refine Z_icmp_ne (tgt := 24) dX8_isTaken_19 (by decide) (fun c7 => ?_) (fun c7 => ?_)
    · have h := h.1 c7
      refine Z_iinc (lv2 := [some (Rv G 127), some (Iv x1), some (Iv x2), some (Iv (x3 + 1))]) dX8_isTaken_24 rfl rfl (by decide) rfl ?_
      refine Z_goto (tgt := 2) dX8_isTaken_27 (by decide) ?_
      exact Z_cut h ⟨rfl, rfl, rfl, rfl, trivial⟩
    · have h := h.2 c7
      refine Z_iconst dX8_isTaken_22 ?_
      exact Z_zreturn dX8_isTaken_23 (by decide) ⟨_, rfl, h⟩
abbrev mX8_findFour (G : zG) (n : Nat) (x1 x2 : Int) (μ : zM) (K : zM → Prop) : Prop := zMt G n 2 yX8_findFour cX8_findFour 6 none [Rv G 127, Rv G x1, Iv x2] μ (zKv K)
abbrev pX8_findFour (G : zG) (n : Nat) (K : zM → Prop) (pc : Nat) (lv : List (Option Value)) (st : List Value) (μ : zM) : Prop := Z G (zrm 2 0 0) RX8 "findFour" cX8_findFour 6 none (zPh G n (zKv K)) 0 0 pc lv st (zE G n μ)
theorem eX8_findFour {G : zG} {n : Nat} (hn : 154 ≤ n) {x1 x2 : Int} {μ : zM} {K : zM → Prop}
    (h : (∀ μ1 : zM, μ1 = zu μ 127 18 0 → ∀ μ2 : zM, μ2 = zu μ1 127 19 ((-1)) → pX8_findFour G n K 14 [some (Rv G 127), some (Rv G x1), some (Iv x2), some (Iv 0), none, none] [] μ2)) :
    mX8_findFour G n x1 x2 μ K := by
  refine zMt_of (lv := [some (Rv G 127), some (Rv G x1), some (Iv x2), none, none, none]) (by decide) rfl (Nat.le_of_ble_eq_true rfl) ?_
  show pX8_findFour G n K 0 [some (Rv G 127), some (Rv G x1), some (Iv x2), none, none, none] [] μ
  refine Z_aload_n dX8_findFour_0 rfl ?_
  refine Z_lconst (a := 0) dX8_findFour_1 (by decide) ?_
  refine Y_pl 18 zcX8 fk_X8_160 ⟨by decide, by omega⟩ rfl rfl rfl (by decide) rfl (tyX8_ok 18 (by decide)) dX8_findFour_2 rfl ?_
  obtain ⟨μ1, eμ1⟩ : ∃ z : zM, z = zu μ 127 18 0 := ⟨_, rfl⟩
  have h := h μ1 eμ1
  refine Z_mem eμ1 ?_
  refine Z_aload_n dX8_findFour_5 rfl ?_
  refine Z_ldc2 (a := -1) dX8_findFour_6 cl_X8_164 (by decide) ?_
  refine Y_pl 19 zcX8 fk_X8_166 ⟨by decide, by omega⟩ rfl rfl rfl (by decide) rfl (tyX8_ok 19 (by decide)) dX8_findFour_9 rfl ?_
  obtain ⟨μ2, eμ2⟩ : ∃ z : zM, z = zu μ1 127 19 ((-1)) := ⟨_, rfl⟩
  have h := h μ2 eμ2
  refine Z_mem eμ2 ?_
  refine Z_iconst dX8_findFour_12 ?_
  refine Z_istore_n (lv2 := [some (Rv G 127), some (Rv G x1), some (Iv x2), some (Iv 0), none, none]) dX8_findFour_13 rfl (by decide) rfl ?_
  exact Z_cut h ⟨rfl, rfl, rfl, rfl, trivial, trivial, trivial⟩
theorem bX8_findFour_14 {G : zG} {n : Nat} (hn : 154 ≤ n) {x1 x2 x3 : Int} {μ : zM} {K : zM → Prop}
    (h : (((wr 4 ≤ wr x3 → (K μ)) ∧ (¬ (wr 4 ≤ wr x3) → (mX8_halve G n x1 x2 4 x3 136 0 μ (fun r2 μ3 => ((¬ wr r2 = 0 → (mX8_firstOfTwo G n 136 0 μ3 (fun r5 μ6 => mX8_firstOfTwo G n 136 2 μ6 (fun r7 μ8 => ∀ v9 : Int, v9 = zlor (zlor (zlor (wr x3) (zlshl (wr (μ3 127 17)) 2)) (zlshl r5 4)) (zlshl r7 5) → ∀ μ10 : zM, μ10 = zu μ8 127 18 ((μ8 127 18) + 1) → ((wr (zlcmp (μ10 127 19) 0) < 0 → (∀ μ12 : zM, μ12 = zu μ10 127 19 v9 → pX8_findFour G n K 14 [some (Rv G 127), some (Rv G x1), some (Iv x2), some (Iv (x3 + 1)), none, none] [] μ12)) ∧ (¬ (wr (zlcmp (μ10 127 19) 0) < 0) → (((0 ≤ wr (zlcmp v9 (μ10 127 19)) → (∀ μ14 : zM, μ14 = zu μ10 127 19 (μ10 127 19) → pX8_findFour G n K 14 [some (Rv G 127), some (Rv G x1), some (Iv x2), some (Iv (x3 + 1)), none, none] [] μ14)) ∧ (¬ (0 ≤ wr (zlcmp v9 (μ10 127 19))) → (∀ μ15 : zM, μ15 = zu μ10 127 19 v9 → pX8_findFour G n K 14 [some (Rv G 127), some (Rv G x1), some (Iv x2), some (Iv (x3 + 1)), none, none] [] μ15)))))))))) ∧ (wr r2 = 0 → (pX8_findFour G n K 14 [some (Rv G 127), some (Rv G x1), some (Iv x2), some (Iv (x3 + 1)), none, none] [] μ3))))))))) :
    pX8_findFour G n K 14 [some (Rv G 127), some (Rv G x1), some (Iv x2), some (Iv x3), none, none] [] μ := by
  refine Z_iload_n dX8_findFour_14 rfl ?_
  refine Z_iconst dX8_findFour_15 ?_
  refine Z_icmp_ge (tgt := 120) dX8_findFour_16 (by decide) (fun c1 => ?_) (fun c1 => ?_)
  · have h := h.1 c1
    exact Z_return dX8_findFour_120 ⟨rfl, h⟩
  · have h := h.2 c1
    refine Z_aload_n dX8_findFour_19 rfl ?_
    refine Z_aload_n dX8_findFour_20 rfl ?_
    refine Z_iload_n dX8_findFour_21 rfl ?_
    refine Z_iconst dX8_findFour_22 ?_
    refine Z_iload_n dX8_findFour_23 rfl ?_
    refine Z_aload_n dX8_findFour_24 rfl ?_
    refine Z_gr (t := 136) zcX8 fl_X8_47 ⟨by decide, by omega⟩ rfl rfl rfl (by decide) (by decide) dX8_findFour_25 ?_
    refine Z_iconst dX8_findFour_28 ?_
    refine Z_callVi h md_X8_halve sv_X8_halve lk_X8_169 zcX8 rfl ⟨by decide, by omega⟩ rfl rfl rfl rfl (Nat.le_of_ble_eq_true rfl) dX8_findFour_29 ⟨by decide, Nat.le_of_ble_eq_true rfl⟩ ⟨Nat.zero_le _, Nat.zero_le _⟩ ?_
    intro r2 μ3 h
    refine Z_if_ne (tgt := 38) dX8_findFour_32 (by decide) (fun c4 => ?_) (fun c4 => ?_)
    · have h := h.1 c4
      refine Z_iload_n dX8_findFour_38 rfl ?_
      refine Z_i2l dX8_findFour_39 ?_
      refine Z_aload_n dX8_findFour_40 rfl ?_
      refine Y_gi 17 zcX8 fl_X8_157 ⟨by decide, by omega⟩ rfl rfl rfl (by decide) dX8_findFour_41 rfl ?_
      refine Z_i2l dX8_findFour_44 ?_
      refine Z_iconst dX8_findFour_45 ?_
      refine Z_lshl dX8_findFour_46 ?_
      refine Z_lor dX8_findFour_47 ?_
      refine Z_aload_n dX8_findFour_48 rfl ?_
      refine Z_gr (t := 136) zcX8 fl_X8_47 ⟨by decide, by omega⟩ rfl rfl rfl (by decide) (by decide) dX8_findFour_49 ?_
      refine Z_iconst dX8_findFour_52 ?_
      refine Z_callSl h md_X8_firstOfTwo sv_X8_firstOfTwo lk_X8_173 rfl rfl (Nat.le_of_ble_eq_true rfl) dX8_findFour_53 ⟨by decide, Nat.le_of_ble_eq_true rfl⟩ ⟨Nat.zero_le _, Nat.zero_le _⟩ ?_
      intro r5 μ6 h
      refine Z_iconst dX8_findFour_56 ?_
      refine Z_lshl dX8_findFour_57 ?_
      refine Z_lor dX8_findFour_58 ?_
      refine Z_aload_n dX8_findFour_59 rfl ?_
      refine Z_gr (t := 136) zcX8 fl_X8_47 ⟨by decide, by omega⟩ rfl rfl rfl (by decide) (by decide) dX8_findFour_60 ?_
      refine Z_iconst dX8_findFour_63 ?_
      refine Z_callSl h md_X8_firstOfTwo sv_X8_firstOfTwo lk_X8_173 rfl rfl (Nat.le_of_ble_eq_true rfl) dX8_findFour_64 ⟨by decide, Nat.le_of_ble_eq_true rfl⟩ ⟨Nat.zero_le _, Nat.zero_le _⟩ ?_
      intro r7 μ8 h
      refine Z_iconst dX8_findFour_67 ?_
      refine Z_lshl dX8_findFour_68 ?_
      refine Z_lor dX8_findFour_69 ?_
      obtain ⟨v9, ev9⟩ : ∃ z : Int, z = zlor (zlor (zlor (wr x3) (zlshl (wr (μ3 127 17)) 2)) (zlshl r5 4)) (zlshl r7 5) := ⟨_, rfl⟩
      have h := h v9 ev9
      refine Z_nml ev9 ?_
      refine Z_lstore (lv2 := [some (Rv G 127), some (Rv G x1), some (Iv x2), some (Iv x3), some (Lv v9), none]) dX8_findFour_70 rfl (by decide) rfl ?_
      refine Z_aload_n dX8_findFour_72 rfl ?_
      refine Z_dup dX8_findFour_73 rfl ?_
      refine Y_gl 18 zcX8 fl_X8_160 ⟨by decide, by omega⟩ rfl rfl rfl (by decide) dX8_findFour_74 rfl ?_
      refine Z_lconst (a := 1) dX8_findFour_77 (by decide) ?_
      refine Z_ladd dX8_findFour_78 ?_
      refine Y_pl 18 zcX8 fk_X8_160 ⟨by decide, by omega⟩ rfl rfl rfl (by decide) rfl (tyX8_ok 18 (by decide)) dX8_findFour_79 rfl ?_
      obtain ⟨μ10, eμ10⟩ : ∃ z : zM, z = zu μ8 127 18 ((μ8 127 18) + 1) := ⟨_, rfl⟩
      have h := h μ10 eμ10
      refine Z_mem eμ10 ?_
      refine Z_aload_n dX8_findFour_82 rfl ?_
      refine Z_aload_n dX8_findFour_83 rfl ?_
      refine Y_gl 19 zcX8 fl_X8_166 ⟨by decide, by omega⟩ rfl rfl rfl (by decide) dX8_findFour_84 rfl ?_
      refine Z_lconst (a := 0) dX8_findFour_87 (by decide) ?_
      refine Z_lcmp dX8_findFour_88 ?_
      refine Z_if_lt (tgt := 102) dX8_findFour_89 (by decide) (fun c11 => ?_) (fun c11 => ?_)
      · have h := h.1 c11
        refine Z_lload dX8_findFour_102 rfl ?_
        refine Z_goto (tgt := 111) dX8_findFour_104 (by decide) ?_
        refine Y_pl 19 zcX8 fk_X8_166 ⟨by decide, by omega⟩ rfl rfl rfl (by decide) rfl (tyX8_ok 19 (by decide)) dX8_findFour_111 rfl ?_
        obtain ⟨μ12, eμ12⟩ : ∃ z : zM, z = zu μ10 127 19 v9 := ⟨_, rfl⟩
        have h := h μ12 eμ12
        refine Z_mem eμ12 ?_
        refine Z_iinc (lv2 := [some (Rv G 127), some (Rv G x1), some (Iv x2), some (Iv (x3 + 1)), some (Lv v9), none]) dX8_findFour_114 rfl rfl (by decide) rfl ?_
        refine Z_goto (tgt := 14) dX8_findFour_117 (by decide) ?_
        exact Z_cut h ⟨rfl, rfl, rfl, rfl, trivial, trivial, trivial⟩
      · have h := h.2 c11
        refine Z_lload dX8_findFour_92 rfl ?_
        refine Z_aload_n dX8_findFour_94 rfl ?_
        refine Y_gl 19 zcX8 fl_X8_166 ⟨by decide, by omega⟩ rfl rfl rfl (by decide) dX8_findFour_95 rfl ?_
        refine Z_lcmp dX8_findFour_98 ?_
        refine Z_if_ge (tgt := 107) dX8_findFour_99 (by decide) (fun c13 => ?_) (fun c13 => ?_)
        · have h := h.1 c13
          refine Z_aload_n dX8_findFour_107 rfl ?_
          refine Y_gl 19 zcX8 fl_X8_166 ⟨by decide, by omega⟩ rfl rfl rfl (by decide) dX8_findFour_108 rfl ?_
          refine Y_pl 19 zcX8 fk_X8_166 ⟨by decide, by omega⟩ rfl rfl rfl (by decide) rfl (tyX8_ok 19 (by decide)) dX8_findFour_111 rfl ?_
          obtain ⟨μ14, eμ14⟩ : ∃ z : zM, z = zu μ10 127 19 (μ10 127 19) := ⟨_, rfl⟩
          have h := h μ14 eμ14
          refine Z_mem eμ14 ?_
          refine Z_iinc (lv2 := [some (Rv G 127), some (Rv G x1), some (Iv x2), some (Iv (x3 + 1)), some (Lv v9), none]) dX8_findFour_114 rfl rfl (by decide) rfl ?_
          refine Z_goto (tgt := 14) dX8_findFour_117 (by decide) ?_
          exact Z_cut h ⟨rfl, rfl, rfl, rfl, trivial, trivial, trivial⟩
        · have h := h.2 c13
          refine Z_lload dX8_findFour_102 rfl ?_
          refine Z_goto (tgt := 111) dX8_findFour_104 (by decide) ?_
          refine Y_pl 19 zcX8 fk_X8_166 ⟨by decide, by omega⟩ rfl rfl rfl (by decide) rfl (tyX8_ok 19 (by decide)) dX8_findFour_111 rfl ?_
          obtain ⟨μ15, eμ15⟩ : ∃ z : zM, z = zu μ10 127 19 v9 := ⟨_, rfl⟩
          have h := h μ15 eμ15
          refine Z_mem eμ15 ?_
          refine Z_iinc (lv2 := [some (Rv G 127), some (Rv G x1), some (Iv x2), some (Iv (x3 + 1)), some (Lv v9), none]) dX8_findFour_114 rfl rfl (by decide) rfl ?_
          refine Z_goto (tgt := 14) dX8_findFour_117 (by decide) ?_
          exact Z_cut h ⟨rfl, rfl, rfl, rfl, trivial, trivial, trivial⟩
    · have h := h.2 c4
      refine Z_goto (tgt := 114) dX8_findFour_35 (by decide) ?_
      refine Z_iinc (lv2 := [some (Rv G 127), some (Rv G x1), some (Iv x2), some (Iv (x3 + 1)), none, none]) dX8_findFour_114 rfl rfl (by decide) rfl ?_
      refine Z_goto (tgt := 14) dX8_findFour_117 (by decide) ?_
      exact Z_cut h ⟨rfl, rfl, rfl, rfl, trivial, trivial, trivial⟩
abbrev mX8_against (G : zG) (n : Nat) (x1 x2 x3 x4 : Int) (μ : zM) (K : Int → zM → Prop) : Prop := zMt G n 2 yX8_against cX8_against 5 (some .int) [Rv G 127, Iv x1, Iv x2, Iv x3, Iv x4] μ (zKi K)
abbrev pX8_against (G : zG) (n : Nat) (K : Int → zM → Prop) (pc : Nat) (lv : List (Option Value)) (st : List Value) (μ : zM) : Prop := Z G (zrm 2 0 0) RX8 "against" cX8_against 5 (some .int) (zPh G n (zKi K)) 0 0 pc lv st (zE G n μ)
theorem eX8_against {G : zG} {n : Nat} (hn : 154 ≤ n) {x1 x2 x3 x4 : Int} {μ : zM} {K : Int → zM → Prop}
    (h : ((0 ≤ wr x1 ∧ wr x1 < 4) ∧ ((wr (μ 137 (wr x1)) = wr ((-9)) → ((0 ≤ wr x1 ∧ wr x1 < 4) ∧ ((¬ wr (μ 137 (wr x1)) = wr ((-9)) → (((wr x3 < 0 → (mX8_fails G n 3 μ (fun r6 μ7 => K r6 μ7))) ∧ (¬ (wr x3 < 0) → ((0 ≤ wr x1 ∧ wr x1 < 4) ∧ ((wr (μ 138 (wr x1)) < wr x3 → (mX8_fails G n 3 μ (fun r10 μ11 => K r10 μ11))) ∧ (¬ (wr (μ 138 (wr x1)) < wr x3) → ((0 ≤ wr x1 ∧ wr x1 < 4) ∧ ((wr x4 ≤ wr ((μ 138 (wr x1)) - x3) → (K 0 μ)) ∧ (¬ (wr x4 ≤ wr ((μ 138 (wr x1)) - x3)) → (mX8_fails G n 3 μ (fun r14 μ15 => K r14 μ15)))))))))))) ∧ (wr (μ 137 (wr x1)) = wr ((-9)) → (mX8_fails G n 1 μ (fun r16 μ17 => K r16 μ17)))))) ∧ (¬ (wr (μ 137 (wr x1)) = wr ((-9))) → ((0 ≤ wr x1 ∧ wr x1 < 4) ∧ ((wr (μ 137 (wr x1)) = wr x2 → ((0 ≤ wr x1 ∧ wr x1 < 4) ∧ ((¬ wr (μ 137 (wr x1)) = wr ((-9)) → (((wr x3 < 0 → (mX8_fails G n 3 μ (fun r23 μ24 => K r23 μ24))) ∧ (¬ (wr x3 < 0) → ((0 ≤ wr x1 ∧ wr x1 < 4) ∧ ((wr (μ 138 (wr x1)) < wr x3 → (mX8_fails G n 3 μ (fun r27 μ28 => K r27 μ28))) ∧ (¬ (wr (μ 138 (wr x1)) < wr x3) → ((0 ≤ wr x1 ∧ wr x1 < 4) ∧ ((wr x4 ≤ wr ((μ 138 (wr x1)) - x3) → (K 0 μ)) ∧ (¬ (wr x4 ≤ wr ((μ 138 (wr x1)) - x3)) → (mX8_fails G n 3 μ (fun r31 μ32 => K r31 μ32)))))))))))) ∧ (wr (μ 137 (wr x1)) = wr ((-9)) → (mX8_fails G n 1 μ (fun r33 μ34 => K r33 μ34)))))) ∧ (¬ (wr (μ 137 (wr x1)) = wr x2) → (mX8_fails G n 2 μ (fun r35 μ36 => K r35 μ36))))))))) :
    mX8_against G n x1 x2 x3 x4 μ K := by
  refine zMt_of (lv := [some (Rv G 127), some (Iv x1), some (Iv x2), some (Iv x3), some (Iv x4)]) (by decide) rfl (Nat.le_of_ble_eq_true rfl) ?_
  show pX8_against G n K 0 [some (Rv G 127), some (Iv x1), some (Iv x2), some (Iv x3), some (Iv x4)] [] μ
  refine Z_aload_n dX8_against_0 rfl ?_
  refine Z_gr (t := 137) zcX8 fl_X8_50 ⟨by decide, by omega⟩ rfl rfl rfl (by decide) (by decide) dX8_against_1 ?_
  refine Z_iload_n dX8_against_4 rfl ?_
  obtain ⟨b1, h⟩ := h
  refine Z_iald (zin_c (by decide) (by omega) (by decide) (by decide) b1) dX8_against_5 ?_
  refine Z_bipush dX8_against_6 (by decide) ?_
  refine Z_icmp_eq (tgt := 27) dX8_against_8 (by decide) (fun c2 => ?_) (fun c2 => ?_)
  · have h := h.1 c2
    refine Z_aload_n dX8_against_27 rfl ?_
    refine Z_gr (t := 137) zcX8 fl_X8_50 ⟨by decide, by omega⟩ rfl rfl rfl (by decide) (by decide) dX8_against_28 ?_
    refine Z_iload_n dX8_against_31 rfl ?_
    obtain ⟨b3, h⟩ := h
    refine Z_iald (zin_c (by decide) (by omega) (by decide) (by decide) b3) dX8_against_32 ?_
    refine Z_bipush dX8_against_33 (by decide) ?_
    refine Z_icmp_ne (tgt := 44) dX8_against_35 (by decide) (fun c4 => ?_) (fun c4 => ?_)
    · have h := h.1 c4
      refine Z_iload_n dX8_against_44 rfl ?_
      refine Z_if_lt (tgt := 71) dX8_against_45 (by decide) (fun c5 => ?_) (fun c5 => ?_)
      · have h := h.1 c5
        refine Z_aload_n dX8_against_71 rfl ?_
        refine Z_iconst dX8_against_72 ?_
        refine Z_callVi h md_X8_fails sv_X8_fails lk_X8_187 zcX8 rfl ⟨by decide, by omega⟩ rfl rfl rfl rfl (Nat.le_of_ble_eq_true rfl) dX8_against_73 ⟨by decide, Nat.le_of_ble_eq_true rfl⟩ ⟨Nat.zero_le _, Nat.zero_le _⟩ ?_
        intro r6 μ7 h
        exact Z_ireturn dX8_against_76 ⟨_, rfl, h⟩
      · have h := h.2 c5
        refine Z_iload_n dX8_against_48 rfl ?_
        refine Z_aload_n dX8_against_49 rfl ?_
        refine Z_gr (t := 138) zcX8 fl_X8_53 ⟨by decide, by omega⟩ rfl rfl rfl (by decide) (by decide) dX8_against_50 ?_
        refine Z_iload_n dX8_against_53 rfl ?_
        obtain ⟨b8, h⟩ := h
        refine Z_iald (zin_c (by decide) (by omega) (by decide) (by decide) b8) dX8_against_54 ?_
        refine Z_icmp_gt (tgt := 71) dX8_against_55 (by decide) (fun c9 => ?_) (fun c9 => ?_)
        · have h := h.1 c9
          refine Z_aload_n dX8_against_71 rfl ?_
          refine Z_iconst dX8_against_72 ?_
          refine Z_callVi h md_X8_fails sv_X8_fails lk_X8_187 zcX8 rfl ⟨by decide, by omega⟩ rfl rfl rfl rfl (Nat.le_of_ble_eq_true rfl) dX8_against_73 ⟨by decide, Nat.le_of_ble_eq_true rfl⟩ ⟨Nat.zero_le _, Nat.zero_le _⟩ ?_
          intro r10 μ11 h
          exact Z_ireturn dX8_against_76 ⟨_, rfl, h⟩
        · have h := h.2 c9
          refine Z_iload dX8_against_58 rfl ?_
          refine Z_aload_n dX8_against_60 rfl ?_
          refine Z_gr (t := 138) zcX8 fl_X8_53 ⟨by decide, by omega⟩ rfl rfl rfl (by decide) (by decide) dX8_against_61 ?_
          refine Z_iload_n dX8_against_64 rfl ?_
          obtain ⟨b12, h⟩ := h
          refine Z_iald (zin_c (by decide) (by omega) (by decide) (by decide) b12) dX8_against_65 ?_
          refine Z_iload_n dX8_against_66 rfl ?_
          refine Z_isub dX8_against_67 ?_
          refine Z_icmp_le (tgt := 77) dX8_against_68 (by decide) (fun c13 => ?_) (fun c13 => ?_)
          · have h := h.1 c13
            refine Z_iconst dX8_against_77 ?_
            exact Z_ireturn dX8_against_78 ⟨_, rfl, h⟩
          · have h := h.2 c13
            refine Z_aload_n dX8_against_71 rfl ?_
            refine Z_iconst dX8_against_72 ?_
            refine Z_callVi h md_X8_fails sv_X8_fails lk_X8_187 zcX8 rfl ⟨by decide, by omega⟩ rfl rfl rfl rfl (Nat.le_of_ble_eq_true rfl) dX8_against_73 ⟨by decide, Nat.le_of_ble_eq_true rfl⟩ ⟨Nat.zero_le _, Nat.zero_le _⟩ ?_
            intro r14 μ15 h
            exact Z_ireturn dX8_against_76 ⟨_, rfl, h⟩
    · have h := h.2 c4
      refine Z_aload_n dX8_against_38 rfl ?_
      refine Z_iconst dX8_against_39 ?_
      refine Z_callVi h md_X8_fails sv_X8_fails lk_X8_187 zcX8 rfl ⟨by decide, by omega⟩ rfl rfl rfl rfl (Nat.le_of_ble_eq_true rfl) dX8_against_40 ⟨by decide, Nat.le_of_ble_eq_true rfl⟩ ⟨Nat.zero_le _, Nat.zero_le _⟩ ?_
      intro r16 μ17 h
      exact Z_ireturn dX8_against_43 ⟨_, rfl, h⟩
  · have h := h.2 c2
    refine Z_aload_n dX8_against_11 rfl ?_
    refine Z_gr (t := 137) zcX8 fl_X8_50 ⟨by decide, by omega⟩ rfl rfl rfl (by decide) (by decide) dX8_against_12 ?_
    refine Z_iload_n dX8_against_15 rfl ?_
    obtain ⟨b18, h⟩ := h
    refine Z_iald (zin_c (by decide) (by omega) (by decide) (by decide) b18) dX8_against_16 ?_
    refine Z_iload_n dX8_against_17 rfl ?_
    refine Z_icmp_eq (tgt := 27) dX8_against_18 (by decide) (fun c19 => ?_) (fun c19 => ?_)
    · have h := h.1 c19
      refine Z_aload_n dX8_against_27 rfl ?_
      refine Z_gr (t := 137) zcX8 fl_X8_50 ⟨by decide, by omega⟩ rfl rfl rfl (by decide) (by decide) dX8_against_28 ?_
      refine Z_iload_n dX8_against_31 rfl ?_
      obtain ⟨b20, h⟩ := h
      refine Z_iald (zin_c (by decide) (by omega) (by decide) (by decide) b20) dX8_against_32 ?_
      refine Z_bipush dX8_against_33 (by decide) ?_
      refine Z_icmp_ne (tgt := 44) dX8_against_35 (by decide) (fun c21 => ?_) (fun c21 => ?_)
      · have h := h.1 c21
        refine Z_iload_n dX8_against_44 rfl ?_
        refine Z_if_lt (tgt := 71) dX8_against_45 (by decide) (fun c22 => ?_) (fun c22 => ?_)
        · have h := h.1 c22
          refine Z_aload_n dX8_against_71 rfl ?_
          refine Z_iconst dX8_against_72 ?_
          refine Z_callVi h md_X8_fails sv_X8_fails lk_X8_187 zcX8 rfl ⟨by decide, by omega⟩ rfl rfl rfl rfl (Nat.le_of_ble_eq_true rfl) dX8_against_73 ⟨by decide, Nat.le_of_ble_eq_true rfl⟩ ⟨Nat.zero_le _, Nat.zero_le _⟩ ?_
          intro r23 μ24 h
          exact Z_ireturn dX8_against_76 ⟨_, rfl, h⟩
        · have h := h.2 c22
          refine Z_iload_n dX8_against_48 rfl ?_
          refine Z_aload_n dX8_against_49 rfl ?_
          refine Z_gr (t := 138) zcX8 fl_X8_53 ⟨by decide, by omega⟩ rfl rfl rfl (by decide) (by decide) dX8_against_50 ?_
          refine Z_iload_n dX8_against_53 rfl ?_
          obtain ⟨b25, h⟩ := h
          refine Z_iald (zin_c (by decide) (by omega) (by decide) (by decide) b25) dX8_against_54 ?_
          refine Z_icmp_gt (tgt := 71) dX8_against_55 (by decide) (fun c26 => ?_) (fun c26 => ?_)
          · have h := h.1 c26
            refine Z_aload_n dX8_against_71 rfl ?_
            refine Z_iconst dX8_against_72 ?_
            refine Z_callVi h md_X8_fails sv_X8_fails lk_X8_187 zcX8 rfl ⟨by decide, by omega⟩ rfl rfl rfl rfl (Nat.le_of_ble_eq_true rfl) dX8_against_73 ⟨by decide, Nat.le_of_ble_eq_true rfl⟩ ⟨Nat.zero_le _, Nat.zero_le _⟩ ?_
            intro r27 μ28 h
            exact Z_ireturn dX8_against_76 ⟨_, rfl, h⟩
          · have h := h.2 c26
            refine Z_iload dX8_against_58 rfl ?_
            refine Z_aload_n dX8_against_60 rfl ?_
            refine Z_gr (t := 138) zcX8 fl_X8_53 ⟨by decide, by omega⟩ rfl rfl rfl (by decide) (by decide) dX8_against_61 ?_
            refine Z_iload_n dX8_against_64 rfl ?_
            obtain ⟨b29, h⟩ := h
            refine Z_iald (zin_c (by decide) (by omega) (by decide) (by decide) b29) dX8_against_65 ?_
            refine Z_iload_n dX8_against_66 rfl ?_
            refine Z_isub dX8_against_67 ?_
            refine Z_icmp_le (tgt := 77) dX8_against_68 (by decide) (fun c30 => ?_) (fun c30 => ?_)
            · have h := h.1 c30
              refine Z_iconst dX8_against_77 ?_
              exact Z_ireturn dX8_against_78 ⟨_, rfl, h⟩
            · have h := h.2 c30
              refine Z_aload_n dX8_against_71 rfl ?_
              refine Z_iconst dX8_against_72 ?_
              refine Z_callVi h md_X8_fails sv_X8_fails lk_X8_187 zcX8 rfl ⟨by decide, by omega⟩ rfl rfl rfl rfl (Nat.le_of_ble_eq_true rfl) dX8_against_73 ⟨by decide, Nat.le_of_ble_eq_true rfl⟩ ⟨Nat.zero_le _, Nat.zero_le _⟩ ?_
              intro r31 μ32 h
              exact Z_ireturn dX8_against_76 ⟨_, rfl, h⟩
      · have h := h.2 c21
        refine Z_aload_n dX8_against_38 rfl ?_
        refine Z_iconst dX8_against_39 ?_
        refine Z_callVi h md_X8_fails sv_X8_fails lk_X8_187 zcX8 rfl ⟨by decide, by omega⟩ rfl rfl rfl rfl (Nat.le_of_ble_eq_true rfl) dX8_against_40 ⟨by decide, Nat.le_of_ble_eq_true rfl⟩ ⟨Nat.zero_le _, Nat.zero_le _⟩ ?_
        intro r33 μ34 h
        exact Z_ireturn dX8_against_43 ⟨_, rfl, h⟩
    · have h := h.2 c19
      refine Z_aload_n dX8_against_21 rfl ?_
      refine Z_iconst dX8_against_22 ?_
      refine Z_callVi h md_X8_fails sv_X8_fails lk_X8_187 zcX8 rfl ⟨by decide, by omega⟩ rfl rfl rfl rfl (Nat.le_of_ble_eq_true rfl) dX8_against_23 ⟨by decide, Nat.le_of_ble_eq_true rfl⟩ ⟨Nat.zero_le _, Nat.zero_le _⟩ ?_
      intro r35 μ36 h
      exact Z_ireturn dX8_against_26 ⟨_, rfl, h⟩
abbrev mX8_isSheet (G : zG) (n : Nat) (x0 : Int) (μ : zM) (K : Int → zM → Prop) : Prop := zMt G n 2 yX8_isSheet cX8_isSheet 1 (some .boolean) [Iv x0] μ (zKi K)
abbrev pX8_isSheet (G : zG) (n : Nat) (K : Int → zM → Prop) (pc : Nat) (lv : List (Option Value)) (st : List Value) (μ : zM) : Prop := Z G (zrm 2 0 0) RX8 "isSheet" cX8_isSheet 1 (some .boolean) (zPh G n (zKi K)) 0 0 pc lv st (zE G n μ)
theorem eX8_isSheet {G : zG} {n : Nat} (hn : 154 ≤ n) {x0 : Int} {μ : zM} {K : Int → zM → Prop}
    (h : (mX8_within G n x0 0 3 μ (fun r1 μ2 => (wr r1 = 0 ∨ wr r1 = 1) ∧ K r1 μ2))) :
    mX8_isSheet G n x0 μ K := by
  refine zMt_of (lv := [some (Iv x0)]) (by decide) rfl (Nat.le_of_ble_eq_true rfl) ?_
  show pX8_isSheet G n K 0 [some (Iv x0)] [] μ
  refine Z_iload_n dX8_isSheet_0 rfl ?_
  refine Z_iconst dX8_isSheet_1 ?_
  refine Z_iconst dX8_isSheet_2 ?_
  refine Z_callSi h md_X8_within sv_X8_within lk_X8_116 rfl rfl (Nat.le_of_ble_eq_true rfl) dX8_isSheet_3 ⟨by decide, Nat.le_of_ble_eq_true rfl⟩ ⟨Nat.zero_le _, Nat.zero_le _⟩ ?_
  intro r1 μ2 h
  exact Z_zreturn dX8_isSheet_6 h.1 ⟨_, rfl, h.2⟩
abbrev mX8_isLane (G : zG) (n : Nat) (x0 : Int) (μ : zM) (K : Int → zM → Prop) : Prop := zMt G n 2 yX8_isLane cX8_isLane 1 (some .boolean) [Iv x0] μ (zKi K)
abbrev pX8_isLane (G : zG) (n : Nat) (K : Int → zM → Prop) (pc : Nat) (lv : List (Option Value)) (st : List Value) (μ : zM) : Prop := Z G (zrm 2 0 0) RX8 "isLane" cX8_isLane 1 (some .boolean) (zPh G n (zKi K)) 0 0 pc lv st (zE G n μ)
theorem eX8_isLane {G : zG} {n : Nat} (hn : 154 ≤ n) {x0 : Int} {μ : zM} {K : Int → zM → Prop}
    (h : (mX8_within G n x0 0 2 μ (fun r1 μ2 => (wr r1 = 0 ∨ wr r1 = 1) ∧ K r1 μ2))) :
    mX8_isLane G n x0 μ K := by
  refine zMt_of (lv := [some (Iv x0)]) (by decide) rfl (Nat.le_of_ble_eq_true rfl) ?_
  show pX8_isLane G n K 0 [some (Iv x0)] [] μ
  refine Z_iload_n dX8_isLane_0 rfl ?_
  refine Z_iconst dX8_isLane_1 ?_
  refine Z_iconst dX8_isLane_2 ?_
  refine Z_callSi h md_X8_within sv_X8_within lk_X8_116 rfl rfl (Nat.le_of_ble_eq_true rfl) dX8_isLane_3 ⟨by decide, Nat.le_of_ble_eq_true rfl⟩ ⟨Nat.zero_le _, Nat.zero_le _⟩ ?_
  intro r1 μ2 h
  exact Z_zreturn dX8_isLane_6 h.1 ⟨_, rfl, h.2⟩
abbrev mX8_isEnd (G : zG) (n : Nat) (x1 : Int) (μ : zM) (K : Int → zM → Prop) : Prop := zMt G n 2 yX8_isEnd cX8_isEnd 2 (some .boolean) [Rv G 127, Iv x1] μ (zKi K)
abbrev pX8_isEnd (G : zG) (n : Nat) (K : Int → zM → Prop) (pc : Nat) (lv : List (Option Value)) (st : List Value) (μ : zM) : Prop := Z G (zrm 2 0 0) RX8 "isEnd" cX8_isEnd 2 (some .boolean) (zPh G n (zKi K)) 0 0 pc lv st (zE G n μ)
theorem eX8_isEnd {G : zG} {n : Nat} (hn : 154 ≤ n) {x1 : Int} {μ : zM} {K : Int → zM → Prop}
    (h : (((wr x1 < 0 → (K 0 μ)) ∧ (¬ (wr x1 < 0) → (mX8_wide G n  μ (fun r2 μ3 => ((wr r2 ≤ wr x1 → (K 0 μ3)) ∧ (¬ (wr r2 ≤ wr x1) → (K 1 μ3))))))))) :
    mX8_isEnd G n x1 μ K := by
  refine zMt_of (lv := [some (Rv G 127), some (Iv x1)]) (by decide) rfl (Nat.le_of_ble_eq_true rfl) ?_
  show pX8_isEnd G n K 0 [some (Rv G 127), some (Iv x1)] [] μ
  refine Z_iload_n dX8_isEnd_0 rfl ?_
  refine Z_if_lt (tgt := 16) dX8_isEnd_1 (by decide) (fun c1 => ?_) (fun c1 => ?_)
  · have h := h.1 c1
    refine Z_iconst dX8_isEnd_16 ?_
    exact Z_zreturn dX8_isEnd_17 (by decide) ⟨_, rfl, h⟩
  · have h := h.2 c1
    refine Z_iload_n dX8_isEnd_4 rfl ?_
    refine Z_aload_n dX8_isEnd_5 rfl ?_
    refine Z_callVi h md_X8_wide sv_X8_wide lk_X8_201 zcX8 rfl ⟨by decide, by omega⟩ rfl rfl rfl rfl (Nat.le_of_ble_eq_true rfl) dX8_isEnd_6 ⟨by decide, Nat.le_of_ble_eq_true rfl⟩ ⟨Nat.zero_le _, Nat.zero_le _⟩ ?_
    intro r2 μ3 h
    refine Z_icmp_ge (tgt := 16) dX8_isEnd_9 (by decide) (fun c4 => ?_) (fun c4 => ?_)
    · have h := h.1 c4
      refine Z_iconst dX8_isEnd_16 ?_
      exact Z_zreturn dX8_isEnd_17 (by decide) ⟨_, rfl, h⟩
    · have h := h.2 c4
      refine Z_iconst dX8_isEnd_12 ?_
      refine Z_goto (tgt := 17) dX8_isEnd_13 (by decide) ?_
      exact Z_zreturn dX8_isEnd_17 (by decide) ⟨_, rfl, h⟩
abbrev mX8_carriedFour (G : zG) (n : Nat) (x0 x1 : Int) (μ : zM) (K : Int → zM → Prop) : Prop := zMt G n 2 yX8_carriedFour cX8_carriedFour 4 (some .int) [Iv x0, Iv x1] μ (zKi K)
abbrev pX8_carriedFour (G : zG) (n : Nat) (K : Int → zM → Prop) (pc : Nat) (lv : List (Option Value)) (st : List Value) (μ : zM) : Prop := Z G (zrm 2 0 0) RX8 "carriedFour" cX8_carriedFour 4 (some .int) (zPh G n (zKi K)) 0 0 pc lv st (zE G n μ)
theorem eX8_carriedFour {G : zG} {n : Nat} (hn : 154 ≤ n) {x0 x1 : Int} {μ : zM} {K : Int → zM → Prop}
    (h : (∀ v1 : Int, v1 = zxor (zand (zshr x1 (zdiv x0 2)) 1) (zand x0 1) → mX8_carriedTwo G n (zdiv x0 2) (zshr x1 (4 + v1)) μ (fun r2 μ3 => K ((2 * r2) + (zxor v1 (zand (zshr x1 (2 + r2)) 1))) μ3))) :
    mX8_carriedFour G n x0 x1 μ K := by
  refine zMt_of (lv := [some (Iv x0), some (Iv x1), none, none]) (by decide) rfl (Nat.le_of_ble_eq_true rfl) ?_
  show pX8_carriedFour G n K 0 [some (Iv x0), some (Iv x1), none, none] [] μ
  refine Z_iload_n dX8_carriedFour_0 rfl ?_
  refine Z_iload_n dX8_carriedFour_1 rfl ?_
  refine Z_iconst dX8_carriedFour_2 ?_
  refine Z_idiv dX8_carriedFour_3 (by decide) ?_
  refine Z_ishr dX8_carriedFour_4 ?_
  refine Z_iconst dX8_carriedFour_5 ?_
  refine Z_iand dX8_carriedFour_6 ?_
  refine Z_iload_n dX8_carriedFour_7 rfl ?_
  refine Z_iconst dX8_carriedFour_8 ?_
  refine Z_iand dX8_carriedFour_9 ?_
  refine Z_ixor dX8_carriedFour_10 ?_
  obtain ⟨v1, ev1⟩ : ∃ z : Int, z = zxor (zand (zshr x1 (zdiv x0 2)) 1) (zand x0 1) := ⟨_, rfl⟩
  have h := h v1 ev1
  refine Z_nmi ev1 ?_
  refine Z_istore_n (lv2 := [some (Iv x0), some (Iv x1), some (Iv v1), none]) dX8_carriedFour_11 rfl (by decide) rfl ?_
  refine Z_iload_n dX8_carriedFour_12 rfl ?_
  refine Z_iconst dX8_carriedFour_13 ?_
  refine Z_idiv dX8_carriedFour_14 (by decide) ?_
  refine Z_iload_n dX8_carriedFour_15 rfl ?_
  refine Z_iconst dX8_carriedFour_16 ?_
  refine Z_iload_n dX8_carriedFour_17 rfl ?_
  refine Z_iadd dX8_carriedFour_18 ?_
  refine Z_ishr dX8_carriedFour_19 ?_
  refine Z_callSi h md_X8_carriedTwo sv_X8_carriedTwo lk_X8_207 rfl rfl (Nat.le_of_ble_eq_true rfl) dX8_carriedFour_20 ⟨by decide, Nat.le_of_ble_eq_true rfl⟩ ⟨Nat.zero_le _, Nat.zero_le _⟩ ?_
  intro r2 μ3 h
  refine Z_istore_n (lv2 := [some (Iv x0), some (Iv x1), some (Iv v1), some (Iv r2)]) dX8_carriedFour_23 rfl (by decide) rfl ?_
  refine Z_iconst dX8_carriedFour_24 ?_
  refine Z_iload_n dX8_carriedFour_25 rfl ?_
  refine Z_imul dX8_carriedFour_26 ?_
  refine Z_iload_n dX8_carriedFour_27 rfl ?_
  refine Z_iload_n dX8_carriedFour_28 rfl ?_
  refine Z_iconst dX8_carriedFour_29 ?_
  refine Z_iload_n dX8_carriedFour_30 rfl ?_
  refine Z_iadd dX8_carriedFour_31 ?_
  refine Z_ishr dX8_carriedFour_32 ?_
  refine Z_iconst dX8_carriedFour_33 ?_
  refine Z_iand dX8_carriedFour_34 ?_
  refine Z_ixor dX8_carriedFour_35 ?_
  refine Z_iadd dX8_carriedFour_36 ?_
  exact Z_ireturn dX8_carriedFour_37 ⟨_, rfl, h⟩
abbrev mX8_lineOf (G : zG) (n : Nat) (x1 x2 : Int) (μ : zM) (K : Int → zM → Prop) : Prop := zMt G n 2 yX8_lineOf cX8_lineOf 5 (some .int) [Rv G 127, Iv x1, Iv x2] μ (zKi K)
abbrev pX8_lineOf (G : zG) (n : Nat) (K : Int → zM → Prop) (pc : Nat) (lv : List (Option Value)) (st : List Value) (μ : zM) : Prop := Z G (zrm 2 0 0) RX8 "lineOf" cX8_lineOf 5 (some .int) (zPh G n (zKi K)) 0 0 pc lv st (zE G n μ)
theorem eX8_lineOf {G : zG} {n : Nat} (hn : 154 ≤ n) {x1 x2 : Int} {μ : zM} {K : Int → zM → Prop}
    (h : (pX8_lineOf G n K 5 [some (Rv G 127), some (Iv x1), some (Iv x2), some (Iv x1), some (Iv 0)] [] μ)) :
    mX8_lineOf G n x1 x2 μ K := by
  refine zMt_of (lv := [some (Rv G 127), some (Iv x1), some (Iv x2), none, none]) (by decide) rfl (Nat.le_of_ble_eq_true rfl) ?_
  show pX8_lineOf G n K 0 [some (Rv G 127), some (Iv x1), some (Iv x2), none, none] [] μ
  refine Z_iload_n dX8_lineOf_0 rfl ?_
  refine Z_istore_n (lv2 := [some (Rv G 127), some (Iv x1), some (Iv x2), some (Iv x1), none]) dX8_lineOf_1 rfl (by decide) rfl ?_
  refine Z_iconst dX8_lineOf_2 ?_
  refine Z_istore (lv2 := [some (Rv G 127), some (Iv x1), some (Iv x2), some (Iv x1), some (Iv 0)]) dX8_lineOf_3 rfl (by decide) rfl ?_
  exact Z_cut h ⟨rfl, rfl, rfl, rfl, rfl, trivial⟩
theorem bX8_lineOf_5 {G : zG} {n : Nat} (hn : 154 ≤ n) {x1 x2 x3 x4 : Int} {μ : zM} {K : Int → zM → Prop}
    (h : (((wr x2 < wr x4 → (K x3 μ)) ∧ (¬ (wr x2 < wr x4) → (mX8_wide G n  μ (fun r2 μ3 => ((wr (2 * x3) < wr r2 → (∀ v5 : Int, v5 = 2 * x3 → (0 ≤ wr x1 ∧ wr x1 < 8) ∧ ∀ v7 : Int, v7 = (2 * (zdiv v5 2)) + (zand (zshr (μ3 133 (wr x1)) (((μ3 127 12) - 1) - x4)) 1) → pX8_lineOf G n K 5 [some (Rv G 127), some (Iv x1), some (Iv x2), some (Iv v7), some (Iv (x4 + 1))] [] μ3)) ∧ (¬ (wr (2 * x3) < wr r2) → (mX8_wide G n  μ3 (fun r8 μ9 => ∀ v10 : Int, v10 = ((2 * x3) - r8) + 1 → (0 ≤ wr x1 ∧ wr x1 < 8) ∧ ∀ v12 : Int, v12 = (2 * (zdiv v10 2)) + (zand (zshr (μ9 133 (wr x1)) (((μ9 127 12) - 1) - x4)) 1) → pX8_lineOf G n K 5 [some (Rv G 127), some (Iv x1), some (Iv x2), some (Iv v12), some (Iv (x4 + 1))] [] μ9)))))))))) :
    pX8_lineOf G n K 5 [some (Rv G 127), some (Iv x1), some (Iv x2), some (Iv x3), some (Iv x4)] [] μ := by
  refine Z_iload dX8_lineOf_5 rfl ?_
  refine Z_iload_n dX8_lineOf_7 rfl ?_
  refine Z_icmp_gt (tgt := 69) dX8_lineOf_8 (by decide) (fun c1 => ?_) (fun c1 => ?_)
  · have h := h.1 c1
    refine Z_iload_n dX8_lineOf_69 rfl ?_
    exact Z_ireturn dX8_lineOf_70 ⟨_, rfl, h⟩
  · have h := h.2 c1
    refine Z_iconst dX8_lineOf_11 ?_
    refine Z_iload_n dX8_lineOf_12 rfl ?_
    refine Z_imul dX8_lineOf_13 ?_
    refine Z_aload_n dX8_lineOf_14 rfl ?_
    refine Z_callVi h md_X8_wide sv_X8_wide lk_X8_201 zcX8 rfl ⟨by decide, by omega⟩ rfl rfl rfl rfl (Nat.le_of_ble_eq_true rfl) dX8_lineOf_15 ⟨by decide, Nat.le_of_ble_eq_true rfl⟩ ⟨Nat.zero_le _, Nat.zero_le _⟩ ?_
    intro r2 μ3 h
    refine Z_icmp_lt (tgt := 34) dX8_lineOf_18 (by decide) (fun c4 => ?_) (fun c4 => ?_)
    · have h := h.1 c4
      refine Z_iconst dX8_lineOf_34 ?_
      refine Z_iload_n dX8_lineOf_35 rfl ?_
      refine Z_imul dX8_lineOf_36 ?_
      obtain ⟨v5, ev5⟩ : ∃ z : Int, z = 2 * x3 := ⟨_, rfl⟩
      have h := h v5 ev5
      refine Z_nmi ev5 ?_
      refine Z_istore_n (lv2 := [some (Rv G 127), some (Iv x1), some (Iv x2), some (Iv v5), some (Iv x4)]) dX8_lineOf_37 rfl (by decide) rfl ?_
      refine Z_iconst dX8_lineOf_38 ?_
      refine Z_iload_n dX8_lineOf_39 rfl ?_
      refine Z_iconst dX8_lineOf_40 ?_
      refine Z_idiv dX8_lineOf_41 (by decide) ?_
      refine Z_imul dX8_lineOf_42 ?_
      refine Z_aload_n dX8_lineOf_43 rfl ?_
      refine Z_gr (t := 133) zcX8 fl_X8_38 ⟨by decide, by omega⟩ rfl rfl rfl (by decide) (by decide) dX8_lineOf_44 ?_
      refine Z_iload_n dX8_lineOf_47 rfl ?_
      obtain ⟨b6, h⟩ := h
      refine Z_iald (zin_c (by decide) (by omega) (by decide) (by decide) b6) dX8_lineOf_48 ?_
      refine Z_aload_n dX8_lineOf_49 rfl ?_
      refine Y_gi 12 zcX8 fl_X8_35 ⟨by decide, by omega⟩ rfl rfl rfl (by decide) dX8_lineOf_50 rfl ?_
      refine Z_iconst dX8_lineOf_53 ?_
      refine Z_isub dX8_lineOf_54 ?_
      refine Z_iload dX8_lineOf_55 rfl ?_
      refine Z_isub dX8_lineOf_57 ?_
      refine Z_ishr dX8_lineOf_58 ?_
      refine Z_iconst dX8_lineOf_59 ?_
      refine Z_iand dX8_lineOf_60 ?_
      refine Z_iadd dX8_lineOf_61 ?_
      obtain ⟨v7, ev7⟩ : ∃ z : Int, z = (2 * (zdiv v5 2)) + (zand (zshr (μ3 133 (wr x1)) (((μ3 127 12) - 1) - x4)) 1) := ⟨_, rfl⟩
      have h := h v7 ev7
      refine Z_nmi ev7 ?_
      refine Z_istore_n (lv2 := [some (Rv G 127), some (Iv x1), some (Iv x2), some (Iv v7), some (Iv x4)]) dX8_lineOf_62 rfl (by decide) rfl ?_
      refine Z_iinc (lv2 := [some (Rv G 127), some (Iv x1), some (Iv x2), some (Iv v7), some (Iv (x4 + 1))]) dX8_lineOf_63 rfl rfl (by decide) rfl ?_
      refine Z_goto (tgt := 5) dX8_lineOf_66 (by decide) ?_
      exact Z_cut h ⟨rfl, rfl, rfl, rfl, rfl, trivial⟩
    · have h := h.2 c4
      refine Z_iconst dX8_lineOf_21 ?_
      refine Z_iload_n dX8_lineOf_22 rfl ?_
      refine Z_imul dX8_lineOf_23 ?_
      refine Z_aload_n dX8_lineOf_24 rfl ?_
      refine Z_callVi h md_X8_wide sv_X8_wide lk_X8_201 zcX8 rfl ⟨by decide, by omega⟩ rfl rfl rfl rfl (Nat.le_of_ble_eq_true rfl) dX8_lineOf_25 ⟨by decide, Nat.le_of_ble_eq_true rfl⟩ ⟨Nat.zero_le _, Nat.zero_le _⟩ ?_
      intro r8 μ9 h
      refine Z_isub dX8_lineOf_28 ?_
      refine Z_iconst dX8_lineOf_29 ?_
      refine Z_iadd dX8_lineOf_30 ?_
      refine Z_goto (tgt := 37) dX8_lineOf_31 (by decide) ?_
      obtain ⟨v10, ev10⟩ : ∃ z : Int, z = ((2 * x3) - r8) + 1 := ⟨_, rfl⟩
      have h := h v10 ev10
      refine Z_nmi ev10 ?_
      refine Z_istore_n (lv2 := [some (Rv G 127), some (Iv x1), some (Iv x2), some (Iv v10), some (Iv x4)]) dX8_lineOf_37 rfl (by decide) rfl ?_
      refine Z_iconst dX8_lineOf_38 ?_
      refine Z_iload_n dX8_lineOf_39 rfl ?_
      refine Z_iconst dX8_lineOf_40 ?_
      refine Z_idiv dX8_lineOf_41 (by decide) ?_
      refine Z_imul dX8_lineOf_42 ?_
      refine Z_aload_n dX8_lineOf_43 rfl ?_
      refine Z_gr (t := 133) zcX8 fl_X8_38 ⟨by decide, by omega⟩ rfl rfl rfl (by decide) (by decide) dX8_lineOf_44 ?_
      refine Z_iload_n dX8_lineOf_47 rfl ?_
      obtain ⟨b11, h⟩ := h
      refine Z_iald (zin_c (by decide) (by omega) (by decide) (by decide) b11) dX8_lineOf_48 ?_
      refine Z_aload_n dX8_lineOf_49 rfl ?_
      refine Y_gi 12 zcX8 fl_X8_35 ⟨by decide, by omega⟩ rfl rfl rfl (by decide) dX8_lineOf_50 rfl ?_
      refine Z_iconst dX8_lineOf_53 ?_
      refine Z_isub dX8_lineOf_54 ?_
      refine Z_iload dX8_lineOf_55 rfl ?_
      refine Z_isub dX8_lineOf_57 ?_
      refine Z_ishr dX8_lineOf_58 ?_
      refine Z_iconst dX8_lineOf_59 ?_
      refine Z_iand dX8_lineOf_60 ?_
      refine Z_iadd dX8_lineOf_61 ?_
      obtain ⟨v12, ev12⟩ : ∃ z : Int, z = (2 * (zdiv v10 2)) + (zand (zshr (μ9 133 (wr x1)) (((μ9 127 12) - 1) - x4)) 1) := ⟨_, rfl⟩
      have h := h v12 ev12
      refine Z_nmi ev12 ?_
      refine Z_istore_n (lv2 := [some (Rv G 127), some (Iv x1), some (Iv x2), some (Iv v12), some (Iv x4)]) dX8_lineOf_62 rfl (by decide) rfl ?_
      refine Z_iinc (lv2 := [some (Rv G 127), some (Iv x1), some (Iv x2), some (Iv v12), some (Iv (x4 + 1))]) dX8_lineOf_63 rfl rfl (by decide) rfl ?_
      refine Z_goto (tgt := 5) dX8_lineOf_66 (by decide) ?_
      exact Z_cut h ⟨rfl, rfl, rfl, rfl, rfl, trivial⟩
abbrev mX8_wires (G : zG) (n : Nat) (x1 : Int) (μ : zM) (K : Int → zM → Prop) : Prop := zMt G n 2 yX8_wires cX8_wires 3 (some .int) [Rv G 127, Iv x1] μ (zKi K)
abbrev pX8_wires (G : zG) (n : Nat) (K : Int → zM → Prop) (pc : Nat) (lv : List (Option Value)) (st : List Value) (μ : zM) : Prop := Z G (zrm 2 0 0) RX8 "wires" cX8_wires 3 (some .int) (zPh G n (zKi K)) 0 0 pc lv st (zE G n μ)
theorem eX8_wires {G : zG} {n : Nat} (hn : 154 ≤ n) {x1 : Int} {μ : zM} {K : Int → zM → Prop}
    (h : (mX8_within G n x1 2 8 μ (fun r1 μ2 => ((¬ wr r1 = 0 → (∀ v4 : Int, v4 = μ2 127 25 → ∀ μ5 : zM, μ5 = zu μ2 127 24 x1 → ∀ μ6 : zM, μ6 = zu μ5 127 25 0 → K v4 μ6)) ∧ (wr r1 = 0 → (K ((-2)) μ2)))))) :
    mX8_wires G n x1 μ K := by
  refine zMt_of (lv := [some (Rv G 127), some (Iv x1), none]) (by decide) rfl (Nat.le_of_ble_eq_true rfl) ?_
  show pX8_wires G n K 0 [some (Rv G 127), some (Iv x1), none] [] μ
  refine Z_iload_n dX8_wires_0 rfl ?_
  refine Z_iconst dX8_wires_1 ?_
  refine Z_bipush dX8_wires_2 (by decide) ?_
  refine Z_callSi h md_X8_within sv_X8_within lk_X8_116 rfl rfl (Nat.le_of_ble_eq_true rfl) dX8_wires_4 ⟨by decide, Nat.le_of_ble_eq_true rfl⟩ ⟨Nat.zero_le _, Nat.zero_le _⟩ ?_
  intro r1 μ2 h
  refine Z_if_ne (tgt := 13) dX8_wires_7 (by decide) (fun c3 => ?_) (fun c3 => ?_)
  · have h := h.1 c3
    refine Z_aload_n dX8_wires_13 rfl ?_
    refine Y_gi 25 zcX8 fl_X8_234 ⟨by decide, by omega⟩ rfl rfl rfl (by decide) dX8_wires_14 rfl ?_
    obtain ⟨v4, ev4⟩ : ∃ z : Int, z = μ2 127 25 := ⟨_, rfl⟩
    have h := h v4 ev4
    refine Z_nmi ev4 ?_
    refine Z_istore_n (lv2 := [some (Rv G 127), some (Iv x1), some (Iv v4)]) dX8_wires_17 rfl (by decide) rfl ?_
    refine Z_aload_n dX8_wires_18 rfl ?_
    refine Z_iload_n dX8_wires_19 rfl ?_
    refine Y_pi 24 zcX8 fk_X8_62 ⟨by decide, by omega⟩ rfl rfl rfl (by decide) rfl (tyX8_ok 24 (by decide)) dX8_wires_20 rfl ?_
    obtain ⟨μ5, eμ5⟩ : ∃ z : zM, z = zu μ2 127 24 x1 := ⟨_, rfl⟩
    have h := h μ5 eμ5
    refine Z_mem eμ5 ?_
    refine Z_aload_n dX8_wires_23 rfl ?_
    refine Z_iconst dX8_wires_24 ?_
    refine Y_pi 25 zcX8 fk_X8_234 ⟨by decide, by omega⟩ rfl rfl rfl (by decide) rfl (tyX8_ok 25 (by decide)) dX8_wires_25 rfl ?_
    obtain ⟨μ6, eμ6⟩ : ∃ z : zM, z = zu μ5 127 25 0 := ⟨_, rfl⟩
    have h := h μ6 eμ6
    refine Z_mem eμ6 ?_
    refine Z_iload_n dX8_wires_28 rfl ?_
    exact Z_ireturn dX8_wires_29 ⟨_, rfl, h⟩
  · have h := h.2 c3
    refine Z_bipush dX8_wires_10 (by decide) ?_
    exact Z_ireturn dX8_wires_12 ⟨_, rfl, h⟩
abbrev mX8_compare (G : zG) (n : Nat) (x1 x2 : Int) (μ : zM) (K : Int → zM → Prop) : Prop := zMt G n 2 yX8_compare cX8_compare 3 (some .int) [Rv G 127, Iv x1, Iv x2] μ (zKi K)
abbrev pX8_compare (G : zG) (n : Nat) (K : Int → zM → Prop) (pc : Nat) (lv : List (Option Value)) (st : List Value) (μ : zM) : Prop := Z G (zrm 2 0 0) RX8 "compare" cX8_compare 3 (some .int) (zPh G n (zKi K)) 0 0 pc lv st (zE G n μ)
theorem eX8_compare {G : zG} {n : Nat} (hn : 154 ≤ n) {x1 x2 : Int} {μ : zM} {K : Int → zM → Prop}
    (h : (mX8_isWire G n x1 μ (fun r1 μ2 => ((wr r1 = 0 → (K ((-1)) μ2)) ∧ (¬ (wr r1 = 0) → (mX8_isWire G n x2 μ2 (fun r4 μ5 => ((¬ wr r4 = 0 → (((¬ wr x1 = wr x2 → (((¬ wr (μ5 127 25) = wr 30 → ((0 ≤ wr (μ5 127 25) ∧ wr (μ5 127 25) < 30) ∧ ∀ μ10 : zM, μ10 = zu μ5 141 (wr (μ5 127 25)) x1 → (0 ≤ wr (μ10 127 25) ∧ wr (μ10 127 25) < 30) ∧ ∀ μ12 : zM, μ12 = zu μ10 142 (wr (μ10 127 25)) x2 → ∀ μ13 : zM, μ13 = zu μ12 127 25 ((μ12 127 25) + 1) → K ((μ13 127 25) - 1) μ13)) ∧ (wr (μ5 127 25) = wr 30 → (K ((-4)) μ5))))) ∧ (wr x1 = wr x2 → (K ((-2)) μ5))))) ∧ (wr r4 = 0 → (K ((-1)) μ5)))))))))) :
    mX8_compare G n x1 x2 μ K := by
  refine zMt_of (lv := [some (Rv G 127), some (Iv x1), some (Iv x2)]) (by decide) rfl (Nat.le_of_ble_eq_true rfl) ?_
  show pX8_compare G n K 0 [some (Rv G 127), some (Iv x1), some (Iv x2)] [] μ
  refine Z_aload_n dX8_compare_0 rfl ?_
  refine Z_iload_n dX8_compare_1 rfl ?_
  refine Z_callVi h md_X8_isWire sv_X8_isWire lk_X8_237 zcX8 rfl ⟨by decide, by omega⟩ rfl rfl rfl rfl (Nat.le_of_ble_eq_true rfl) dX8_compare_2 ⟨by decide, Nat.le_of_ble_eq_true rfl⟩ ⟨Nat.zero_le _, Nat.zero_le _⟩ ?_
  intro r1 μ2 h
  refine Z_if_eq (tgt := 16) dX8_compare_5 (by decide) (fun c3 => ?_) (fun c3 => ?_)
  · have h := h.1 c3
    refine Z_iconst dX8_compare_16 ?_
    exact Z_ireturn dX8_compare_17 ⟨_, rfl, h⟩
  · have h := h.2 c3
    refine Z_aload_n dX8_compare_8 rfl ?_
    refine Z_iload_n dX8_compare_9 rfl ?_
    refine Z_callVi h md_X8_isWire sv_X8_isWire lk_X8_237 zcX8 rfl ⟨by decide, by omega⟩ rfl rfl rfl rfl (Nat.le_of_ble_eq_true rfl) dX8_compare_10 ⟨by decide, Nat.le_of_ble_eq_true rfl⟩ ⟨Nat.zero_le _, Nat.zero_le _⟩ ?_
    intro r4 μ5 h
    refine Z_if_ne (tgt := 18) dX8_compare_13 (by decide) (fun c6 => ?_) (fun c6 => ?_)
    · have h := h.1 c6
      refine Z_iload_n dX8_compare_18 rfl ?_
      refine Z_iload_n dX8_compare_19 rfl ?_
      refine Z_icmp_ne (tgt := 26) dX8_compare_20 (by decide) (fun c7 => ?_) (fun c7 => ?_)
      · have h := h.1 c7
        refine Z_aload_n dX8_compare_26 rfl ?_
        refine Y_gi 25 zcX8 fl_X8_234 ⟨by decide, by omega⟩ rfl rfl rfl (by decide) dX8_compare_27 rfl ?_
        refine Z_bipush dX8_compare_30 (by decide) ?_
        refine Z_icmp_ne (tgt := 38) dX8_compare_32 (by decide) (fun c8 => ?_) (fun c8 => ?_)
        · have h := h.1 c8
          refine Z_aload_n dX8_compare_38 rfl ?_
          refine Z_gr (t := 141) zcX8 fl_X8_65 ⟨by decide, by omega⟩ rfl rfl rfl (by decide) (by decide) dX8_compare_39 ?_
          refine Z_aload_n dX8_compare_42 rfl ?_
          refine Y_gi 25 zcX8 fl_X8_234 ⟨by decide, by omega⟩ rfl rfl rfl (by decide) dX8_compare_43 rfl ?_
          refine Z_iload_n dX8_compare_46 rfl ?_
          obtain ⟨b9, h⟩ := h
          refine Z_iast (zin_c (by decide) (by omega) (by decide) (by decide) b9) dX8_compare_47 ?_
          obtain ⟨μ10, eμ10⟩ : ∃ z : zM, z = zu μ5 141 (wr (μ5 127 25)) x1 := ⟨_, rfl⟩
          have h := h μ10 eμ10
          refine Z_mem eμ10 ?_
          refine Z_aload_n dX8_compare_48 rfl ?_
          refine Z_gr (t := 142) zcX8 fl_X8_68 ⟨by decide, by omega⟩ rfl rfl rfl (by decide) (by decide) dX8_compare_49 ?_
          refine Z_aload_n dX8_compare_52 rfl ?_
          refine Y_gi 25 zcX8 fl_X8_234 ⟨by decide, by omega⟩ rfl rfl rfl (by decide) dX8_compare_53 rfl ?_
          refine Z_iload_n dX8_compare_56 rfl ?_
          obtain ⟨b11, h⟩ := h
          refine Z_iast (zin_c (by decide) (by omega) (by decide) (by decide) b11) dX8_compare_57 ?_
          obtain ⟨μ12, eμ12⟩ : ∃ z : zM, z = zu μ10 142 (wr (μ10 127 25)) x2 := ⟨_, rfl⟩
          have h := h μ12 eμ12
          refine Z_mem eμ12 ?_
          refine Z_aload_n dX8_compare_58 rfl ?_
          refine Z_dup dX8_compare_59 rfl ?_
          refine Y_gi 25 zcX8 fl_X8_234 ⟨by decide, by omega⟩ rfl rfl rfl (by decide) dX8_compare_60 rfl ?_
          refine Z_iconst dX8_compare_63 ?_
          refine Z_iadd dX8_compare_64 ?_
          refine Y_pi 25 zcX8 fk_X8_234 ⟨by decide, by omega⟩ rfl rfl rfl (by decide) rfl (tyX8_ok 25 (by decide)) dX8_compare_65 rfl ?_
          obtain ⟨μ13, eμ13⟩ : ∃ z : zM, z = zu μ12 127 25 ((μ12 127 25) + 1) := ⟨_, rfl⟩
          have h := h μ13 eμ13
          refine Z_mem eμ13 ?_
          refine Z_aload_n dX8_compare_68 rfl ?_
          refine Y_gi 25 zcX8 fl_X8_234 ⟨by decide, by omega⟩ rfl rfl rfl (by decide) dX8_compare_69 rfl ?_
          refine Z_iconst dX8_compare_72 ?_
          refine Z_isub dX8_compare_73 ?_
          exact Z_ireturn dX8_compare_74 ⟨_, rfl, h⟩
        · have h := h.2 c8
          refine Z_bipush dX8_compare_35 (by decide) ?_
          exact Z_ireturn dX8_compare_37 ⟨_, rfl, h⟩
      · have h := h.2 c7
        refine Z_bipush dX8_compare_23 (by decide) ?_
        exact Z_ireturn dX8_compare_25 ⟨_, rfl, h⟩
    · have h := h.2 c6
      refine Z_iconst dX8_compare_16 ?_
      exact Z_ireturn dX8_compare_17 ⟨_, rfl, h⟩
abbrev mX8_isIdle (G : zG) (n : Nat) (x1 : Int) (μ : zM) (K : Int → zM → Prop) : Prop := zMt G n 2 yX8_isIdle cX8_isIdle 4 (some .boolean) [Rv G 127, Iv x1] μ (zKi K)
abbrev pX8_isIdle (G : zG) (n : Nat) (K : Int → zM → Prop) (pc : Nat) (lv : List (Option Value)) (st : List Value) (μ : zM) : Prop := Z G (zrm 2 0 0) RX8 "isIdle" cX8_isIdle 4 (some .boolean) (zPh G n (zKi K)) 0 0 pc lv st (zE G n μ)
theorem eX8_isIdle {G : zG} {n : Nat} (hn : 154 ≤ n) {x1 : Int} {μ : zM} {K : Int → zM → Prop}
    (h : (pX8_isIdle G n K 2 [some (Rv G 127), some (Iv x1), some (Iv 0), none] [] μ)) :
    mX8_isIdle G n x1 μ K := by
  refine zMt_of (lv := [some (Rv G 127), some (Iv x1), none, none]) (by decide) rfl (Nat.le_of_ble_eq_true rfl) ?_
  show pX8_isIdle G n K 0 [some (Rv G 127), some (Iv x1), none, none] [] μ
  refine Z_iconst dX8_isIdle_0 ?_
  refine Z_istore_n (lv2 := [some (Rv G 127), some (Iv x1), some (Iv 0), none]) dX8_isIdle_1 rfl (by decide) rfl ?_
  exact Z_cut h ⟨rfl, rfl, rfl, trivial, trivial⟩
theorem bX8_isIdle_2 {G : zG} {n : Nat} (hn : 154 ≤ n) {x1 x2 : Int} {μ : zM} {K : Int → zM → Prop}
    (h : (((wr (zshl 1 (μ 127 24)) ≤ wr x2 → (K 1 μ)) ∧ (¬ (wr (zshl 1 (μ 127 24)) ≤ wr x2) → (mX8_through G n x2 x1 μ (fun r2 μ3 => (0 ≤ wr x1 ∧ wr x1 < 30) ∧ ((¬ wr (zand (zshr r2 (μ3 141 (wr x1))) 1) = wr 1 → (pX8_isIdle G n K 2 [some (Rv G 127), some (Iv x1), some (Iv (x2 + 1)), none] [] μ3)) ∧ (wr (zand (zshr r2 (μ3 141 (wr x1))) 1) = wr 1 → ((0 ≤ wr x1 ∧ wr x1 < 30) ∧ ((¬ wr (zand (zshr r2 (μ3 142 (wr x1))) 1) = 0 → (pX8_isIdle G n K 2 [some (Rv G 127), some (Iv x1), some (Iv (x2 + 1)), none] [] μ3)) ∧ (wr (zand (zshr r2 (μ3 142 (wr x1))) 1) = 0 → (K 0 μ3)))))))))))) :
    pX8_isIdle G n K 2 [some (Rv G 127), some (Iv x1), some (Iv x2), none] [] μ := by
  refine Z_iload_n dX8_isIdle_2 rfl ?_
  refine Z_iconst dX8_isIdle_3 ?_
  refine Z_aload_n dX8_isIdle_4 rfl ?_
  refine Y_gi 24 zcX8 fl_X8_62 ⟨by decide, by omega⟩ rfl rfl rfl (by decide) dX8_isIdle_5 rfl ?_
  refine Z_ishl dX8_isIdle_8 ?_
  refine Z_icmp_ge (tgt := 54) dX8_isIdle_9 (by decide) (fun c1 => ?_) (fun c1 => ?_)
  · have h := h.1 c1
    refine Z_iconst dX8_isIdle_54 ?_
    exact Z_zreturn dX8_isIdle_55 (by decide) ⟨_, rfl, h⟩
  · have h := h.2 c1
    refine Z_aload_n dX8_isIdle_12 rfl ?_
    refine Z_iload_n dX8_isIdle_13 rfl ?_
    refine Z_iload_n dX8_isIdle_14 rfl ?_
    refine Z_callVi h md_X8_through sv_X8_through lk_X8_240 zcX8 rfl ⟨by decide, by omega⟩ rfl rfl rfl rfl (Nat.le_of_ble_eq_true rfl) dX8_isIdle_15 ⟨by decide, Nat.le_of_ble_eq_true rfl⟩ ⟨Nat.zero_le _, Nat.zero_le _⟩ ?_
    intro r2 μ3 h
    refine Z_istore_n (lv2 := [some (Rv G 127), some (Iv x1), some (Iv x2), some (Iv r2)]) dX8_isIdle_18 rfl (by decide) rfl ?_
    refine Z_iload_n dX8_isIdle_19 rfl ?_
    refine Z_aload_n dX8_isIdle_20 rfl ?_
    refine Z_gr (t := 141) zcX8 fl_X8_65 ⟨by decide, by omega⟩ rfl rfl rfl (by decide) (by decide) dX8_isIdle_21 ?_
    refine Z_iload_n dX8_isIdle_24 rfl ?_
    obtain ⟨b4, h⟩ := h
    refine Z_iald (zin_c (by decide) (by omega) (by decide) (by decide) b4) dX8_isIdle_25 ?_
    refine Z_ishr dX8_isIdle_26 ?_
    refine Z_iconst dX8_isIdle_27 ?_
    refine Z_iand dX8_isIdle_28 ?_
    refine Z_iconst dX8_isIdle_29 ?_
    refine Z_icmp_ne (tgt := 48) dX8_isIdle_30 (by decide) (fun c5 => ?_) (fun c5 => ?_)
    · have h := h.1 c5
      refine Z_iinc (lv2 := [some (Rv G 127), some (Iv x1), some (Iv (x2 + 1)), some (Iv r2)]) dX8_isIdle_48 rfl rfl (by decide) rfl ?_
      refine Z_goto (tgt := 2) dX8_isIdle_51 (by decide) ?_
      exact Z_cut h ⟨rfl, rfl, rfl, trivial, trivial⟩
    · have h := h.2 c5
      refine Z_iload_n dX8_isIdle_33 rfl ?_
      refine Z_aload_n dX8_isIdle_34 rfl ?_
      refine Z_gr (t := 142) zcX8 fl_X8_68 ⟨by decide, by omega⟩ rfl rfl rfl (by decide) (by decide) dX8_isIdle_35 ?_
      refine Z_iload_n dX8_isIdle_38 rfl ?_
      obtain ⟨b6, h⟩ := h
      refine Z_iald (zin_c (by decide) (by omega) (by decide) (by decide) b6) dX8_isIdle_39 ?_
      refine Z_ishr dX8_isIdle_40 ?_
      refine Z_iconst dX8_isIdle_41 ?_
      refine Z_iand dX8_isIdle_42 ?_
      refine Z_if_ne (tgt := 48) dX8_isIdle_43 (by decide) (fun c7 => ?_) (fun c7 => ?_)
      · have h := h.1 c7
        refine Z_iinc (lv2 := [some (Rv G 127), some (Iv x1), some (Iv (x2 + 1)), some (Iv r2)]) dX8_isIdle_48 rfl rfl (by decide) rfl ?_
        refine Z_goto (tgt := 2) dX8_isIdle_51 (by decide) ?_
        exact Z_cut h ⟨rfl, rfl, rfl, trivial, trivial⟩
      · have h := h.2 c7
        refine Z_iconst dX8_isIdle_46 ?_
        exact Z_zreturn dX8_isIdle_47 (by decide) ⟨_, rfl, h⟩
abbrev mX8_bar (G : zG) (n : Nat) (x1 : Int) (μ : zM) (K : Int → zM → Prop) : Prop := zMt G n 2 yX8_bar cX8_bar 4 (some .int) [Rv G 127, Iv x1] μ (zKi K)
abbrev pX8_bar (G : zG) (n : Nat) (K : Int → zM → Prop) (pc : Nat) (lv : List (Option Value)) (st : List Value) (μ : zM) : Prop := Z G (zrm 2 0 0) RX8 "bar" cX8_bar 4 (some .int) (zPh G n (zKi K)) 0 0 pc lv st (zE G n μ)
theorem eX8_bar {G : zG} {n : Nat} (hn : 154 ≤ n) {x1 : Int} {μ : zM} {K : Int → zM → Prop}
    (h : (mX8_within G n x1 1 5 μ (fun r1 μ2 => ((¬ wr r1 = 0 → (∀ v4 : Int, v4 = μ2 127 30 → ∀ μ5 : zM, μ5 = zu μ2 127 30 x1 → pX8_bar G n K 24 [some (Rv G 127), none, some (Iv v4), some (Iv 0)] [] μ5)) ∧ (wr r1 = 0 → (K ((-2)) μ2)))))) :
    mX8_bar G n x1 μ K := by
  refine zMt_of (lv := [some (Rv G 127), some (Iv x1), none, none]) (by decide) rfl (Nat.le_of_ble_eq_true rfl) ?_
  show pX8_bar G n K 0 [some (Rv G 127), some (Iv x1), none, none] [] μ
  refine Z_iload_n dX8_bar_0 rfl ?_
  refine Z_iconst dX8_bar_1 ?_
  refine Z_iconst dX8_bar_2 ?_
  refine Z_callSi h md_X8_within sv_X8_within lk_X8_116 rfl rfl (Nat.le_of_ble_eq_true rfl) dX8_bar_3 ⟨by decide, Nat.le_of_ble_eq_true rfl⟩ ⟨Nat.zero_le _, Nat.zero_le _⟩ ?_
  intro r1 μ2 h
  refine Z_if_ne (tgt := 12) dX8_bar_6 (by decide) (fun c3 => ?_) (fun c3 => ?_)
  · have h := h.1 c3
    refine Z_aload_n dX8_bar_12 rfl ?_
    refine Y_gi 30 zcX8 fl_X8_77 ⟨by decide, by omega⟩ rfl rfl rfl (by decide) dX8_bar_13 rfl ?_
    obtain ⟨v4, ev4⟩ : ∃ z : Int, z = μ2 127 30 := ⟨_, rfl⟩
    have h := h v4 ev4
    refine Z_nmi ev4 ?_
    refine Z_istore_n (lv2 := [some (Rv G 127), some (Iv x1), some (Iv v4), none]) dX8_bar_16 rfl (by decide) rfl ?_
    refine Z_aload_n dX8_bar_17 rfl ?_
    refine Z_iload_n dX8_bar_18 rfl ?_
    refine Y_pi 30 zcX8 fk_X8_77 ⟨by decide, by omega⟩ rfl rfl rfl (by decide) rfl (tyX8_ok 30 (by decide)) dX8_bar_19 rfl ?_
    obtain ⟨μ5, eμ5⟩ : ∃ z : zM, z = zu μ2 127 30 x1 := ⟨_, rfl⟩
    have h := h μ5 eμ5
    refine Z_mem eμ5 ?_
    refine Z_iconst dX8_bar_22 ?_
    refine Z_istore_n (lv2 := [some (Rv G 127), some (Iv x1), some (Iv v4), some (Iv 0)]) dX8_bar_23 rfl (by decide) rfl ?_
    exact Z_cut h ⟨rfl, trivial, rfl, rfl, trivial⟩
  · have h := h.2 c3
    refine Z_bipush dX8_bar_9 (by decide) ?_
    exact Z_ireturn dX8_bar_11 ⟨_, rfl, h⟩
theorem bX8_bar_24 {G : zG} {n : Nat} (hn : 154 ≤ n) {x2 x3 : Int} {μ : zM} {K : Int → zM → Prop}
    (h : (((wr 25 ≤ wr x3 → (pX8_bar G n K 52 [some (Rv G 127), none, some (Iv x2), some (Iv 0)] [] μ)) ∧ (¬ (wr 25 ≤ wr x3) → ((0 ≤ wr x3 ∧ wr x3 < 25) ∧ ∀ μ3 : zM, μ3 = zu μ 145 (wr x3) 0 → (0 ≤ wr x3 ∧ wr x3 < 25) ∧ ∀ μ5 : zM, μ5 = zu μ3 147 (wr x3) 0 → pX8_bar G n K 24 [some (Rv G 127), none, some (Iv x2), some (Iv (x3 + 1))] [] μ5))))) :
    pX8_bar G n K 24 [some (Rv G 127), none, some (Iv x2), some (Iv x3)] [] μ := by
  refine Z_iload_n dX8_bar_24 rfl ?_
  refine Z_bipush dX8_bar_25 (by decide) ?_
  refine Z_icmp_ge (tgt := 50) dX8_bar_27 (by decide) (fun c1 => ?_) (fun c1 => ?_)
  · have h := h.1 c1
    refine Z_iconst dX8_bar_50 ?_
    refine Z_istore_n (lv2 := [some (Rv G 127), none, some (Iv x2), some (Iv 0)]) dX8_bar_51 rfl (by decide) rfl ?_
    exact Z_cut h ⟨rfl, trivial, rfl, rfl, trivial⟩
  · have h := h.2 c1
    refine Z_aload_n dX8_bar_30 rfl ?_
    refine Z_gr (t := 145) zcX8 fl_X8_80 ⟨by decide, by omega⟩ rfl rfl rfl (by decide) (by decide) dX8_bar_31 ?_
    refine Z_iload_n dX8_bar_34 rfl ?_
    refine Z_iconst dX8_bar_35 ?_
    obtain ⟨b2, h⟩ := h
    refine Z_iast (zin_c (by decide) (by omega) (by decide) (by decide) b2) dX8_bar_36 ?_
    obtain ⟨μ3, eμ3⟩ : ∃ z : zM, z = zu μ 145 (wr x3) 0 := ⟨_, rfl⟩
    have h := h μ3 eμ3
    refine Z_mem eμ3 ?_
    refine Z_aload_n dX8_bar_37 rfl ?_
    refine Z_gr (t := 147) zcX8 fl_X8_86 ⟨by decide, by omega⟩ rfl rfl rfl (by decide) (by decide) dX8_bar_38 ?_
    refine Z_iload_n dX8_bar_41 rfl ?_
    refine Z_iconst dX8_bar_42 ?_
    obtain ⟨b4, h⟩ := h
    refine Z_iast (zin_c (by decide) (by omega) (by decide) (by decide) b4) dX8_bar_43 ?_
    obtain ⟨μ5, eμ5⟩ : ∃ z : zM, z = zu μ3 147 (wr x3) 0 := ⟨_, rfl⟩
    have h := h μ5 eμ5
    refine Z_mem eμ5 ?_
    refine Z_iinc (lv2 := [some (Rv G 127), none, some (Iv x2), some (Iv (x3 + 1))]) dX8_bar_44 rfl rfl (by decide) rfl ?_
    refine Z_goto (tgt := 24) dX8_bar_47 (by decide) ?_
    exact Z_cut h ⟨rfl, trivial, rfl, rfl, trivial⟩
theorem bX8_bar_52 {G : zG} {n : Nat} (hn : 154 ≤ n) {x2 x3 : Int} {μ : zM} {K : Int → zM → Prop}
    (h : (((wr 5 ≤ wr x3 → (K x2 μ)) ∧ (¬ (wr 5 ≤ wr x3) → ((0 ≤ wr x3 ∧ wr x3 < 5) ∧ ∀ μ3 : zM, μ3 = zu μ 148 (wr x3) 0 → (0 ≤ wr x3 ∧ wr x3 < 5) ∧ ∀ μ5 : zM, μ5 = zu μ3 149 (wr x3) 0 → (0 ≤ wr x3 ∧ wr x3 < 5) ∧ ∀ μ7 : zM, μ7 = zu μ5 151 (wr x3) ((-9)) → pX8_bar G n K 52 [some (Rv G 127), none, some (Iv x2), some (Iv (x3 + 1))] [] μ7))))) :
    pX8_bar G n K 52 [some (Rv G 127), none, some (Iv x2), some (Iv x3)] [] μ := by
  refine Z_iload_n dX8_bar_52 rfl ?_
  refine Z_iconst dX8_bar_53 ?_
  refine Z_icmp_ge (tgt := 85) dX8_bar_54 (by decide) (fun c1 => ?_) (fun c1 => ?_)
  · have h := h.1 c1
    refine Z_iload_n dX8_bar_85 rfl ?_
    exact Z_ireturn dX8_bar_86 ⟨_, rfl, h⟩
  · have h := h.2 c1
    refine Z_aload_n dX8_bar_57 rfl ?_
    refine Z_gr (t := 148) zcX8 fl_X8_89 ⟨by decide, by omega⟩ rfl rfl rfl (by decide) (by decide) dX8_bar_58 ?_
    refine Z_iload_n dX8_bar_61 rfl ?_
    refine Z_iconst dX8_bar_62 ?_
    obtain ⟨b2, h⟩ := h
    refine Z_iast (zin_c (by decide) (by omega) (by decide) (by decide) b2) dX8_bar_63 ?_
    obtain ⟨μ3, eμ3⟩ : ∃ z : zM, z = zu μ 148 (wr x3) 0 := ⟨_, rfl⟩
    have h := h μ3 eμ3
    refine Z_mem eμ3 ?_
    refine Z_aload_n dX8_bar_64 rfl ?_
    refine Z_gr (t := 149) zcX8 fl_X8_92 ⟨by decide, by omega⟩ rfl rfl rfl (by decide) (by decide) dX8_bar_65 ?_
    refine Z_iload_n dX8_bar_68 rfl ?_
    refine Z_iconst dX8_bar_69 ?_
    obtain ⟨b4, h⟩ := h
    refine Z_iast (zin_c (by decide) (by omega) (by decide) (by decide) b4) dX8_bar_70 ?_
    obtain ⟨μ5, eμ5⟩ : ∃ z : zM, z = zu μ3 149 (wr x3) 0 := ⟨_, rfl⟩
    have h := h μ5 eμ5
    refine Z_mem eμ5 ?_
    refine Z_aload_n dX8_bar_71 rfl ?_
    refine Z_gr (t := 151) zcX8 fl_X8_98 ⟨by decide, by omega⟩ rfl rfl rfl (by decide) (by decide) dX8_bar_72 ?_
    refine Z_iload_n dX8_bar_75 rfl ?_
    refine Z_bipush dX8_bar_76 (by decide) ?_
    obtain ⟨b6, h⟩ := h
    refine Z_iast (zin_c (by decide) (by omega) (by decide) (by decide) b6) dX8_bar_78 ?_
    obtain ⟨μ7, eμ7⟩ : ∃ z : zM, z = zu μ5 151 (wr x3) ((-9)) := ⟨_, rfl⟩
    have h := h μ7 eμ7
    refine Z_mem eμ7 ?_
    refine Z_iinc (lv2 := [some (Rv G 127), none, some (Iv x2), some (Iv (x3 + 1))]) dX8_bar_79 rfl rfl (by decide) rfl ?_
    refine Z_goto (tgt := 52) dX8_bar_82 (by decide) ?_
    exact Z_cut h ⟨rfl, trivial, rfl, rfl, trivial⟩
abbrev mX8_traffic (G : zG) (n : Nat) (x1 x2 x3 : Int) (μ : zM) (K : Int → zM → Prop) : Prop := zMt G n 2 yX8_traffic cX8_traffic 5 (some .int) [Rv G 127, Iv x1, Iv x2, Iv x3] μ (zKi K)
abbrev pX8_traffic (G : zG) (n : Nat) (K : Int → zM → Prop) (pc : Nat) (lv : List (Option Value)) (st : List Value) (μ : zM) : Prop := Z G (zrm 2 0 0) RX8 "traffic" cX8_traffic 5 (some .int) (zPh G n (zKi K)) 0 0 pc lv st (zE G n μ)
theorem eX8_traffic {G : zG} {n : Nat} (hn : 154 ≤ n) {x1 x2 x3 : Int} {μ : zM} {K : Int → zM → Prop}
    (h : (mX8_isPort G n x1 μ (fun r1 μ2 => ((wr r1 = 0 → (K ((-1)) μ2)) ∧ (¬ (wr r1 = 0) → (mX8_isPort G n x2 μ2 (fun r4 μ5 => ((¬ wr r4 = 0 → (mX8_within G n x3 0 50 μ5 (fun r7 μ8 => ((¬ wr r7 = 0 → ((0 ≤ wr ((5 * x1) + x2) ∧ wr ((5 * x1) + x2) < 25) ∧ ∀ v11 : Int, v11 = μ8 145 (wr ((5 * x1) + x2)) → (0 ≤ wr ((5 * x1) + x2) ∧ wr ((5 * x1) + x2) < 25) ∧ ∀ μ13 : zM, μ13 = zu μ8 145 (wr ((5 * x1) + x2)) x3 → K v11 μ13)) ∧ (wr r7 = 0 → (K ((-2)) μ8)))))) ∧ (wr r4 = 0 → (K ((-1)) μ5)))))))))) :
    mX8_traffic G n x1 x2 x3 μ K := by
  refine zMt_of (lv := [some (Rv G 127), some (Iv x1), some (Iv x2), some (Iv x3), none]) (by decide) rfl (Nat.le_of_ble_eq_true rfl) ?_
  show pX8_traffic G n K 0 [some (Rv G 127), some (Iv x1), some (Iv x2), some (Iv x3), none] [] μ
  refine Z_aload_n dX8_traffic_0 rfl ?_
  refine Z_iload_n dX8_traffic_1 rfl ?_
  refine Z_callVi h md_X8_isPort sv_X8_isPort lk_X8_258 zcX8 rfl ⟨by decide, by omega⟩ rfl rfl rfl rfl (Nat.le_of_ble_eq_true rfl) dX8_traffic_2 ⟨by decide, Nat.le_of_ble_eq_true rfl⟩ ⟨Nat.zero_le _, Nat.zero_le _⟩ ?_
  intro r1 μ2 h
  refine Z_if_eq (tgt := 16) dX8_traffic_5 (by decide) (fun c3 => ?_) (fun c3 => ?_)
  · have h := h.1 c3
    refine Z_iconst dX8_traffic_16 ?_
    exact Z_ireturn dX8_traffic_17 ⟨_, rfl, h⟩
  · have h := h.2 c3
    refine Z_aload_n dX8_traffic_8 rfl ?_
    refine Z_iload_n dX8_traffic_9 rfl ?_
    refine Z_callVi h md_X8_isPort sv_X8_isPort lk_X8_258 zcX8 rfl ⟨by decide, by omega⟩ rfl rfl rfl rfl (Nat.le_of_ble_eq_true rfl) dX8_traffic_10 ⟨by decide, Nat.le_of_ble_eq_true rfl⟩ ⟨Nat.zero_le _, Nat.zero_le _⟩ ?_
    intro r4 μ5 h
    refine Z_if_ne (tgt := 18) dX8_traffic_13 (by decide) (fun c6 => ?_) (fun c6 => ?_)
    · have h := h.1 c6
      refine Z_iload_n dX8_traffic_18 rfl ?_
      refine Z_iconst dX8_traffic_19 ?_
      refine Z_bipush dX8_traffic_20 (by decide) ?_
      refine Z_callSi h md_X8_within sv_X8_within lk_X8_116 rfl rfl (Nat.le_of_ble_eq_true rfl) dX8_traffic_22 ⟨by decide, Nat.le_of_ble_eq_true rfl⟩ ⟨Nat.zero_le _, Nat.zero_le _⟩ ?_
      intro r7 μ8 h
      refine Z_if_ne (tgt := 31) dX8_traffic_25 (by decide) (fun c9 => ?_) (fun c9 => ?_)
      · have h := h.1 c9
        refine Z_aload_n dX8_traffic_31 rfl ?_
        refine Z_gr (t := 145) zcX8 fl_X8_80 ⟨by decide, by omega⟩ rfl rfl rfl (by decide) (by decide) dX8_traffic_32 ?_
        refine Z_iconst dX8_traffic_35 ?_
        refine Z_iload_n dX8_traffic_36 rfl ?_
        refine Z_imul dX8_traffic_37 ?_
        refine Z_iload_n dX8_traffic_38 rfl ?_
        refine Z_iadd dX8_traffic_39 ?_
        obtain ⟨b10, h⟩ := h
        refine Z_iald (zin_c (by decide) (by omega) (by decide) (by decide) b10) dX8_traffic_40 ?_
        obtain ⟨v11, ev11⟩ : ∃ z : Int, z = μ8 145 (wr ((5 * x1) + x2)) := ⟨_, rfl⟩
        have h := h v11 ev11
        refine Z_nmi ev11 ?_
        refine Z_istore (lv2 := [some (Rv G 127), some (Iv x1), some (Iv x2), some (Iv x3), some (Iv v11)]) dX8_traffic_41 rfl (by decide) rfl ?_
        refine Z_aload_n dX8_traffic_43 rfl ?_
        refine Z_gr (t := 145) zcX8 fl_X8_80 ⟨by decide, by omega⟩ rfl rfl rfl (by decide) (by decide) dX8_traffic_44 ?_
        refine Z_iconst dX8_traffic_47 ?_
        refine Z_iload_n dX8_traffic_48 rfl ?_
        refine Z_imul dX8_traffic_49 ?_
        refine Z_iload_n dX8_traffic_50 rfl ?_
        refine Z_iadd dX8_traffic_51 ?_
        refine Z_iload_n dX8_traffic_52 rfl ?_
        obtain ⟨b12, h⟩ := h
        refine Z_iast (zin_c (by decide) (by omega) (by decide) (by decide) b12) dX8_traffic_53 ?_
        obtain ⟨μ13, eμ13⟩ : ∃ z : zM, z = zu μ8 145 (wr ((5 * x1) + x2)) x3 := ⟨_, rfl⟩
        have h := h μ13 eμ13
        refine Z_mem eμ13 ?_
        refine Z_iload dX8_traffic_54 rfl ?_
        exact Z_ireturn dX8_traffic_56 ⟨_, rfl, h⟩
      · have h := h.2 c9
        refine Z_bipush dX8_traffic_28 (by decide) ?_
        exact Z_ireturn dX8_traffic_30 ⟨_, rfl, h⟩
    · have h := h.2 c6
      refine Z_iconst dX8_traffic_16 ?_
      exact Z_ireturn dX8_traffic_17 ⟨_, rfl, h⟩
abbrev mX8_spanLeft (G : zG) (n : Nat) (μ : zM) (K : Int → zM → Prop) : Prop := zMt G n 2 yX8_spanLeft cX8_spanLeft 3 (some .int) [Rv G 127] μ (zKi K)
abbrev pX8_spanLeft (G : zG) (n : Nat) (K : Int → zM → Prop) (pc : Nat) (lv : List (Option Value)) (st : List Value) (μ : zM) : Prop := Z G (zrm 2 0 0) RX8 "spanLeft" cX8_spanLeft 3 (some .int) (zPh G n (zKi K)) 0 0 pc lv st (zE G n μ)
theorem eX8_spanLeft {G : zG} {n : Nat} (hn : 154 ≤ n) {μ : zM} {K : Int → zM → Prop}
    (h : (pX8_spanLeft G n K 4 [some (Rv G 127), some (Iv 0), some (Iv 0)] [] μ)) :
    mX8_spanLeft G n  μ K := by
  refine zMt_of (lv := [some (Rv G 127), none, none]) (by decide) rfl (Nat.le_of_ble_eq_true rfl) ?_
  show pX8_spanLeft G n K 0 [some (Rv G 127), none, none] [] μ
  refine Z_iconst dX8_spanLeft_0 ?_
  refine Z_istore_n (lv2 := [some (Rv G 127), some (Iv 0), none]) dX8_spanLeft_1 rfl (by decide) rfl ?_
  refine Z_iconst dX8_spanLeft_2 ?_
  refine Z_istore_n (lv2 := [some (Rv G 127), some (Iv 0), some (Iv 0)]) dX8_spanLeft_3 rfl (by decide) rfl ?_
  exact Z_cut h ⟨rfl, rfl, rfl, trivial⟩
theorem bX8_spanLeft_4 {G : zG} {n : Nat} (hn : 154 ≤ n) {x1 x2 : Int} {μ : zM} {K : Int → zM → Prop}
    (h : (((wr (μ 127 30) ≤ wr x2 → (K x1 μ)) ∧ (¬ (wr (μ 127 30) ≤ wr x2) → (mX8_sumOf G n 1 x2 μ (fun r2 μ3 => ((wr r2 ≤ wr x1 → (mX8_sumOf G n 0 x2 μ3 (fun r5 μ6 => ((wr r5 ≤ wr x1 → (pX8_spanLeft G n K 4 [some (Rv G 127), some (Iv x1), some (Iv (x2 + 1))] [] μ6)) ∧ (¬ (wr r5 ≤ wr x1) → (mX8_sumOf G n 0 x2 μ6 (fun r8 μ9 => pX8_spanLeft G n K 4 [some (Rv G 127), some (Iv r8), some (Iv (x2 + 1))] [] μ9))))))) ∧ (¬ (wr r2 ≤ wr x1) → (mX8_sumOf G n 1 x2 μ3 (fun r10 μ11 => mX8_sumOf G n 0 x2 μ11 (fun r12 μ13 => ((wr r12 ≤ wr r10 → (pX8_spanLeft G n K 4 [some (Rv G 127), some (Iv r10), some (Iv (x2 + 1))] [] μ13)) ∧ (¬ (wr r12 ≤ wr r10) → (mX8_sumOf G n 0 x2 μ13 (fun r15 μ16 => pX8_spanLeft G n K 4 [some (Rv G 127), some (Iv r15), some (Iv (x2 + 1))] [] μ16))))))))))))))) :
    pX8_spanLeft G n K 4 [some (Rv G 127), some (Iv x1), some (Iv x2)] [] μ := by
  refine Z_iload_n dX8_spanLeft_4 rfl ?_
  refine Z_aload_n dX8_spanLeft_5 rfl ?_
  refine Y_gi 30 zcX8 fl_X8_77 ⟨by decide, by omega⟩ rfl rfl rfl (by decide) dX8_spanLeft_6 rfl ?_
  refine Z_icmp_ge (tgt := 60) dX8_spanLeft_9 (by decide) (fun c1 => ?_) (fun c1 => ?_)
  · have h := h.1 c1
    refine Z_iload_n dX8_spanLeft_60 rfl ?_
    exact Z_ireturn dX8_spanLeft_61 ⟨_, rfl, h⟩
  · have h := h.2 c1
    refine Z_aload_n dX8_spanLeft_12 rfl ?_
    refine Z_iconst dX8_spanLeft_13 ?_
    refine Z_iload_n dX8_spanLeft_14 rfl ?_
    refine Z_callVi h md_X8_sumOf sv_X8_sumOf lk_X8_261 zcX8 rfl ⟨by decide, by omega⟩ rfl rfl rfl rfl (Nat.le_of_ble_eq_true rfl) dX8_spanLeft_15 ⟨by decide, Nat.le_of_ble_eq_true rfl⟩ ⟨Nat.zero_le _, Nat.zero_le _⟩ ?_
    intro r2 μ3 h
    refine Z_iload_n dX8_spanLeft_18 rfl ?_
    refine Z_icmp_le (tgt := 31) dX8_spanLeft_19 (by decide) (fun c4 => ?_) (fun c4 => ?_)
    · have h := h.1 c4
      refine Z_iload_n dX8_spanLeft_31 rfl ?_
      refine Z_istore_n (lv2 := [some (Rv G 127), some (Iv x1), some (Iv x2)]) dX8_spanLeft_32 rfl (by decide) rfl ?_
      refine Z_aload_n dX8_spanLeft_33 rfl ?_
      refine Z_iconst dX8_spanLeft_34 ?_
      refine Z_iload_n dX8_spanLeft_35 rfl ?_
      refine Z_callVi h md_X8_sumOf sv_X8_sumOf lk_X8_261 zcX8 rfl ⟨by decide, by omega⟩ rfl rfl rfl rfl (Nat.le_of_ble_eq_true rfl) dX8_spanLeft_36 ⟨by decide, Nat.le_of_ble_eq_true rfl⟩ ⟨Nat.zero_le _, Nat.zero_le _⟩ ?_
      intro r5 μ6 h
      refine Z_iload_n dX8_spanLeft_39 rfl ?_
      refine Z_icmp_le (tgt := 52) dX8_spanLeft_40 (by decide) (fun c7 => ?_) (fun c7 => ?_)
      · have h := h.1 c7
        refine Z_iload_n dX8_spanLeft_52 rfl ?_
        refine Z_istore_n (lv2 := [some (Rv G 127), some (Iv x1), some (Iv x2)]) dX8_spanLeft_53 rfl (by decide) rfl ?_
        refine Z_iinc (lv2 := [some (Rv G 127), some (Iv x1), some (Iv (x2 + 1))]) dX8_spanLeft_54 rfl rfl (by decide) rfl ?_
        refine Z_goto (tgt := 4) dX8_spanLeft_57 (by decide) ?_
        exact Z_cut h ⟨rfl, rfl, rfl, trivial⟩
      · have h := h.2 c7
        refine Z_aload_n dX8_spanLeft_43 rfl ?_
        refine Z_iconst dX8_spanLeft_44 ?_
        refine Z_iload_n dX8_spanLeft_45 rfl ?_
        refine Z_callVi h md_X8_sumOf sv_X8_sumOf lk_X8_261 zcX8 rfl ⟨by decide, by omega⟩ rfl rfl rfl rfl (Nat.le_of_ble_eq_true rfl) dX8_spanLeft_46 ⟨by decide, Nat.le_of_ble_eq_true rfl⟩ ⟨Nat.zero_le _, Nat.zero_le _⟩ ?_
        intro r8 μ9 h
        refine Z_goto (tgt := 53) dX8_spanLeft_49 (by decide) ?_
        refine Z_istore_n (lv2 := [some (Rv G 127), some (Iv r8), some (Iv x2)]) dX8_spanLeft_53 rfl (by decide) rfl ?_
        refine Z_iinc (lv2 := [some (Rv G 127), some (Iv r8), some (Iv (x2 + 1))]) dX8_spanLeft_54 rfl rfl (by decide) rfl ?_
        refine Z_goto (tgt := 4) dX8_spanLeft_57 (by decide) ?_
        exact Z_cut h ⟨rfl, rfl, rfl, trivial⟩
    · have h := h.2 c4
      refine Z_aload_n dX8_spanLeft_22 rfl ?_
      refine Z_iconst dX8_spanLeft_23 ?_
      refine Z_iload_n dX8_spanLeft_24 rfl ?_
      refine Z_callVi h md_X8_sumOf sv_X8_sumOf lk_X8_261 zcX8 rfl ⟨by decide, by omega⟩ rfl rfl rfl rfl (Nat.le_of_ble_eq_true rfl) dX8_spanLeft_25 ⟨by decide, Nat.le_of_ble_eq_true rfl⟩ ⟨Nat.zero_le _, Nat.zero_le _⟩ ?_
      intro r10 μ11 h
      refine Z_goto (tgt := 32) dX8_spanLeft_28 (by decide) ?_
      refine Z_istore_n (lv2 := [some (Rv G 127), some (Iv r10), some (Iv x2)]) dX8_spanLeft_32 rfl (by decide) rfl ?_
      refine Z_aload_n dX8_spanLeft_33 rfl ?_
      refine Z_iconst dX8_spanLeft_34 ?_
      refine Z_iload_n dX8_spanLeft_35 rfl ?_
      refine Z_callVi h md_X8_sumOf sv_X8_sumOf lk_X8_261 zcX8 rfl ⟨by decide, by omega⟩ rfl rfl rfl rfl (Nat.le_of_ble_eq_true rfl) dX8_spanLeft_36 ⟨by decide, Nat.le_of_ble_eq_true rfl⟩ ⟨Nat.zero_le _, Nat.zero_le _⟩ ?_
      intro r12 μ13 h
      refine Z_iload_n dX8_spanLeft_39 rfl ?_
      refine Z_icmp_le (tgt := 52) dX8_spanLeft_40 (by decide) (fun c14 => ?_) (fun c14 => ?_)
      · have h := h.1 c14
        refine Z_iload_n dX8_spanLeft_52 rfl ?_
        refine Z_istore_n (lv2 := [some (Rv G 127), some (Iv r10), some (Iv x2)]) dX8_spanLeft_53 rfl (by decide) rfl ?_
        refine Z_iinc (lv2 := [some (Rv G 127), some (Iv r10), some (Iv (x2 + 1))]) dX8_spanLeft_54 rfl rfl (by decide) rfl ?_
        refine Z_goto (tgt := 4) dX8_spanLeft_57 (by decide) ?_
        exact Z_cut h ⟨rfl, rfl, rfl, trivial⟩
      · have h := h.2 c14
        refine Z_aload_n dX8_spanLeft_43 rfl ?_
        refine Z_iconst dX8_spanLeft_44 ?_
        refine Z_iload_n dX8_spanLeft_45 rfl ?_
        refine Z_callVi h md_X8_sumOf sv_X8_sumOf lk_X8_261 zcX8 rfl ⟨by decide, by omega⟩ rfl rfl rfl rfl (Nat.le_of_ble_eq_true rfl) dX8_spanLeft_46 ⟨by decide, Nat.le_of_ble_eq_true rfl⟩ ⟨Nat.zero_le _, Nat.zero_le _⟩ ?_
        intro r15 μ16 h
        refine Z_goto (tgt := 53) dX8_spanLeft_49 (by decide) ?_
        refine Z_istore_n (lv2 := [some (Rv G 127), some (Iv r15), some (Iv x2)]) dX8_spanLeft_53 rfl (by decide) rfl ?_
        refine Z_iinc (lv2 := [some (Rv G 127), some (Iv r15), some (Iv (x2 + 1))]) dX8_spanLeft_54 rfl rfl (by decide) rfl ?_
        refine Z_goto (tgt := 4) dX8_spanLeft_57 (by decide) ?_
        exact Z_cut h ⟨rfl, rfl, rfl, trivial⟩
abbrev mX8_isTight (G : zG) (n : Nat) (x1 : Int) (μ : zM) (K : Int → zM → Prop) : Prop := zMt G n 2 yX8_isTight cX8_isTight 4 (some .boolean) [Rv G 127, Iv x1] μ (zKi K)
abbrev pX8_isTight (G : zG) (n : Nat) (K : Int → zM → Prop) (pc : Nat) (lv : List (Option Value)) (st : List Value) (μ : zM) : Prop := Z G (zrm 2 0 0) RX8 "isTight" cX8_isTight 4 (some .boolean) (zPh G n (zKi K)) 0 0 pc lv st (zE G n μ)
theorem eX8_isTight {G : zG} {n : Nat} (hn : 154 ≤ n) {x1 : Int} {μ : zM} {K : Int → zM → Prop}
    (h : (pX8_isTight G n K 4 [some (Rv G 127), some (Iv x1), some (Iv 0), some (Iv 0)] [] μ)) :
    mX8_isTight G n x1 μ K := by
  refine zMt_of (lv := [some (Rv G 127), some (Iv x1), none, none]) (by decide) rfl (Nat.le_of_ble_eq_true rfl) ?_
  show pX8_isTight G n K 0 [some (Rv G 127), some (Iv x1), none, none] [] μ
  refine Z_iconst dX8_isTight_0 ?_
  refine Z_istore_n (lv2 := [some (Rv G 127), some (Iv x1), some (Iv 0), none]) dX8_isTight_1 rfl (by decide) rfl ?_
  refine Z_iconst dX8_isTight_2 ?_
  refine Z_istore_n (lv2 := [some (Rv G 127), some (Iv x1), some (Iv 0), some (Iv 0)]) dX8_isTight_3 rfl (by decide) rfl ?_
  exact Z_cut h ⟨rfl, rfl, rfl, rfl, trivial⟩
theorem bX8_isTight_4 {G : zG} {n : Nat} (hn : 154 ≤ n) {x1 x2 x3 : Int} {μ : zM} {K : Int → zM → Prop}
    (h : (((wr (μ 127 30) ≤ wr x3 → (pX8_isTight G n K 59 [some (Rv G 127), some (Iv x1), some (Iv x2), some (Iv 0)] [] μ)) ∧ (¬ (wr (μ 127 30) ≤ wr x3) → ((0 ≤ wr x3 ∧ wr x3 < 5) ∧ ((wr (μ 127 30) ≤ wr (μ 150 (wr x3)) → (mX8_sumOf G n 1 x3 μ (fun r4 μ5 => ((¬ wr r4 = wr x1 → (pX8_isTight G n K 4 [some (Rv G 127), some (Iv x1), some (Iv x2), some (Iv (x3 + 1))] [] μ5)) ∧ (wr r4 = wr x1 → (K 0 μ5)))))) ∧ (¬ (wr (μ 127 30) ≤ wr (μ 150 (wr x3))) → ((0 ≤ wr x3 ∧ wr x3 < 5) ∧ ∀ v8 : Int, v8 = zor x2 (zshl 1 (μ 150 (wr x3))) → pX8_isTight G n K 4 [some (Rv G 127), some (Iv x1), some (Iv v8), some (Iv (x3 + 1))] [] μ)))))))) :
    pX8_isTight G n K 4 [some (Rv G 127), some (Iv x1), some (Iv x2), some (Iv x3)] [] μ := by
  refine Z_iload_n dX8_isTight_4 rfl ?_
  refine Z_aload_n dX8_isTight_5 rfl ?_
  refine Y_gi 30 zcX8 fl_X8_77 ⟨by decide, by omega⟩ rfl rfl rfl (by decide) dX8_isTight_6 rfl ?_
  refine Z_icmp_ge (tgt := 57) dX8_isTight_9 (by decide) (fun c1 => ?_) (fun c1 => ?_)
  · have h := h.1 c1
    refine Z_iconst dX8_isTight_57 ?_
    refine Z_istore_n (lv2 := [some (Rv G 127), some (Iv x1), some (Iv x2), some (Iv 0)]) dX8_isTight_58 rfl (by decide) rfl ?_
    exact Z_cut h ⟨rfl, rfl, rfl, rfl, trivial⟩
  · have h := h.2 c1
    refine Z_aload_n dX8_isTight_12 rfl ?_
    refine Z_gr (t := 150) zcX8 fl_X8_95 ⟨by decide, by omega⟩ rfl rfl rfl (by decide) (by decide) dX8_isTight_13 ?_
    refine Z_iload_n dX8_isTight_16 rfl ?_
    obtain ⟨b2, h⟩ := h
    refine Z_iald (zin_c (by decide) (by omega) (by decide) (by decide) b2) dX8_isTight_17 ?_
    refine Z_aload_n dX8_isTight_18 rfl ?_
    refine Y_gi 30 zcX8 fl_X8_77 ⟨by decide, by omega⟩ rfl rfl rfl (by decide) dX8_isTight_19 rfl ?_
    refine Z_icmp_ge (tgt := 39) dX8_isTight_22 (by decide) (fun c3 => ?_) (fun c3 => ?_)
    · have h := h.1 c3
      refine Z_aload_n dX8_isTight_39 rfl ?_
      refine Z_iconst dX8_isTight_40 ?_
      refine Z_iload_n dX8_isTight_41 rfl ?_
      refine Z_callVi h md_X8_sumOf sv_X8_sumOf lk_X8_261 zcX8 rfl ⟨by decide, by omega⟩ rfl rfl rfl rfl (Nat.le_of_ble_eq_true rfl) dX8_isTight_42 ⟨by decide, Nat.le_of_ble_eq_true rfl⟩ ⟨Nat.zero_le _, Nat.zero_le _⟩ ?_
      intro r4 μ5 h
      refine Z_iload_n dX8_isTight_45 rfl ?_
      refine Z_icmp_ne (tgt := 51) dX8_isTight_46 (by decide) (fun c6 => ?_) (fun c6 => ?_)
      · have h := h.1 c6
        refine Z_iinc (lv2 := [some (Rv G 127), some (Iv x1), some (Iv x2), some (Iv (x3 + 1))]) dX8_isTight_51 rfl rfl (by decide) rfl ?_
        refine Z_goto (tgt := 4) dX8_isTight_54 (by decide) ?_
        exact Z_cut h ⟨rfl, rfl, rfl, rfl, trivial⟩
      · have h := h.2 c6
        refine Z_iconst dX8_isTight_49 ?_
        exact Z_zreturn dX8_isTight_50 (by decide) ⟨_, rfl, h⟩
    · have h := h.2 c3
      refine Z_iload_n dX8_isTight_25 rfl ?_
      refine Z_iconst dX8_isTight_26 ?_
      refine Z_aload_n dX8_isTight_27 rfl ?_
      refine Z_gr (t := 150) zcX8 fl_X8_95 ⟨by decide, by omega⟩ rfl rfl rfl (by decide) (by decide) dX8_isTight_28 ?_
      refine Z_iload_n dX8_isTight_31 rfl ?_
      obtain ⟨b7, h⟩ := h
      refine Z_iald (zin_c (by decide) (by omega) (by decide) (by decide) b7) dX8_isTight_32 ?_
      refine Z_ishl dX8_isTight_33 ?_
      refine Z_ior dX8_isTight_34 ?_
      obtain ⟨v8, ev8⟩ : ∃ z : Int, z = zor x2 (zshl 1 (μ 150 (wr x3))) := ⟨_, rfl⟩
      have h := h v8 ev8
      refine Z_nmi ev8 ?_
      refine Z_istore_n (lv2 := [some (Rv G 127), some (Iv x1), some (Iv v8), some (Iv x3)]) dX8_isTight_35 rfl (by decide) rfl ?_
      refine Z_goto (tgt := 51) dX8_isTight_36 (by decide) ?_
      refine Z_iinc (lv2 := [some (Rv G 127), some (Iv x1), some (Iv v8), some (Iv (x3 + 1))]) dX8_isTight_51 rfl rfl (by decide) rfl ?_
      refine Z_goto (tgt := 4) dX8_isTight_54 (by decide) ?_
      exact Z_cut h ⟨rfl, rfl, rfl, rfl, trivial⟩
theorem bX8_isTight_59 {G : zG} {n : Nat} (hn : 154 ≤ n) {x1 x2 x3 : Int} {μ : zM} {K : Int → zM → Prop}
    (h : (((wr (μ 127 30) ≤ wr x3 → (K 1 μ)) ∧ (¬ (wr (μ 127 30) ≤ wr x3) → (mX8_sumOf G n 0 x3 μ (fun r2 μ3 => ((¬ wr r2 = wr x1 → (pX8_isTight G n K 59 [some (Rv G 127), some (Iv x1), some (Iv x2), some (Iv (x3 + 1))] [] μ3)) ∧ (wr r2 = wr x1 → (((¬ wr (zand (zshr x2 x3) 1) = 0 → (pX8_isTight G n K 59 [some (Rv G 127), some (Iv x1), some (Iv x2), some (Iv (x3 + 1))] [] μ3)) ∧ (wr (zand (zshr x2 x3) 1) = 0 → (K 0 μ3)))))))))))) :
    pX8_isTight G n K 59 [some (Rv G 127), some (Iv x1), some (Iv x2), some (Iv x3)] [] μ := by
  refine Z_iload_n dX8_isTight_59 rfl ?_
  refine Z_aload_n dX8_isTight_60 rfl ?_
  refine Y_gi 30 zcX8 fl_X8_77 ⟨by decide, by omega⟩ rfl rfl rfl (by decide) dX8_isTight_61 rfl ?_
  refine Z_icmp_ge (tgt := 93) dX8_isTight_64 (by decide) (fun c1 => ?_) (fun c1 => ?_)
  · have h := h.1 c1
    refine Z_iconst dX8_isTight_93 ?_
    exact Z_zreturn dX8_isTight_94 (by decide) ⟨_, rfl, h⟩
  · have h := h.2 c1
    refine Z_aload_n dX8_isTight_67 rfl ?_
    refine Z_iconst dX8_isTight_68 ?_
    refine Z_iload_n dX8_isTight_69 rfl ?_
    refine Z_callVi h md_X8_sumOf sv_X8_sumOf lk_X8_261 zcX8 rfl ⟨by decide, by omega⟩ rfl rfl rfl rfl (Nat.le_of_ble_eq_true rfl) dX8_isTight_70 ⟨by decide, Nat.le_of_ble_eq_true rfl⟩ ⟨Nat.zero_le _, Nat.zero_le _⟩ ?_
    intro r2 μ3 h
    refine Z_iload_n dX8_isTight_73 rfl ?_
    refine Z_icmp_ne (tgt := 87) dX8_isTight_74 (by decide) (fun c4 => ?_) (fun c4 => ?_)
    · have h := h.1 c4
      refine Z_iinc (lv2 := [some (Rv G 127), some (Iv x1), some (Iv x2), some (Iv (x3 + 1))]) dX8_isTight_87 rfl rfl (by decide) rfl ?_
      refine Z_goto (tgt := 59) dX8_isTight_90 (by decide) ?_
      exact Z_cut h ⟨rfl, rfl, rfl, rfl, trivial⟩
    · have h := h.2 c4
      refine Z_iload_n dX8_isTight_77 rfl ?_
      refine Z_iload_n dX8_isTight_78 rfl ?_
      refine Z_ishr dX8_isTight_79 ?_
      refine Z_iconst dX8_isTight_80 ?_
      refine Z_iand dX8_isTight_81 ?_
      refine Z_if_ne (tgt := 87) dX8_isTight_82 (by decide) (fun c5 => ?_) (fun c5 => ?_)
      · have h := h.1 c5
        refine Z_iinc (lv2 := [some (Rv G 127), some (Iv x1), some (Iv x2), some (Iv (x3 + 1))]) dX8_isTight_87 rfl rfl (by decide) rfl ?_
        refine Z_goto (tgt := 59) dX8_isTight_90 (by decide) ?_
        exact Z_cut h ⟨rfl, rfl, rfl, rfl, trivial⟩
      · have h := h.2 c5
        refine Z_iconst dX8_isTight_85 ?_
        exact Z_zreturn dX8_isTight_86 (by decide) ⟨_, rfl, h⟩
abbrev mX8_goOn (G : zG) (n : Nat) (x1 : Int) (μ : zM) (K : Int → zM → Prop) : Prop := zMt G n 2 yX8_goOn cX8_goOn 3 (some .boolean) [Rv G 127, Rv G x1] μ (zKi K)
abbrev pX8_goOn (G : zG) (n : Nat) (K : Int → zM → Prop) (pc : Nat) (lv : List (Option Value)) (st : List Value) (μ : zM) : Prop := Z G (zrm 2 0 0) RX8 "goOn" cX8_goOn 3 (some .boolean) (zPh G n (zKi K)) 0 0 pc lv st (zE G n μ)
theorem eX8_goOn {G : zG} {n : Nat} (hn : 154 ≤ n) {x1 : Int} {μ : zM} {K : Int → zM → Prop}
    (h : pX8_goOn G n K 0 [some (Rv G 127), some (Rv G x1), none] [] μ) :
    mX8_goOn G n x1 μ K := by
  refine zMt_of (lv := [some (Rv G 127), some (Rv G x1), none]) (by decide) rfl (Nat.le_of_ble_eq_true rfl) ?_
  show pX8_goOn G n K 0 [some (Rv G 127), some (Rv G x1), none] [] μ
  exact h
theorem bX8_goOn_0 {G : zG} {n : Nat} (hn : 154 ≤ n) {x1 : Int} {μ : zM} {K : Int → zM → Prop}
    (h : (((wr (μ 127 38) < 0 → (K 0 μ)) ∧ (¬ (wr (μ 127 38) < 0) → ((0 ≤ wr (μ 127 38) ∧ wr (μ 127 38) < 5) ∧ (0 ≤ wr (μ 127 38) ∧ wr (μ 127 38) < 5) ∧ ∀ μ4 : zM, μ4 = zu μ 150 (wr (μ 127 38)) ((μ 150 (wr (μ 127 38))) + 1) → (0 ≤ wr (μ4 127 38) ∧ wr (μ4 127 38) < 5) ∧ ((wr (μ4 150 (wr (μ4 127 38))) ≤ wr (μ4 127 30) → ((0 ≤ wr (μ4 127 38) ∧ wr (μ4 127 38) < 5) ∧ ((wr (μ4 150 (wr (μ4 127 38))) = wr (μ4 127 30) → (((¬ wr 1 = 0 → (((¬ wr (μ4 127 38) = wr ((μ4 127 30) - 1) → (∀ μ11 : zM, μ11 = zu μ4 127 38 ((μ4 127 38) + 1) → (0 ≤ wr (μ11 127 38) ∧ wr (μ11 127 38) < 5) ∧ ∀ μ13 : zM, μ13 = zu μ11 150 (wr (μ11 127 38)) ((-1)) → pX8_goOn G n K 0 [some (Rv G 127), some (Rv G x1), none] [] μ13)) ∧ (wr (μ4 127 38) = wr ((μ4 127 30) - 1) → (K 1 μ4))))) ∧ (wr 1 = 0 → (pX8_goOn G n K 0 [some (Rv G 127), some (Rv G x1), none] [] μ4))))) ∧ (¬ (wr (μ4 150 (wr (μ4 127 38))) = wr (μ4 127 30)) → ((0 ≤ wr (μ4 127 38) ∧ wr (μ4 127 38) < 5) ∧ zin 0 n x1 ((5 * (μ4 127 38)) + (μ4 150 (wr (μ4 127 38)))) ∧ ((wr (μ4 x1 (wr ((5 * (μ4 127 38)) + (μ4 150 (wr (μ4 127 38)))))) ≤ 0 → (((¬ wr 0 = 0 → (((¬ wr (μ4 127 38) = wr ((μ4 127 30) - 1) → (∀ μ19 : zM, μ19 = zu μ4 127 38 ((μ4 127 38) + 1) → (0 ≤ wr (μ19 127 38) ∧ wr (μ19 127 38) < 5) ∧ ∀ μ21 : zM, μ21 = zu μ19 150 (wr (μ19 127 38)) ((-1)) → pX8_goOn G n K 0 [some (Rv G 127), some (Rv G x1), none] [] μ21)) ∧ (wr (μ4 127 38) = wr ((μ4 127 30) - 1) → (K 1 μ4))))) ∧ (wr 0 = 0 → (pX8_goOn G n K 0 [some (Rv G 127), some (Rv G x1), none] [] μ4))))) ∧ (¬ (wr (μ4 x1 (wr ((5 * (μ4 127 38)) + (μ4 150 (wr (μ4 127 38)))))) ≤ 0) → (mX8_isFree G n (μ4 127 38) μ4 (fun r22 μ23 => ((wr r22 = 0 → (((¬ wr 0 = 0 → (((¬ wr (μ23 127 38) = wr ((μ23 127 30) - 1) → (∀ μ27 : zM, μ27 = zu μ23 127 38 ((μ23 127 38) + 1) → (0 ≤ wr (μ27 127 38) ∧ wr (μ27 127 38) < 5) ∧ ∀ μ29 : zM, μ29 = zu μ27 150 (wr (μ27 127 38)) ((-1)) → pX8_goOn G n K 0 [some (Rv G 127), some (Rv G x1), none] [] μ29)) ∧ (wr (μ23 127 38) = wr ((μ23 127 30) - 1) → (K 1 μ23))))) ∧ (wr 0 = 0 → (pX8_goOn G n K 0 [some (Rv G 127), some (Rv G x1), none] [] μ23))))) ∧ (¬ (wr r22 = 0) → (((¬ wr 1 = 0 → (((¬ wr (μ23 127 38) = wr ((μ23 127 30) - 1) → (∀ μ32 : zM, μ32 = zu μ23 127 38 ((μ23 127 38) + 1) → (0 ≤ wr (μ32 127 38) ∧ wr (μ32 127 38) < 5) ∧ ∀ μ34 : zM, μ34 = zu μ32 150 (wr (μ32 127 38)) ((-1)) → pX8_goOn G n K 0 [some (Rv G 127), some (Rv G x1), none] [] μ34)) ∧ (wr (μ23 127 38) = wr ((μ23 127 30) - 1) → (K 1 μ23))))) ∧ (wr 1 = 0 → (pX8_goOn G n K 0 [some (Rv G 127), some (Rv G x1), none] [] μ23))))))))))))))) ∧ (¬ (wr (μ4 150 (wr (μ4 127 38))) ≤ wr (μ4 127 30)) → (∀ μ35 : zM, μ35 = zu μ4 127 38 ((μ4 127 38) - 1) → pX8_goOn G n K 0 [some (Rv G 127), some (Rv G x1), none] [] μ35)))))))) :
    pX8_goOn G n K 0 [some (Rv G 127), some (Rv G x1), none] [] μ := by
  refine Z_aload_n dX8_goOn_0 rfl ?_
  refine Y_gi 38 zcX8 fl_X8_271 ⟨by decide, by omega⟩ rfl rfl rfl (by decide) dX8_goOn_1 rfl ?_
  refine Z_if_lt (tgt := 148) dX8_goOn_4 (by decide) (fun c1 => ?_) (fun c1 => ?_)
  · have h := h.1 c1
    refine Z_iconst dX8_goOn_148 ?_
    exact Z_zreturn dX8_goOn_149 (by decide) ⟨_, rfl, h⟩
  · have h := h.2 c1
    refine Z_aload_n dX8_goOn_7 rfl ?_
    refine Z_gr (t := 150) zcX8 fl_X8_95 ⟨by decide, by omega⟩ rfl rfl rfl (by decide) (by decide) dX8_goOn_8 ?_
    refine Z_aload_n dX8_goOn_11 rfl ?_
    refine Y_gi 38 zcX8 fl_X8_271 ⟨by decide, by omega⟩ rfl rfl rfl (by decide) dX8_goOn_12 rfl ?_
    refine Z_dup2 dX8_goOn_15 rfl rfl ?_
    obtain ⟨b2, h⟩ := h
    refine Z_iald (zin_c (by decide) (by omega) (by decide) (by decide) b2) dX8_goOn_16 ?_
    refine Z_iconst dX8_goOn_17 ?_
    refine Z_iadd dX8_goOn_18 ?_
    obtain ⟨b3, h⟩ := h
    refine Z_iast (zin_c (by decide) (by omega) (by decide) (by decide) b3) dX8_goOn_19 ?_
    obtain ⟨μ4, eμ4⟩ : ∃ z : zM, z = zu μ 150 (wr (μ 127 38)) ((μ 150 (wr (μ 127 38))) + 1) := ⟨_, rfl⟩
    have h := h μ4 eμ4
    refine Z_mem eμ4 ?_
    refine Z_aload_n dX8_goOn_20 rfl ?_
    refine Z_gr (t := 150) zcX8 fl_X8_95 ⟨by decide, by omega⟩ rfl rfl rfl (by decide) (by decide) dX8_goOn_21 ?_
    refine Z_aload_n dX8_goOn_24 rfl ?_
    refine Y_gi 38 zcX8 fl_X8_271 ⟨by decide, by omega⟩ rfl rfl rfl (by decide) dX8_goOn_25 rfl ?_
    obtain ⟨b5, h⟩ := h
    refine Z_iald (zin_c (by decide) (by omega) (by decide) (by decide) b5) dX8_goOn_28 ?_
    refine Z_aload_n dX8_goOn_29 rfl ?_
    refine Y_gi 30 zcX8 fl_X8_77 ⟨by decide, by omega⟩ rfl rfl rfl (by decide) dX8_goOn_30 rfl ?_
    refine Z_icmp_le (tgt := 49) dX8_goOn_33 (by decide) (fun c6 => ?_) (fun c6 => ?_)
    · have h := h.1 c6
      refine Z_aload_n dX8_goOn_49 rfl ?_
      refine Z_gr (t := 150) zcX8 fl_X8_95 ⟨by decide, by omega⟩ rfl rfl rfl (by decide) (by decide) dX8_goOn_50 ?_
      refine Z_aload_n dX8_goOn_53 rfl ?_
      refine Y_gi 38 zcX8 fl_X8_271 ⟨by decide, by omega⟩ rfl rfl rfl (by decide) dX8_goOn_54 rfl ?_
      obtain ⟨b7, h⟩ := h
      refine Z_iald (zin_c (by decide) (by omega) (by decide) (by decide) b7) dX8_goOn_57 ?_
      refine Z_aload_n dX8_goOn_58 rfl ?_
      refine Y_gi 30 zcX8 fl_X8_77 ⟨by decide, by omega⟩ rfl rfl rfl (by decide) dX8_goOn_59 rfl ?_
      refine Z_icmp_eq (tgt := 97) dX8_goOn_62 (by decide) (fun c8 => ?_) (fun c8 => ?_)
      · have h := h.1 c8
        refine Z_iconst dX8_goOn_97 ?_
        refine Z_goto (tgt := 102) dX8_goOn_98 (by decide) ?_
        refine Z_istore_n (lv2 := [some (Rv G 127), some (Rv G x1), some (Iv 1)]) dX8_goOn_102 rfl (by decide) rfl ?_
        refine Z_iload_n dX8_goOn_103 rfl ?_
        refine Z_if_ne (tgt := 110) dX8_goOn_104 (by decide) (fun c9 => ?_) (fun c9 => ?_)
        · have h := h.1 c9
          refine Z_aload_n dX8_goOn_110 rfl ?_
          refine Y_gi 38 zcX8 fl_X8_271 ⟨by decide, by omega⟩ rfl rfl rfl (by decide) dX8_goOn_111 rfl ?_
          refine Z_aload_n dX8_goOn_114 rfl ?_
          refine Y_gi 30 zcX8 fl_X8_77 ⟨by decide, by omega⟩ rfl rfl rfl (by decide) dX8_goOn_115 rfl ?_
          refine Z_iconst dX8_goOn_118 ?_
          refine Z_isub dX8_goOn_119 ?_
          refine Z_icmp_ne (tgt := 125) dX8_goOn_120 (by decide) (fun c10 => ?_) (fun c10 => ?_)
          · have h := h.1 c10
            refine Z_aload_n dX8_goOn_125 rfl ?_
            refine Z_dup dX8_goOn_126 rfl ?_
            refine Y_gi 38 zcX8 fl_X8_271 ⟨by decide, by omega⟩ rfl rfl rfl (by decide) dX8_goOn_127 rfl ?_
            refine Z_iconst dX8_goOn_130 ?_
            refine Z_iadd dX8_goOn_131 ?_
            refine Y_pi 38 zcX8 fk_X8_271 ⟨by decide, by omega⟩ rfl rfl rfl (by decide) rfl (tyX8_ok 38 (by decide)) dX8_goOn_132 rfl ?_
            obtain ⟨μ11, eμ11⟩ : ∃ z : zM, z = zu μ4 127 38 ((μ4 127 38) + 1) := ⟨_, rfl⟩
            have h := h μ11 eμ11
            refine Z_mem eμ11 ?_
            refine Z_aload_n dX8_goOn_135 rfl ?_
            refine Z_gr (t := 150) zcX8 fl_X8_95 ⟨by decide, by omega⟩ rfl rfl rfl (by decide) (by decide) dX8_goOn_136 ?_
            refine Z_aload_n dX8_goOn_139 rfl ?_
            refine Y_gi 38 zcX8 fl_X8_271 ⟨by decide, by omega⟩ rfl rfl rfl (by decide) dX8_goOn_140 rfl ?_
            refine Z_iconst dX8_goOn_143 ?_
            obtain ⟨b12, h⟩ := h
            refine Z_iast (zin_c (by decide) (by omega) (by decide) (by decide) b12) dX8_goOn_144 ?_
            obtain ⟨μ13, eμ13⟩ : ∃ z : zM, z = zu μ11 150 (wr (μ11 127 38)) ((-1)) := ⟨_, rfl⟩
            have h := h μ13 eμ13
            refine Z_mem eμ13 ?_
            refine Z_goto (tgt := 0) dX8_goOn_145 (by decide) ?_
            exact Z_cut h ⟨rfl, rfl, trivial, trivial⟩
          · have h := h.2 c10
            refine Z_iconst dX8_goOn_123 ?_
            exact Z_zreturn dX8_goOn_124 (by decide) ⟨_, rfl, h⟩
        · have h := h.2 c9
          refine Z_goto (tgt := 0) dX8_goOn_107 (by decide) ?_
          exact Z_cut h ⟨rfl, rfl, trivial, trivial⟩
      · have h := h.2 c8
        refine Z_aload_n dX8_goOn_65 rfl ?_
        refine Z_iconst dX8_goOn_66 ?_
        refine Z_aload_n dX8_goOn_67 rfl ?_
        refine Y_gi 38 zcX8 fl_X8_271 ⟨by decide, by omega⟩ rfl rfl rfl (by decide) dX8_goOn_68 rfl ?_
        refine Z_imul dX8_goOn_71 ?_
        refine Z_aload_n dX8_goOn_72 rfl ?_
        refine Z_gr (t := 150) zcX8 fl_X8_95 ⟨by decide, by omega⟩ rfl rfl rfl (by decide) (by decide) dX8_goOn_73 ?_
        refine Z_aload_n dX8_goOn_76 rfl ?_
        refine Y_gi 38 zcX8 fl_X8_271 ⟨by decide, by omega⟩ rfl rfl rfl (by decide) dX8_goOn_77 rfl ?_
        obtain ⟨b14, h⟩ := h
        refine Z_iald (zin_c (by decide) (by omega) (by decide) (by decide) b14) dX8_goOn_80 ?_
        refine Z_iadd dX8_goOn_81 ?_
        obtain ⟨b15, h⟩ := h
        refine Z_iald b15 dX8_goOn_82 ?_
        refine Z_if_le (tgt := 101) dX8_goOn_83 (by decide) (fun c16 => ?_) (fun c16 => ?_)
        · have h := h.1 c16
          refine Z_iconst dX8_goOn_101 ?_
          refine Z_istore_n (lv2 := [some (Rv G 127), some (Rv G x1), some (Iv 0)]) dX8_goOn_102 rfl (by decide) rfl ?_
          refine Z_iload_n dX8_goOn_103 rfl ?_
          refine Z_if_ne (tgt := 110) dX8_goOn_104 (by decide) (fun c17 => ?_) (fun c17 => ?_)
          · have h := h.1 c17
            refine Z_aload_n dX8_goOn_110 rfl ?_
            refine Y_gi 38 zcX8 fl_X8_271 ⟨by decide, by omega⟩ rfl rfl rfl (by decide) dX8_goOn_111 rfl ?_
            refine Z_aload_n dX8_goOn_114 rfl ?_
            refine Y_gi 30 zcX8 fl_X8_77 ⟨by decide, by omega⟩ rfl rfl rfl (by decide) dX8_goOn_115 rfl ?_
            refine Z_iconst dX8_goOn_118 ?_
            refine Z_isub dX8_goOn_119 ?_
            refine Z_icmp_ne (tgt := 125) dX8_goOn_120 (by decide) (fun c18 => ?_) (fun c18 => ?_)
            · have h := h.1 c18
              refine Z_aload_n dX8_goOn_125 rfl ?_
              refine Z_dup dX8_goOn_126 rfl ?_
              refine Y_gi 38 zcX8 fl_X8_271 ⟨by decide, by omega⟩ rfl rfl rfl (by decide) dX8_goOn_127 rfl ?_
              refine Z_iconst dX8_goOn_130 ?_
              refine Z_iadd dX8_goOn_131 ?_
              refine Y_pi 38 zcX8 fk_X8_271 ⟨by decide, by omega⟩ rfl rfl rfl (by decide) rfl (tyX8_ok 38 (by decide)) dX8_goOn_132 rfl ?_
              obtain ⟨μ19, eμ19⟩ : ∃ z : zM, z = zu μ4 127 38 ((μ4 127 38) + 1) := ⟨_, rfl⟩
              have h := h μ19 eμ19
              refine Z_mem eμ19 ?_
              refine Z_aload_n dX8_goOn_135 rfl ?_
              refine Z_gr (t := 150) zcX8 fl_X8_95 ⟨by decide, by omega⟩ rfl rfl rfl (by decide) (by decide) dX8_goOn_136 ?_
              refine Z_aload_n dX8_goOn_139 rfl ?_
              refine Y_gi 38 zcX8 fl_X8_271 ⟨by decide, by omega⟩ rfl rfl rfl (by decide) dX8_goOn_140 rfl ?_
              refine Z_iconst dX8_goOn_143 ?_
              obtain ⟨b20, h⟩ := h
              refine Z_iast (zin_c (by decide) (by omega) (by decide) (by decide) b20) dX8_goOn_144 ?_
              obtain ⟨μ21, eμ21⟩ : ∃ z : zM, z = zu μ19 150 (wr (μ19 127 38)) ((-1)) := ⟨_, rfl⟩
              have h := h μ21 eμ21
              refine Z_mem eμ21 ?_
              refine Z_goto (tgt := 0) dX8_goOn_145 (by decide) ?_
              exact Z_cut h ⟨rfl, rfl, trivial, trivial⟩
            · have h := h.2 c18
              refine Z_iconst dX8_goOn_123 ?_
              exact Z_zreturn dX8_goOn_124 (by decide) ⟨_, rfl, h⟩
          · have h := h.2 c17
            refine Z_goto (tgt := 0) dX8_goOn_107 (by decide) ?_
            exact Z_cut h ⟨rfl, rfl, trivial, trivial⟩
        · have h := h.2 c16
          refine Z_aload_n dX8_goOn_86 rfl ?_
          refine Z_aload_n dX8_goOn_87 rfl ?_
          refine Y_gi 38 zcX8 fl_X8_271 ⟨by decide, by omega⟩ rfl rfl rfl (by decide) dX8_goOn_88 rfl ?_
          refine Z_callVi h md_X8_isFree sv_X8_isFree lk_X8_274 zcX8 rfl ⟨by decide, by omega⟩ rfl rfl rfl rfl (Nat.le_of_ble_eq_true rfl) dX8_goOn_91 ⟨by decide, Nat.le_of_ble_eq_true rfl⟩ ⟨Nat.zero_le _, Nat.zero_le _⟩ ?_
          intro r22 μ23 h
          refine Z_if_eq (tgt := 101) dX8_goOn_94 (by decide) (fun c24 => ?_) (fun c24 => ?_)
          · have h := h.1 c24
            refine Z_iconst dX8_goOn_101 ?_
            refine Z_istore_n (lv2 := [some (Rv G 127), some (Rv G x1), some (Iv 0)]) dX8_goOn_102 rfl (by decide) rfl ?_
            refine Z_iload_n dX8_goOn_103 rfl ?_
            refine Z_if_ne (tgt := 110) dX8_goOn_104 (by decide) (fun c25 => ?_) (fun c25 => ?_)
            · have h := h.1 c25
              refine Z_aload_n dX8_goOn_110 rfl ?_
              refine Y_gi 38 zcX8 fl_X8_271 ⟨by decide, by omega⟩ rfl rfl rfl (by decide) dX8_goOn_111 rfl ?_
              refine Z_aload_n dX8_goOn_114 rfl ?_
              refine Y_gi 30 zcX8 fl_X8_77 ⟨by decide, by omega⟩ rfl rfl rfl (by decide) dX8_goOn_115 rfl ?_
              refine Z_iconst dX8_goOn_118 ?_
              refine Z_isub dX8_goOn_119 ?_
              refine Z_icmp_ne (tgt := 125) dX8_goOn_120 (by decide) (fun c26 => ?_) (fun c26 => ?_)
              · have h := h.1 c26
                refine Z_aload_n dX8_goOn_125 rfl ?_
                refine Z_dup dX8_goOn_126 rfl ?_
                refine Y_gi 38 zcX8 fl_X8_271 ⟨by decide, by omega⟩ rfl rfl rfl (by decide) dX8_goOn_127 rfl ?_
                refine Z_iconst dX8_goOn_130 ?_
                refine Z_iadd dX8_goOn_131 ?_
                refine Y_pi 38 zcX8 fk_X8_271 ⟨by decide, by omega⟩ rfl rfl rfl (by decide) rfl (tyX8_ok 38 (by decide)) dX8_goOn_132 rfl ?_
                obtain ⟨μ27, eμ27⟩ : ∃ z : zM, z = zu μ23 127 38 ((μ23 127 38) + 1) := ⟨_, rfl⟩
                have h := h μ27 eμ27
                refine Z_mem eμ27 ?_
                refine Z_aload_n dX8_goOn_135 rfl ?_
                refine Z_gr (t := 150) zcX8 fl_X8_95 ⟨by decide, by omega⟩ rfl rfl rfl (by decide) (by decide) dX8_goOn_136 ?_
                refine Z_aload_n dX8_goOn_139 rfl ?_
                refine Y_gi 38 zcX8 fl_X8_271 ⟨by decide, by omega⟩ rfl rfl rfl (by decide) dX8_goOn_140 rfl ?_
                refine Z_iconst dX8_goOn_143 ?_
                obtain ⟨b28, h⟩ := h
                refine Z_iast (zin_c (by decide) (by omega) (by decide) (by decide) b28) dX8_goOn_144 ?_
                obtain ⟨μ29, eμ29⟩ : ∃ z : zM, z = zu μ27 150 (wr (μ27 127 38)) ((-1)) := ⟨_, rfl⟩
                have h := h μ29 eμ29
                refine Z_mem eμ29 ?_
                refine Z_goto (tgt := 0) dX8_goOn_145 (by decide) ?_
                exact Z_cut h ⟨rfl, rfl, trivial, trivial⟩
              · have h := h.2 c26
                refine Z_iconst dX8_goOn_123 ?_
                exact Z_zreturn dX8_goOn_124 (by decide) ⟨_, rfl, h⟩
            · have h := h.2 c25
              refine Z_goto (tgt := 0) dX8_goOn_107 (by decide) ?_
              exact Z_cut h ⟨rfl, rfl, trivial, trivial⟩
          · have h := h.2 c24
            refine Z_iconst dX8_goOn_97 ?_
            refine Z_goto (tgt := 102) dX8_goOn_98 (by decide) ?_
            refine Z_istore_n (lv2 := [some (Rv G 127), some (Rv G x1), some (Iv 1)]) dX8_goOn_102 rfl (by decide) rfl ?_
            refine Z_iload_n dX8_goOn_103 rfl ?_
            refine Z_if_ne (tgt := 110) dX8_goOn_104 (by decide) (fun c30 => ?_) (fun c30 => ?_)
            · have h := h.1 c30
              refine Z_aload_n dX8_goOn_110 rfl ?_
              refine Y_gi 38 zcX8 fl_X8_271 ⟨by decide, by omega⟩ rfl rfl rfl (by decide) dX8_goOn_111 rfl ?_
              refine Z_aload_n dX8_goOn_114 rfl ?_
              refine Y_gi 30 zcX8 fl_X8_77 ⟨by decide, by omega⟩ rfl rfl rfl (by decide) dX8_goOn_115 rfl ?_
              refine Z_iconst dX8_goOn_118 ?_
              refine Z_isub dX8_goOn_119 ?_
              refine Z_icmp_ne (tgt := 125) dX8_goOn_120 (by decide) (fun c31 => ?_) (fun c31 => ?_)
              · have h := h.1 c31
                refine Z_aload_n dX8_goOn_125 rfl ?_
                refine Z_dup dX8_goOn_126 rfl ?_
                refine Y_gi 38 zcX8 fl_X8_271 ⟨by decide, by omega⟩ rfl rfl rfl (by decide) dX8_goOn_127 rfl ?_
                refine Z_iconst dX8_goOn_130 ?_
                refine Z_iadd dX8_goOn_131 ?_
                refine Y_pi 38 zcX8 fk_X8_271 ⟨by decide, by omega⟩ rfl rfl rfl (by decide) rfl (tyX8_ok 38 (by decide)) dX8_goOn_132 rfl ?_
                obtain ⟨μ32, eμ32⟩ : ∃ z : zM, z = zu μ23 127 38 ((μ23 127 38) + 1) := ⟨_, rfl⟩
                have h := h μ32 eμ32
                refine Z_mem eμ32 ?_
                refine Z_aload_n dX8_goOn_135 rfl ?_
                refine Z_gr (t := 150) zcX8 fl_X8_95 ⟨by decide, by omega⟩ rfl rfl rfl (by decide) (by decide) dX8_goOn_136 ?_
                refine Z_aload_n dX8_goOn_139 rfl ?_
                refine Y_gi 38 zcX8 fl_X8_271 ⟨by decide, by omega⟩ rfl rfl rfl (by decide) dX8_goOn_140 rfl ?_
                refine Z_iconst dX8_goOn_143 ?_
                obtain ⟨b33, h⟩ := h
                refine Z_iast (zin_c (by decide) (by omega) (by decide) (by decide) b33) dX8_goOn_144 ?_
                obtain ⟨μ34, eμ34⟩ : ∃ z : zM, z = zu μ32 150 (wr (μ32 127 38)) ((-1)) := ⟨_, rfl⟩
                have h := h μ34 eμ34
                refine Z_mem eμ34 ?_
                refine Z_goto (tgt := 0) dX8_goOn_145 (by decide) ?_
                exact Z_cut h ⟨rfl, rfl, trivial, trivial⟩
              · have h := h.2 c31
                refine Z_iconst dX8_goOn_123 ?_
                exact Z_zreturn dX8_goOn_124 (by decide) ⟨_, rfl, h⟩
            · have h := h.2 c30
              refine Z_goto (tgt := 0) dX8_goOn_107 (by decide) ?_
              exact Z_cut h ⟨rfl, rfl, trivial, trivial⟩
    · have h := h.2 c6
      refine Z_aload_n dX8_goOn_36 rfl ?_
      refine Z_dup dX8_goOn_37 rfl ?_
      refine Y_gi 38 zcX8 fl_X8_271 ⟨by decide, by omega⟩ rfl rfl rfl (by decide) dX8_goOn_38 rfl ?_
      refine Z_iconst dX8_goOn_41 ?_
      refine Z_isub dX8_goOn_42 ?_
      refine Y_pi 38 zcX8 fk_X8_271 ⟨by decide, by omega⟩ rfl rfl rfl (by decide) rfl (tyX8_ok 38 (by decide)) dX8_goOn_43 rfl ?_
      obtain ⟨μ35, eμ35⟩ : ∃ z : zM, z = zu μ4 127 38 ((μ4 127 38) - 1) := ⟨_, rfl⟩
      have h := h μ35 eμ35
      refine Z_mem eμ35 ?_
      refine Z_goto (tgt := 0) dX8_goOn_46 (by decide) ?_
      exact Z_cut h ⟨rfl, rfl, trivial, trivial⟩
abbrev mX8_matchByTurns (G : zG) (n : Nat) (μ : zM) (K : zM → Prop) : Prop := zMt G n 2 yX8_matchByTurns cX8_matchByTurns 5 none [Rv G 127] μ (zKv K)
abbrev pX8_matchByTurns (G : zG) (n : Nat) (K : zM → Prop) (pc : Nat) (lv : List (Option Value)) (st : List Value) (μ : zM) : Prop := Z G (zrm 2 0 0) RX8 "matchByTurns" cX8_matchByTurns 5 none (zPh G n (zKv K)) 0 0 pc lv st (zE G n μ)
theorem eX8_matchByTurns {G : zG} {n : Nat} (hn : 154 ≤ n) {μ : zM} {K : zM → Prop}
    (h : (pX8_matchByTurns G n K 2 [some (Rv G 127), some (Iv 0), none, none, none] [] μ)) :
    mX8_matchByTurns G n  μ K := by
  refine zMt_of (lv := [some (Rv G 127), none, none, none, none]) (by decide) rfl (Nat.le_of_ble_eq_true rfl) ?_
  show pX8_matchByTurns G n K 0 [some (Rv G 127), none, none, none, none] [] μ
  refine Z_iconst dX8_matchByTurns_0 ?_
  refine Z_istore_n (lv2 := [some (Rv G 127), some (Iv 0), none, none, none]) dX8_matchByTurns_1 rfl (by decide) rfl ?_
  exact Z_cut h ⟨rfl, rfl, trivial, trivial, trivial, trivial⟩
theorem bX8_matchByTurns_2 {G : zG} {n : Nat} (hn : 154 ≤ n) {x1 : Int} {μ : zM} {K : zM → Prop}
    (h : (((wr 3 ≤ wr x1 → (K μ)) ∧ (¬ (wr 3 ≤ wr x1) → (pX8_matchByTurns G n K 9 [some (Rv G 127), some (Iv x1), some (Iv 0), none, none] [] μ))))) :
    pX8_matchByTurns G n K 2 [some (Rv G 127), some (Iv x1), none, none, none] [] μ := by
  refine Z_iload_n dX8_matchByTurns_2 rfl ?_
  refine Z_iconst dX8_matchByTurns_3 ?_
  refine Z_icmp_ge (tgt := 183) dX8_matchByTurns_4 (by decide) (fun c1 => ?_) (fun c1 => ?_)
  · have h := h.1 c1
    exact Z_return dX8_matchByTurns_183 ⟨rfl, h⟩
  · have h := h.2 c1
    refine Z_iconst dX8_matchByTurns_7 ?_
    refine Z_istore_n (lv2 := [some (Rv G 127), some (Iv x1), some (Iv 0), none, none]) dX8_matchByTurns_8 rfl (by decide) rfl ?_
    exact Z_cut h ⟨rfl, rfl, rfl, trivial, trivial, trivial⟩
theorem bX8_matchByTurns_9 {G : zG} {n : Nat} (hn : 154 ≤ n) {x1 x2 : Int} {μ : zM} {K : zM → Prop}
    (h : (((wr (μ 127 30) ≤ wr x2 → (pX8_matchByTurns G n K 49 [some (Rv G 127), some (Iv x1), some (Iv 0), none, none] [] μ)) ∧ (¬ (wr (μ 127 30) ≤ wr x2) → (mX8_isMatched G n x2 μ (fun r2 μ3 => ((wr r2 = 0 → (mX8_takenBy G n x2 μ3 (fun r5 μ6 => (0 ≤ wr x2 ∧ wr x2 < 5) ∧ ∀ μ8 : zM, μ8 = zu μ6 153 (wr x2) r5 → pX8_matchByTurns G n K 9 [some (Rv G 127), some (Iv x1), some (Iv (x2 + 1)), none, none] [] μ8))) ∧ (¬ (wr r2 = 0) → ((0 ≤ wr x2 ∧ wr x2 < 5) ∧ ∀ μ10 : zM, μ10 = zu μ3 153 (wr x2) ((-9)) → pX8_matchByTurns G n K 9 [some (Rv G 127), some (Iv x1), some (Iv (x2 + 1)), none, none] [] μ10))))))))) :
    pX8_matchByTurns G n K 9 [some (Rv G 127), some (Iv x1), some (Iv x2), none, none] [] μ := by
  refine Z_iload_n dX8_matchByTurns_9 rfl ?_
  refine Z_aload_n dX8_matchByTurns_10 rfl ?_
  refine Y_gi 30 zcX8 fl_X8_77 ⟨by decide, by omega⟩ rfl rfl rfl (by decide) dX8_matchByTurns_11 rfl ?_
  refine Z_icmp_ge (tgt := 47) dX8_matchByTurns_14 (by decide) (fun c1 => ?_) (fun c1 => ?_)
  · have h := h.1 c1
    refine Z_iconst dX8_matchByTurns_47 ?_
    refine Z_istore_n (lv2 := [some (Rv G 127), some (Iv x1), some (Iv 0), none, none]) dX8_matchByTurns_48 rfl (by decide) rfl ?_
    exact Z_cut h ⟨rfl, rfl, rfl, trivial, trivial, trivial⟩
  · have h := h.2 c1
    refine Z_aload_n dX8_matchByTurns_17 rfl ?_
    refine Z_gr (t := 153) zcX8 fl_X8_104 ⟨by decide, by omega⟩ rfl rfl rfl (by decide) (by decide) dX8_matchByTurns_18 ?_
    refine Z_iload_n dX8_matchByTurns_21 rfl ?_
    refine Z_aload_n dX8_matchByTurns_22 rfl ?_
    refine Z_iload_n dX8_matchByTurns_23 rfl ?_
    refine Z_callVi h md_X8_isMatched sv_X8_isMatched lk_X8_293 zcX8 rfl ⟨by decide, by omega⟩ rfl rfl rfl rfl (Nat.le_of_ble_eq_true rfl) dX8_matchByTurns_24 ⟨by decide, Nat.le_of_ble_eq_true rfl⟩ ⟨Nat.zero_le _, Nat.zero_le _⟩ ?_
    intro r2 μ3 h
    refine Z_if_eq (tgt := 35) dX8_matchByTurns_27 (by decide) (fun c4 => ?_) (fun c4 => ?_)
    · have h := h.1 c4
      refine Z_aload_n dX8_matchByTurns_35 rfl ?_
      refine Z_iload_n dX8_matchByTurns_36 rfl ?_
      refine Z_callVi h md_X8_takenBy sv_X8_takenBy lk_X8_296 zcX8 rfl ⟨by decide, by omega⟩ rfl rfl rfl rfl (Nat.le_of_ble_eq_true rfl) dX8_matchByTurns_37 ⟨by decide, Nat.le_of_ble_eq_true rfl⟩ ⟨Nat.zero_le _, Nat.zero_le _⟩ ?_
      intro r5 μ6 h
      obtain ⟨b7, h⟩ := h
      refine Z_iast (zin_c (by decide) (by omega) (by decide) (by decide) b7) dX8_matchByTurns_40 ?_
      obtain ⟨μ8, eμ8⟩ : ∃ z : zM, z = zu μ6 153 (wr x2) r5 := ⟨_, rfl⟩
      have h := h μ8 eμ8
      refine Z_mem eμ8 ?_
      refine Z_iinc (lv2 := [some (Rv G 127), some (Iv x1), some (Iv (x2 + 1)), none, none]) dX8_matchByTurns_41 rfl rfl (by decide) rfl ?_
      refine Z_goto (tgt := 9) dX8_matchByTurns_44 (by decide) ?_
      exact Z_cut h ⟨rfl, rfl, rfl, trivial, trivial, trivial⟩
    · have h := h.2 c4
      refine Z_bipush dX8_matchByTurns_30 (by decide) ?_
      refine Z_goto (tgt := 40) dX8_matchByTurns_32 (by decide) ?_
      obtain ⟨b9, h⟩ := h
      refine Z_iast (zin_c (by decide) (by omega) (by decide) (by decide) b9) dX8_matchByTurns_40 ?_
      obtain ⟨μ10, eμ10⟩ : ∃ z : zM, z = zu μ3 153 (wr x2) ((-9)) := ⟨_, rfl⟩
      have h := h μ10 eμ10
      refine Z_mem eμ10 ?_
      refine Z_iinc (lv2 := [some (Rv G 127), some (Iv x1), some (Iv (x2 + 1)), none, none]) dX8_matchByTurns_41 rfl rfl (by decide) rfl ?_
      refine Z_goto (tgt := 9) dX8_matchByTurns_44 (by decide) ?_
      exact Z_cut h ⟨rfl, rfl, rfl, trivial, trivial, trivial⟩
theorem bX8_matchByTurns_49 {G : zG} {n : Nat} (hn : 154 ≤ n) {x1 x2 : Int} {μ : zM} {K : zM → Prop}
    (h : (((wr (μ 127 30) ≤ wr x2 → (pX8_matchByTurns G n K 2 [some (Rv G 127), some (Iv (x1 + 1)), none, none, none] [] μ)) ∧ (¬ (wr (μ 127 30) ≤ wr x2) → (pX8_matchByTurns G n K 59 [some (Rv G 127), some (Iv x1), some (Iv x2), some (Iv 0), none] [] μ))))) :
    pX8_matchByTurns G n K 49 [some (Rv G 127), some (Iv x1), some (Iv x2), none, none] [] μ := by
  refine Z_iload_n dX8_matchByTurns_49 rfl ?_
  refine Z_aload_n dX8_matchByTurns_50 rfl ?_
  refine Y_gi 30 zcX8 fl_X8_77 ⟨by decide, by omega⟩ rfl rfl rfl (by decide) dX8_matchByTurns_51 rfl ?_
  refine Z_icmp_ge (tgt := 177) dX8_matchByTurns_54 (by decide) (fun c1 => ?_) (fun c1 => ?_)
  · have h := h.1 c1
    refine Z_iinc (lv2 := [some (Rv G 127), some (Iv (x1 + 1)), some (Iv x2), none, none]) dX8_matchByTurns_177 rfl rfl (by decide) rfl ?_
    refine Z_goto (tgt := 2) dX8_matchByTurns_180 (by decide) ?_
    exact Z_cut h ⟨rfl, rfl, trivial, trivial, trivial, trivial⟩
  · have h := h.2 c1
    refine Z_iconst dX8_matchByTurns_57 ?_
    refine Z_istore_n (lv2 := [some (Rv G 127), some (Iv x1), some (Iv x2), some (Iv 0), none]) dX8_matchByTurns_58 rfl (by decide) rfl ?_
    exact Z_cut h ⟨rfl, rfl, rfl, rfl, trivial, trivial⟩
theorem bX8_matchByTurns_59 {G : zG} {n : Nat} (hn : 154 ≤ n) {x1 x2 x3 : Int} {μ : zM} {K : zM → Prop}
    (h : (((wr (μ 127 30) ≤ wr x3 → (((¬ wr x1 = 0 → (pX8_matchByTurns G n K 49 [some (Rv G 127), some (Iv x1), some (Iv (x2 + 1)), none, none] [] μ)) ∧ (wr x1 = 0 → ((0 ≤ wr x2 ∧ wr x2 < 5) ∧ ((wr (μ 151 (wr x2)) = wr ((-9)) → (pX8_matchByTurns G n K 49 [some (Rv G 127), some (Iv x1), some (Iv (x2 + 1)), none, none] [] μ)) ∧ (¬ (wr (μ 151 (wr x2)) = wr ((-9))) → ((0 ≤ wr x2 ∧ wr x2 < 5) ∧ wr (μ 127 30) ≠ 0 ∧ (0 ≤ wr x2 ∧ wr x2 < 5) ∧ ∀ μ8 : zM, μ8 = zu μ 148 (wr x2) (zrem ((μ 151 (wr x2)) + 1) (μ 127 30)) → (0 ≤ wr x2 ∧ wr x2 < 5) ∧ wr (μ8 127 30) ≠ 0 ∧ (0 ≤ wr (μ8 151 (wr x2)) ∧ wr (μ8 151 (wr x2)) < 5) ∧ ∀ μ12 : zM, μ12 = zu μ8 149 (wr (μ8 151 (wr x2))) (zrem (x2 + 1) (μ8 127 30)) → pX8_matchByTurns G n K 49 [some (Rv G 127), some (Iv x1), some (Iv (x2 + 1)), none, none] [] μ12)))))))) ∧ (¬ (wr (μ 127 30) ≤ wr x3) → ((0 ≤ wr x2 ∧ wr x2 < 5) ∧ ((¬ wr (μ 151 (wr x2)) = wr ((-9)) → (((¬ wr x1 = 0 → (pX8_matchByTurns G n K 49 [some (Rv G 127), some (Iv x1), some (Iv (x2 + 1)), none, none] [] μ)) ∧ (wr x1 = 0 → ((0 ≤ wr x2 ∧ wr x2 < 5) ∧ ((wr (μ 151 (wr x2)) = wr ((-9)) → (pX8_matchByTurns G n K 49 [some (Rv G 127), some (Iv x1), some (Iv (x2 + 1)), none, none] [] μ)) ∧ (¬ (wr (μ 151 (wr x2)) = wr ((-9))) → ((0 ≤ wr x2 ∧ wr x2 < 5) ∧ wr (μ 127 30) ≠ 0 ∧ (0 ≤ wr x2 ∧ wr x2 < 5) ∧ ∀ μ21 : zM, μ21 = zu μ 148 (wr x2) (zrem ((μ 151 (wr x2)) + 1) (μ 127 30)) → (0 ≤ wr x2 ∧ wr x2 < 5) ∧ wr (μ21 127 30) ≠ 0 ∧ (0 ≤ wr (μ21 151 (wr x2)) ∧ wr (μ21 151 (wr x2)) < 5) ∧ ∀ μ25 : zM, μ25 = zu μ21 149 (wr (μ21 151 (wr x2))) (zrem (x2 + 1) (μ21 127 30)) → pX8_matchByTurns G n K 49 [some (Rv G 127), some (Iv x1), some (Iv (x2 + 1)), none, none] [] μ25)))))))) ∧ (wr (μ 151 (wr x2)) = wr ((-9)) → ((0 ≤ wr x2 ∧ wr x2 < 5) ∧ wr (μ 127 30) ≠ 0 ∧ ∀ v28 : Int, v28 = zrem ((μ 148 (wr x2)) + x3) (μ 127 30) → (0 ≤ wr v28 ∧ wr v28 < 5) ∧ ((¬ wr (μ 153 (wr v28)) = wr x2 → (pX8_matchByTurns G n K 59 [some (Rv G 127), some (Iv x1), some (Iv x2), some (Iv (x3 + 1)), none] [] μ)) ∧ (wr (μ 153 (wr v28)) = wr x2 → ((0 ≤ wr x2 ∧ wr x2 < 5) ∧ ∀ μ32 : zM, μ32 = zu μ 151 (wr x2) v28 → pX8_matchByTurns G n K 59 [some (Rv G 127), some (Iv x1), some (Iv x2), some (Iv (x3 + 1)), none] [] μ32))))))))))) :
    pX8_matchByTurns G n K 59 [some (Rv G 127), some (Iv x1), some (Iv x2), some (Iv x3), none] [] μ := by
  refine Z_iload_n dX8_matchByTurns_59 rfl ?_
  refine Z_aload_n dX8_matchByTurns_60 rfl ?_
  refine Y_gi 30 zcX8 fl_X8_77 ⟨by decide, by omega⟩ rfl rfl rfl (by decide) dX8_matchByTurns_61 rfl ?_
  refine Z_icmp_ge (tgt := 118) dX8_matchByTurns_64 (by decide) (fun c1 => ?_) (fun c1 => ?_)
  · have h := h.1 c1
    refine Z_iload_n dX8_matchByTurns_118 rfl ?_
    refine Z_if_ne (tgt := 171) dX8_matchByTurns_119 (by decide) (fun c2 => ?_) (fun c2 => ?_)
    · have h := h.1 c2
      refine Z_iinc (lv2 := [some (Rv G 127), some (Iv x1), some (Iv (x2 + 1)), some (Iv x3), none]) dX8_matchByTurns_171 rfl rfl (by decide) rfl ?_
      refine Z_goto (tgt := 49) dX8_matchByTurns_174 (by decide) ?_
      exact Z_cut h ⟨rfl, rfl, rfl, trivial, trivial, trivial⟩
    · have h := h.2 c2
      refine Z_aload_n dX8_matchByTurns_122 rfl ?_
      refine Z_gr (t := 151) zcX8 fl_X8_98 ⟨by decide, by omega⟩ rfl rfl rfl (by decide) (by decide) dX8_matchByTurns_123 ?_
      refine Z_iload_n dX8_matchByTurns_126 rfl ?_
      obtain ⟨b3, h⟩ := h
      refine Z_iald (zin_c (by decide) (by omega) (by decide) (by decide) b3) dX8_matchByTurns_127 ?_
      refine Z_bipush dX8_matchByTurns_128 (by decide) ?_
      refine Z_icmp_eq (tgt := 171) dX8_matchByTurns_130 (by decide) (fun c4 => ?_) (fun c4 => ?_)
      · have h := h.1 c4
        refine Z_iinc (lv2 := [some (Rv G 127), some (Iv x1), some (Iv (x2 + 1)), some (Iv x3), none]) dX8_matchByTurns_171 rfl rfl (by decide) rfl ?_
        refine Z_goto (tgt := 49) dX8_matchByTurns_174 (by decide) ?_
        exact Z_cut h ⟨rfl, rfl, rfl, trivial, trivial, trivial⟩
      · have h := h.2 c4
        refine Z_aload_n dX8_matchByTurns_133 rfl ?_
        refine Z_gr (t := 148) zcX8 fl_X8_89 ⟨by decide, by omega⟩ rfl rfl rfl (by decide) (by decide) dX8_matchByTurns_134 ?_
        refine Z_iload_n dX8_matchByTurns_137 rfl ?_
        refine Z_aload_n dX8_matchByTurns_138 rfl ?_
        refine Z_gr (t := 151) zcX8 fl_X8_98 ⟨by decide, by omega⟩ rfl rfl rfl (by decide) (by decide) dX8_matchByTurns_139 ?_
        refine Z_iload_n dX8_matchByTurns_142 rfl ?_
        obtain ⟨b5, h⟩ := h
        refine Z_iald (zin_c (by decide) (by omega) (by decide) (by decide) b5) dX8_matchByTurns_143 ?_
        refine Z_iconst dX8_matchByTurns_144 ?_
        refine Z_iadd dX8_matchByTurns_145 ?_
        refine Z_aload_n dX8_matchByTurns_146 rfl ?_
        refine Y_gi 30 zcX8 fl_X8_77 ⟨by decide, by omega⟩ rfl rfl rfl (by decide) dX8_matchByTurns_147 rfl ?_
        obtain ⟨b6, h⟩ := h
        refine Z_irem dX8_matchByTurns_150 b6 ?_
        obtain ⟨b7, h⟩ := h
        refine Z_iast (zin_c (by decide) (by omega) (by decide) (by decide) b7) dX8_matchByTurns_151 ?_
        obtain ⟨μ8, eμ8⟩ : ∃ z : zM, z = zu μ 148 (wr x2) (zrem ((μ 151 (wr x2)) + 1) (μ 127 30)) := ⟨_, rfl⟩
        have h := h μ8 eμ8
        refine Z_mem eμ8 ?_
        refine Z_aload_n dX8_matchByTurns_152 rfl ?_
        refine Z_gr (t := 149) zcX8 fl_X8_92 ⟨by decide, by omega⟩ rfl rfl rfl (by decide) (by decide) dX8_matchByTurns_153 ?_
        refine Z_aload_n dX8_matchByTurns_156 rfl ?_
        refine Z_gr (t := 151) zcX8 fl_X8_98 ⟨by decide, by omega⟩ rfl rfl rfl (by decide) (by decide) dX8_matchByTurns_157 ?_
        refine Z_iload_n dX8_matchByTurns_160 rfl ?_
        obtain ⟨b9, h⟩ := h
        refine Z_iald (zin_c (by decide) (by omega) (by decide) (by decide) b9) dX8_matchByTurns_161 ?_
        refine Z_iload_n dX8_matchByTurns_162 rfl ?_
        refine Z_iconst dX8_matchByTurns_163 ?_
        refine Z_iadd dX8_matchByTurns_164 ?_
        refine Z_aload_n dX8_matchByTurns_165 rfl ?_
        refine Y_gi 30 zcX8 fl_X8_77 ⟨by decide, by omega⟩ rfl rfl rfl (by decide) dX8_matchByTurns_166 rfl ?_
        obtain ⟨b10, h⟩ := h
        refine Z_irem dX8_matchByTurns_169 b10 ?_
        obtain ⟨b11, h⟩ := h
        refine Z_iast (zin_c (by decide) (by omega) (by decide) (by decide) b11) dX8_matchByTurns_170 ?_
        obtain ⟨μ12, eμ12⟩ : ∃ z : zM, z = zu μ8 149 (wr (μ8 151 (wr x2))) (zrem (x2 + 1) (μ8 127 30)) := ⟨_, rfl⟩
        have h := h μ12 eμ12
        refine Z_mem eμ12 ?_
        refine Z_iinc (lv2 := [some (Rv G 127), some (Iv x1), some (Iv (x2 + 1)), some (Iv x3), none]) dX8_matchByTurns_171 rfl rfl (by decide) rfl ?_
        refine Z_goto (tgt := 49) dX8_matchByTurns_174 (by decide) ?_
        exact Z_cut h ⟨rfl, rfl, rfl, trivial, trivial, trivial⟩
  · have h := h.2 c1
    refine Z_aload_n dX8_matchByTurns_67 rfl ?_
    refine Z_gr (t := 151) zcX8 fl_X8_98 ⟨by decide, by omega⟩ rfl rfl rfl (by decide) (by decide) dX8_matchByTurns_68 ?_
    refine Z_iload_n dX8_matchByTurns_71 rfl ?_
    obtain ⟨b13, h⟩ := h
    refine Z_iald (zin_c (by decide) (by omega) (by decide) (by decide) b13) dX8_matchByTurns_72 ?_
    refine Z_bipush dX8_matchByTurns_73 (by decide) ?_
    refine Z_icmp_ne (tgt := 118) dX8_matchByTurns_75 (by decide) (fun c14 => ?_) (fun c14 => ?_)
    · have h := h.1 c14
      refine Z_iload_n dX8_matchByTurns_118 rfl ?_
      refine Z_if_ne (tgt := 171) dX8_matchByTurns_119 (by decide) (fun c15 => ?_) (fun c15 => ?_)
      · have h := h.1 c15
        refine Z_iinc (lv2 := [some (Rv G 127), some (Iv x1), some (Iv (x2 + 1)), some (Iv x3), none]) dX8_matchByTurns_171 rfl rfl (by decide) rfl ?_
        refine Z_goto (tgt := 49) dX8_matchByTurns_174 (by decide) ?_
        exact Z_cut h ⟨rfl, rfl, rfl, trivial, trivial, trivial⟩
      · have h := h.2 c15
        refine Z_aload_n dX8_matchByTurns_122 rfl ?_
        refine Z_gr (t := 151) zcX8 fl_X8_98 ⟨by decide, by omega⟩ rfl rfl rfl (by decide) (by decide) dX8_matchByTurns_123 ?_
        refine Z_iload_n dX8_matchByTurns_126 rfl ?_
        obtain ⟨b16, h⟩ := h
        refine Z_iald (zin_c (by decide) (by omega) (by decide) (by decide) b16) dX8_matchByTurns_127 ?_
        refine Z_bipush dX8_matchByTurns_128 (by decide) ?_
        refine Z_icmp_eq (tgt := 171) dX8_matchByTurns_130 (by decide) (fun c17 => ?_) (fun c17 => ?_)
        · have h := h.1 c17
          refine Z_iinc (lv2 := [some (Rv G 127), some (Iv x1), some (Iv (x2 + 1)), some (Iv x3), none]) dX8_matchByTurns_171 rfl rfl (by decide) rfl ?_
          refine Z_goto (tgt := 49) dX8_matchByTurns_174 (by decide) ?_
          exact Z_cut h ⟨rfl, rfl, rfl, trivial, trivial, trivial⟩
        · have h := h.2 c17
          refine Z_aload_n dX8_matchByTurns_133 rfl ?_
          refine Z_gr (t := 148) zcX8 fl_X8_89 ⟨by decide, by omega⟩ rfl rfl rfl (by decide) (by decide) dX8_matchByTurns_134 ?_
          refine Z_iload_n dX8_matchByTurns_137 rfl ?_
          refine Z_aload_n dX8_matchByTurns_138 rfl ?_
          refine Z_gr (t := 151) zcX8 fl_X8_98 ⟨by decide, by omega⟩ rfl rfl rfl (by decide) (by decide) dX8_matchByTurns_139 ?_
          refine Z_iload_n dX8_matchByTurns_142 rfl ?_
          obtain ⟨b18, h⟩ := h
          refine Z_iald (zin_c (by decide) (by omega) (by decide) (by decide) b18) dX8_matchByTurns_143 ?_
          refine Z_iconst dX8_matchByTurns_144 ?_
          refine Z_iadd dX8_matchByTurns_145 ?_
          refine Z_aload_n dX8_matchByTurns_146 rfl ?_
          refine Y_gi 30 zcX8 fl_X8_77 ⟨by decide, by omega⟩ rfl rfl rfl (by decide) dX8_matchByTurns_147 rfl ?_
          obtain ⟨b19, h⟩ := h
          refine Z_irem dX8_matchByTurns_150 b19 ?_
          obtain ⟨b20, h⟩ := h
          refine Z_iast (zin_c (by decide) (by omega) (by decide) (by decide) b20) dX8_matchByTurns_151 ?_
          obtain ⟨μ21, eμ21⟩ : ∃ z : zM, z = zu μ 148 (wr x2) (zrem ((μ 151 (wr x2)) + 1) (μ 127 30)) := ⟨_, rfl⟩
          have h := h μ21 eμ21
          refine Z_mem eμ21 ?_
          refine Z_aload_n dX8_matchByTurns_152 rfl ?_
          refine Z_gr (t := 149) zcX8 fl_X8_92 ⟨by decide, by omega⟩ rfl rfl rfl (by decide) (by decide) dX8_matchByTurns_153 ?_
          refine Z_aload_n dX8_matchByTurns_156 rfl ?_
          refine Z_gr (t := 151) zcX8 fl_X8_98 ⟨by decide, by omega⟩ rfl rfl rfl (by decide) (by decide) dX8_matchByTurns_157 ?_
          refine Z_iload_n dX8_matchByTurns_160 rfl ?_
          obtain ⟨b22, h⟩ := h
          refine Z_iald (zin_c (by decide) (by omega) (by decide) (by decide) b22) dX8_matchByTurns_161 ?_
          refine Z_iload_n dX8_matchByTurns_162 rfl ?_
          refine Z_iconst dX8_matchByTurns_163 ?_
          refine Z_iadd dX8_matchByTurns_164 ?_
          refine Z_aload_n dX8_matchByTurns_165 rfl ?_
          refine Y_gi 30 zcX8 fl_X8_77 ⟨by decide, by omega⟩ rfl rfl rfl (by decide) dX8_matchByTurns_166 rfl ?_
          obtain ⟨b23, h⟩ := h
          refine Z_irem dX8_matchByTurns_169 b23 ?_
          obtain ⟨b24, h⟩ := h
          refine Z_iast (zin_c (by decide) (by omega) (by decide) (by decide) b24) dX8_matchByTurns_170 ?_
          obtain ⟨μ25, eμ25⟩ : ∃ z : zM, z = zu μ21 149 (wr (μ21 151 (wr x2))) (zrem (x2 + 1) (μ21 127 30)) := ⟨_, rfl⟩
          have h := h μ25 eμ25
          refine Z_mem eμ25 ?_
          refine Z_iinc (lv2 := [some (Rv G 127), some (Iv x1), some (Iv (x2 + 1)), some (Iv x3), none]) dX8_matchByTurns_171 rfl rfl (by decide) rfl ?_
          refine Z_goto (tgt := 49) dX8_matchByTurns_174 (by decide) ?_
          exact Z_cut h ⟨rfl, rfl, rfl, trivial, trivial, trivial⟩
    · have h := h.2 c14
      refine Z_aload_n dX8_matchByTurns_78 rfl ?_
      refine Z_gr (t := 148) zcX8 fl_X8_89 ⟨by decide, by omega⟩ rfl rfl rfl (by decide) (by decide) dX8_matchByTurns_79 ?_
      refine Z_iload_n dX8_matchByTurns_82 rfl ?_
      obtain ⟨b26, h⟩ := h
      refine Z_iald (zin_c (by decide) (by omega) (by decide) (by decide) b26) dX8_matchByTurns_83 ?_
      refine Z_iload_n dX8_matchByTurns_84 rfl ?_
      refine Z_iadd dX8_matchByTurns_85 ?_
      refine Z_aload_n dX8_matchByTurns_86 rfl ?_
      refine Y_gi 30 zcX8 fl_X8_77 ⟨by decide, by omega⟩ rfl rfl rfl (by decide) dX8_matchByTurns_87 rfl ?_
      obtain ⟨b27, h⟩ := h
      refine Z_irem dX8_matchByTurns_90 b27 ?_
      obtain ⟨v28, ev28⟩ : ∃ z : Int, z = zrem ((μ 148 (wr x2)) + x3) (μ 127 30) := ⟨_, rfl⟩
      have h := h v28 ev28
      refine Z_nmi ev28 ?_
      refine Z_istore (lv2 := [some (Rv G 127), some (Iv x1), some (Iv x2), some (Iv x3), some (Iv v28)]) dX8_matchByTurns_91 rfl (by decide) rfl ?_
      refine Z_aload_n dX8_matchByTurns_93 rfl ?_
      refine Z_gr (t := 153) zcX8 fl_X8_104 ⟨by decide, by omega⟩ rfl rfl rfl (by decide) (by decide) dX8_matchByTurns_94 ?_
      refine Z_iload dX8_matchByTurns_97 rfl ?_
      obtain ⟨b29, h⟩ := h
      refine Z_iald (zin_c (by decide) (by omega) (by decide) (by decide) b29) dX8_matchByTurns_99 ?_
      refine Z_iload_n dX8_matchByTurns_100 rfl ?_
      refine Z_icmp_ne (tgt := 112) dX8_matchByTurns_101 (by decide) (fun c30 => ?_) (fun c30 => ?_)
      · have h := h.1 c30
        refine Z_iinc (lv2 := [some (Rv G 127), some (Iv x1), some (Iv x2), some (Iv (x3 + 1)), some (Iv v28)]) dX8_matchByTurns_112 rfl rfl (by decide) rfl ?_
        refine Z_goto (tgt := 59) dX8_matchByTurns_115 (by decide) ?_
        exact Z_cut h ⟨rfl, rfl, rfl, rfl, trivial, trivial⟩
      · have h := h.2 c30
        refine Z_aload_n dX8_matchByTurns_104 rfl ?_
        refine Z_gr (t := 151) zcX8 fl_X8_98 ⟨by decide, by omega⟩ rfl rfl rfl (by decide) (by decide) dX8_matchByTurns_105 ?_
        refine Z_iload_n dX8_matchByTurns_108 rfl ?_
        refine Z_iload dX8_matchByTurns_109 rfl ?_
        obtain ⟨b31, h⟩ := h
        refine Z_iast (zin_c (by decide) (by omega) (by decide) (by decide) b31) dX8_matchByTurns_111 ?_
        obtain ⟨μ32, eμ32⟩ : ∃ z : zM, z = zu μ 151 (wr x2) v28 := ⟨_, rfl⟩
        have h := h μ32 eμ32
        refine Z_mem eμ32 ?_
        refine Z_iinc (lv2 := [some (Rv G 127), some (Iv x1), some (Iv x2), some (Iv (x3 + 1)), some (Iv v28)]) dX8_matchByTurns_112 rfl rfl (by decide) rfl ?_
        refine Z_goto (tgt := 59) dX8_matchByTurns_115 (by decide) ?_
        exact Z_cut h ⟨rfl, rfl, rfl, rfl, trivial, trivial⟩
abbrev mX8_matchCrosswise (G : zG) (n : Nat) (μ : zM) (K : zM → Prop) : Prop := zMt G n 2 yX8_matchCrosswise cX8_matchCrosswise 4 none [Rv G 127] μ (zKv K)
abbrev pX8_matchCrosswise (G : zG) (n : Nat) (K : zM → Prop) (pc : Nat) (lv : List (Option Value)) (st : List Value) (μ : zM) : Prop := Z G (zrm 2 0 0) RX8 "matchCrosswise" cX8_matchCrosswise 4 none (zPh G n (zKv K)) 0 0 pc lv st (zE G n μ)
theorem eX8_matchCrosswise {G : zG} {n : Nat} (hn : 154 ≤ n) {μ : zM} {K : zM → Prop}
    (h : (pX8_matchCrosswise G n K 2 [some (Rv G 127), some (Iv 0), none, none] [] μ)) :
    mX8_matchCrosswise G n  μ K := by
  refine zMt_of (lv := [some (Rv G 127), none, none, none]) (by decide) rfl (Nat.le_of_ble_eq_true rfl) ?_
  show pX8_matchCrosswise G n K 0 [some (Rv G 127), none, none, none] [] μ
  refine Z_iconst dX8_matchCrosswise_0 ?_
  refine Z_istore_n (lv2 := [some (Rv G 127), some (Iv 0), none, none]) dX8_matchCrosswise_1 rfl (by decide) rfl ?_
  exact Z_cut h ⟨rfl, rfl, trivial, trivial, trivial⟩
theorem bX8_matchCrosswise_2 {G : zG} {n : Nat} (hn : 154 ≤ n) {x1 : Int} {μ : zM} {K : zM → Prop}
    (h : (((wr (μ 127 30) ≤ wr x1 → (K μ)) ∧ (¬ (wr (μ 127 30) ≤ wr x1) → (pX8_matchCrosswise G n K 12 [some (Rv G 127), some (Iv x1), some (Iv 0), none] [] μ))))) :
    pX8_matchCrosswise G n K 2 [some (Rv G 127), some (Iv x1), none, none] [] μ := by
  refine Z_iload_n dX8_matchCrosswise_2 rfl ?_
  refine Z_aload_n dX8_matchCrosswise_3 rfl ?_
  refine Y_gi 30 zcX8 fl_X8_77 ⟨by decide, by omega⟩ rfl rfl rfl (by decide) dX8_matchCrosswise_4 rfl ?_
  refine Z_icmp_ge (tgt := 80) dX8_matchCrosswise_7 (by decide) (fun c1 => ?_) (fun c1 => ?_)
  · have h := h.1 c1
    exact Z_return dX8_matchCrosswise_80 ⟨rfl, h⟩
  · have h := h.2 c1
    refine Z_iconst dX8_matchCrosswise_10 ?_
    refine Z_istore_n (lv2 := [some (Rv G 127), some (Iv x1), some (Iv 0), none]) dX8_matchCrosswise_11 rfl (by decide) rfl ?_
    exact Z_cut h ⟨rfl, rfl, rfl, trivial, trivial⟩
theorem bX8_matchCrosswise_12 {G : zG} {n : Nat} (hn : 154 ≤ n) {x1 x2 : Int} {μ : zM} {K : zM → Prop}
    (h : (((wr (μ 127 30) ≤ wr x2 → (pX8_matchCrosswise G n K 2 [some (Rv G 127), some (Iv (x1 + 1)), none, none] [] μ)) ∧ (¬ (wr (μ 127 30) ≤ wr x2) → (wr (μ 127 30) ≠ 0 ∧ ∀ v3 : Int, v3 = zrem (x2 + x1) (μ 127 30) → (0 ≤ wr x2 ∧ wr x2 < 5) ∧ ((¬ wr (μ 151 (wr x2)) = wr ((-9)) → (pX8_matchCrosswise G n K 12 [some (Rv G 127), some (Iv x1), some (Iv (x2 + 1)), none] [] μ)) ∧ (wr (μ 151 (wr x2)) = wr ((-9)) → (mX8_isMatched G n v3 μ (fun r6 μ7 => ((¬ wr r6 = 0 → (pX8_matchCrosswise G n K 12 [some (Rv G 127), some (Iv x1), some (Iv (x2 + 1)), none] [] μ7)) ∧ (wr r6 = 0 → ((0 ≤ wr ((5 * x2) + v3) ∧ wr ((5 * x2) + v3) < 25) ∧ ((wr (μ7 147 (wr ((5 * x2) + v3))) ≤ 0 → (pX8_matchCrosswise G n K 12 [some (Rv G 127), some (Iv x1), some (Iv (x2 + 1)), none] [] μ7)) ∧ (¬ (wr (μ7 147 (wr ((5 * x2) + v3))) ≤ 0) → ((0 ≤ wr x2 ∧ wr x2 < 5) ∧ ∀ μ12 : zM, μ12 = zu μ7 151 (wr x2) v3 → pX8_matchCrosswise G n K 12 [some (Rv G 127), some (Iv x1), some (Iv (x2 + 1)), none] [] μ12))))))))))))))) :
    pX8_matchCrosswise G n K 12 [some (Rv G 127), some (Iv x1), some (Iv x2), none] [] μ := by
  refine Z_iload_n dX8_matchCrosswise_12 rfl ?_
  refine Z_aload_n dX8_matchCrosswise_13 rfl ?_
  refine Y_gi 30 zcX8 fl_X8_77 ⟨by decide, by omega⟩ rfl rfl rfl (by decide) dX8_matchCrosswise_14 rfl ?_
  refine Z_icmp_ge (tgt := 74) dX8_matchCrosswise_17 (by decide) (fun c1 => ?_) (fun c1 => ?_)
  · have h := h.1 c1
    refine Z_iinc (lv2 := [some (Rv G 127), some (Iv (x1 + 1)), some (Iv x2), none]) dX8_matchCrosswise_74 rfl rfl (by decide) rfl ?_
    refine Z_goto (tgt := 2) dX8_matchCrosswise_77 (by decide) ?_
    exact Z_cut h ⟨rfl, rfl, trivial, trivial, trivial⟩
  · have h := h.2 c1
    refine Z_iload_n dX8_matchCrosswise_20 rfl ?_
    refine Z_iload_n dX8_matchCrosswise_21 rfl ?_
    refine Z_iadd dX8_matchCrosswise_22 ?_
    refine Z_aload_n dX8_matchCrosswise_23 rfl ?_
    refine Y_gi 30 zcX8 fl_X8_77 ⟨by decide, by omega⟩ rfl rfl rfl (by decide) dX8_matchCrosswise_24 rfl ?_
    obtain ⟨b2, h⟩ := h
    refine Z_irem dX8_matchCrosswise_27 b2 ?_
    obtain ⟨v3, ev3⟩ : ∃ z : Int, z = zrem (x2 + x1) (μ 127 30) := ⟨_, rfl⟩
    have h := h v3 ev3
    refine Z_nmi ev3 ?_
    refine Z_istore_n (lv2 := [some (Rv G 127), some (Iv x1), some (Iv x2), some (Iv v3)]) dX8_matchCrosswise_28 rfl (by decide) rfl ?_
    refine Z_aload_n dX8_matchCrosswise_29 rfl ?_
    refine Z_gr (t := 151) zcX8 fl_X8_98 ⟨by decide, by omega⟩ rfl rfl rfl (by decide) (by decide) dX8_matchCrosswise_30 ?_
    refine Z_iload_n dX8_matchCrosswise_33 rfl ?_
    obtain ⟨b4, h⟩ := h
    refine Z_iald (zin_c (by decide) (by omega) (by decide) (by decide) b4) dX8_matchCrosswise_34 ?_
    refine Z_bipush dX8_matchCrosswise_35 (by decide) ?_
    refine Z_icmp_ne (tgt := 68) dX8_matchCrosswise_37 (by decide) (fun c5 => ?_) (fun c5 => ?_)
    · have h := h.1 c5
      refine Z_iinc (lv2 := [some (Rv G 127), some (Iv x1), some (Iv (x2 + 1)), some (Iv v3)]) dX8_matchCrosswise_68 rfl rfl (by decide) rfl ?_
      refine Z_goto (tgt := 12) dX8_matchCrosswise_71 (by decide) ?_
      exact Z_cut h ⟨rfl, rfl, rfl, trivial, trivial⟩
    · have h := h.2 c5
      refine Z_aload_n dX8_matchCrosswise_40 rfl ?_
      refine Z_iload_n dX8_matchCrosswise_41 rfl ?_
      refine Z_callVi h md_X8_isMatched sv_X8_isMatched lk_X8_293 zcX8 rfl ⟨by decide, by omega⟩ rfl rfl rfl rfl (Nat.le_of_ble_eq_true rfl) dX8_matchCrosswise_42 ⟨by decide, Nat.le_of_ble_eq_true rfl⟩ ⟨Nat.zero_le _, Nat.zero_le _⟩ ?_
      intro r6 μ7 h
      refine Z_if_ne (tgt := 68) dX8_matchCrosswise_45 (by decide) (fun c8 => ?_) (fun c8 => ?_)
      · have h := h.1 c8
        refine Z_iinc (lv2 := [some (Rv G 127), some (Iv x1), some (Iv (x2 + 1)), some (Iv v3)]) dX8_matchCrosswise_68 rfl rfl (by decide) rfl ?_
        refine Z_goto (tgt := 12) dX8_matchCrosswise_71 (by decide) ?_
        exact Z_cut h ⟨rfl, rfl, rfl, trivial, trivial⟩
      · have h := h.2 c8
        refine Z_aload_n dX8_matchCrosswise_48 rfl ?_
        refine Z_gr (t := 147) zcX8 fl_X8_86 ⟨by decide, by omega⟩ rfl rfl rfl (by decide) (by decide) dX8_matchCrosswise_49 ?_
        refine Z_iconst dX8_matchCrosswise_52 ?_
        refine Z_iload_n dX8_matchCrosswise_53 rfl ?_
        refine Z_imul dX8_matchCrosswise_54 ?_
        refine Z_iload_n dX8_matchCrosswise_55 rfl ?_
        refine Z_iadd dX8_matchCrosswise_56 ?_
        obtain ⟨b9, h⟩ := h
        refine Z_iald (zin_c (by decide) (by omega) (by decide) (by decide) b9) dX8_matchCrosswise_57 ?_
        refine Z_if_le (tgt := 68) dX8_matchCrosswise_58 (by decide) (fun c10 => ?_) (fun c10 => ?_)
        · have h := h.1 c10
          refine Z_iinc (lv2 := [some (Rv G 127), some (Iv x1), some (Iv (x2 + 1)), some (Iv v3)]) dX8_matchCrosswise_68 rfl rfl (by decide) rfl ?_
          refine Z_goto (tgt := 12) dX8_matchCrosswise_71 (by decide) ?_
          exact Z_cut h ⟨rfl, rfl, rfl, trivial, trivial⟩
        · have h := h.2 c10
          refine Z_aload_n dX8_matchCrosswise_61 rfl ?_
          refine Z_gr (t := 151) zcX8 fl_X8_98 ⟨by decide, by omega⟩ rfl rfl rfl (by decide) (by decide) dX8_matchCrosswise_62 ?_
          refine Z_iload_n dX8_matchCrosswise_65 rfl ?_
          refine Z_iload_n dX8_matchCrosswise_66 rfl ?_
          obtain ⟨b11, h⟩ := h
          refine Z_iast (zin_c (by decide) (by omega) (by decide) (by decide) b11) dX8_matchCrosswise_67 ?_
          obtain ⟨μ12, eμ12⟩ : ∃ z : zM, z = zu μ7 151 (wr x2) v3 := ⟨_, rfl⟩
          have h := h μ12 eμ12
          refine Z_mem eμ12 ?_
          refine Z_iinc (lv2 := [some (Rv G 127), some (Iv x1), some (Iv (x2 + 1)), some (Iv v3)]) dX8_matchCrosswise_68 rfl rfl (by decide) rfl ?_
          refine Z_goto (tgt := 12) dX8_matchCrosswise_71 (by decide) ?_
          exact Z_cut h ⟨rfl, rfl, rfl, trivial, trivial⟩
abbrev mX8_queue (G : zG) (n : Nat) (x1 x2 x3 : Int) (μ : zM) (K : Int → zM → Prop) : Prop := zMt G n 2 yX8_queue cX8_queue 4 (some .int) [Rv G 127, Iv x1, Iv x2, Iv x3] μ (zKi K)
abbrev pX8_queue (G : zG) (n : Nat) (K : Int → zM → Prop) (pc : Nat) (lv : List (Option Value)) (st : List Value) (μ : zM) : Prop := Z G (zrm 2 0 0) RX8 "queue" cX8_queue 4 (some .int) (zPh G n (zKi K)) 0 0 pc lv st (zE G n μ)
theorem eX8_queue {G : zG} {n : Nat} (hn : 154 ≤ n) {x1 x2 x3 : Int} {μ : zM} {K : Int → zM → Prop}
    (h : (mX8_within G n x3 0 3 μ (fun r1 μ2 => ((¬ wr r1 = 0 → (mX8_isPort G n x1 μ2 (fun r4 μ5 => ((wr r4 = 0 → (K ((-1)) μ5)) ∧ (¬ (wr r4 = 0) → (((¬ wr x3 = 0 → ((((wr x3 < 0 ∨ 2 < wr x3) → ((0 ≤ wr x1 ∧ wr x1 < 5) ∧ K (μ5 149 (wr x1)) μ5)) ∧ (wr x3 = 0 → ((0 ≤ wr ((5 * x1) + x2) ∧ wr ((5 * x1) + x2) < 25) ∧ K (μ5 147 (wr ((5 * x1) + x2))) μ5)) ∧ (wr x3 = 1 → ((0 ≤ wr x1 ∧ wr x1 < 5) ∧ K (μ5 151 (wr x1)) μ5)) ∧ (wr x3 = 2 → ((0 ≤ wr x1 ∧ wr x1 < 5) ∧ K (μ5 148 (wr x1)) μ5))))) ∧ (wr x3 = 0 → (mX8_isPort G n x2 μ5 (fun r13 μ14 => ((¬ wr r13 = 0 → ((((wr x3 < 0 ∨ 2 < wr x3) → ((0 ≤ wr x1 ∧ wr x1 < 5) ∧ K (μ14 149 (wr x1)) μ14)) ∧ (wr x3 = 0 → ((0 ≤ wr ((5 * x1) + x2) ∧ wr ((5 * x1) + x2) < 25) ∧ K (μ14 147 (wr ((5 * x1) + x2))) μ14)) ∧ (wr x3 = 1 → ((0 ≤ wr x1 ∧ wr x1 < 5) ∧ K (μ14 151 (wr x1)) μ14)) ∧ (wr x3 = 2 → ((0 ≤ wr x1 ∧ wr x1 < 5) ∧ K (μ14 148 (wr x1)) μ14))))) ∧ (wr r13 = 0 → (K ((-1)) μ14))))))))))))) ∧ (wr r1 = 0 → (K ((-2)) μ2)))))) :
    mX8_queue G n x1 x2 x3 μ K := by
  refine zMt_of (lv := [some (Rv G 127), some (Iv x1), some (Iv x2), some (Iv x3)]) (by decide) rfl (Nat.le_of_ble_eq_true rfl) ?_
  show pX8_queue G n K 0 [some (Rv G 127), some (Iv x1), some (Iv x2), some (Iv x3)] [] μ
  refine Z_iload_n dX8_queue_0 rfl ?_
  refine Z_iconst dX8_queue_1 ?_
  refine Z_iconst dX8_queue_2 ?_
  refine Z_callSi h md_X8_within sv_X8_within lk_X8_116 rfl rfl (Nat.le_of_ble_eq_true rfl) dX8_queue_3 ⟨by decide, Nat.le_of_ble_eq_true rfl⟩ ⟨Nat.zero_le _, Nat.zero_le _⟩ ?_
  intro r1 μ2 h
  refine Z_if_ne (tgt := 12) dX8_queue_6 (by decide) (fun c3 => ?_) (fun c3 => ?_)
  · have h := h.1 c3
    refine Z_aload_n dX8_queue_12 rfl ?_
    refine Z_iload_n dX8_queue_13 rfl ?_
    refine Z_callVi h md_X8_isPort sv_X8_isPort lk_X8_258 zcX8 rfl ⟨by decide, by omega⟩ rfl rfl rfl rfl (Nat.le_of_ble_eq_true rfl) dX8_queue_14 ⟨by decide, Nat.le_of_ble_eq_true rfl⟩ ⟨Nat.zero_le _, Nat.zero_le _⟩ ?_
    intro r4 μ5 h
    refine Z_if_eq (tgt := 32) dX8_queue_17 (by decide) (fun c6 => ?_) (fun c6 => ?_)
    · have h := h.1 c6
      refine Z_iconst dX8_queue_32 ?_
      exact Z_ireturn dX8_queue_33 ⟨_, rfl, h⟩
    · have h := h.2 c6
      refine Z_iload_n dX8_queue_20 rfl ?_
      refine Z_if_ne (tgt := 34) dX8_queue_21 (by decide) (fun c7 => ?_) (fun c7 => ?_)
      · have h := h.1 c7
        refine Z_iload_n dX8_queue_34 rfl ?_
        by_cases c8 : wr x3 < 0 ∨ 2 < wr x3
        · have h := h.1 c8
          refine Z_tableOut (tgt := 85) dX8_queue_35 c8 (by decide) ?_
          refine Z_aload_n dX8_queue_85 rfl ?_
          refine Z_gr (t := 149) zcX8 fl_X8_92 ⟨by decide, by omega⟩ rfl rfl rfl (by decide) (by decide) dX8_queue_86 ?_
          refine Z_iload_n dX8_queue_89 rfl ?_
          obtain ⟨b9, h⟩ := h
          refine Z_iald (zin_c (by decide) (by omega) (by decide) (by decide) b9) dX8_queue_90 ?_
          exact Z_ireturn dX8_queue_91 ⟨_, rfl, h⟩
        · have hd := dX8_queue_35
          have c8q : wr x3 = 0 ∨ wr x3 = 1 ∨ wr x3 = 2 := by omega
          rcases c8q with c8 | c8 | c8
          · have h := h.2.1 c8
            refine Z_tableIn (tgt := 60) 0 dX8_queue_35 c8 (by decide) (by decide) rfl (by decide) ?_
            refine Z_aload_n dX8_queue_60 rfl ?_
            refine Z_gr (t := 147) zcX8 fl_X8_86 ⟨by decide, by omega⟩ rfl rfl rfl (by decide) (by decide) dX8_queue_61 ?_
            refine Z_iconst dX8_queue_64 ?_
            refine Z_iload_n dX8_queue_65 rfl ?_
            refine Z_imul dX8_queue_66 ?_
            refine Z_iload_n dX8_queue_67 rfl ?_
            refine Z_iadd dX8_queue_68 ?_
            obtain ⟨b10, h⟩ := h
            refine Z_iald (zin_c (by decide) (by omega) (by decide) (by decide) b10) dX8_queue_69 ?_
            exact Z_ireturn dX8_queue_70 ⟨_, rfl, h⟩
          · have h := h.2.2.1 c8
            refine Z_tableIn (tgt := 71) 1 dX8_queue_35 c8 (by decide) (by decide) rfl (by decide) ?_
            refine Z_aload_n dX8_queue_71 rfl ?_
            refine Z_gr (t := 151) zcX8 fl_X8_98 ⟨by decide, by omega⟩ rfl rfl rfl (by decide) (by decide) dX8_queue_72 ?_
            refine Z_iload_n dX8_queue_75 rfl ?_
            obtain ⟨b11, h⟩ := h
            refine Z_iald (zin_c (by decide) (by omega) (by decide) (by decide) b11) dX8_queue_76 ?_
            exact Z_ireturn dX8_queue_77 ⟨_, rfl, h⟩
          · have h := h.2.2.2 c8
            refine Z_tableIn (tgt := 78) 2 dX8_queue_35 c8 (by decide) (by decide) rfl (by decide) ?_
            refine Z_aload_n dX8_queue_78 rfl ?_
            refine Z_gr (t := 148) zcX8 fl_X8_89 ⟨by decide, by omega⟩ rfl rfl rfl (by decide) (by decide) dX8_queue_79 ?_
            refine Z_iload_n dX8_queue_82 rfl ?_
            obtain ⟨b12, h⟩ := h
            refine Z_iald (zin_c (by decide) (by omega) (by decide) (by decide) b12) dX8_queue_83 ?_
            exact Z_ireturn dX8_queue_84 ⟨_, rfl, h⟩
      · have h := h.2 c7
        refine Z_aload_n dX8_queue_24 rfl ?_
        refine Z_iload_n dX8_queue_25 rfl ?_
        refine Z_callVi h md_X8_isPort sv_X8_isPort lk_X8_258 zcX8 rfl ⟨by decide, by omega⟩ rfl rfl rfl rfl (Nat.le_of_ble_eq_true rfl) dX8_queue_26 ⟨by decide, Nat.le_of_ble_eq_true rfl⟩ ⟨Nat.zero_le _, Nat.zero_le _⟩ ?_
        intro r13 μ14 h
        refine Z_if_ne (tgt := 34) dX8_queue_29 (by decide) (fun c15 => ?_) (fun c15 => ?_)
        · have h := h.1 c15
          refine Z_iload_n dX8_queue_34 rfl ?_
          by_cases c16 : wr x3 < 0 ∨ 2 < wr x3
          · have h := h.1 c16
            refine Z_tableOut (tgt := 85) dX8_queue_35 c16 (by decide) ?_
            refine Z_aload_n dX8_queue_85 rfl ?_
            refine Z_gr (t := 149) zcX8 fl_X8_92 ⟨by decide, by omega⟩ rfl rfl rfl (by decide) (by decide) dX8_queue_86 ?_
            refine Z_iload_n dX8_queue_89 rfl ?_
            obtain ⟨b17, h⟩ := h
            refine Z_iald (zin_c (by decide) (by omega) (by decide) (by decide) b17) dX8_queue_90 ?_
            exact Z_ireturn dX8_queue_91 ⟨_, rfl, h⟩
          · have hd := dX8_queue_35
            have c16q : wr x3 = 0 ∨ wr x3 = 1 ∨ wr x3 = 2 := by omega
            rcases c16q with c16 | c16 | c16
            · have h := h.2.1 c16
              refine Z_tableIn (tgt := 60) 0 dX8_queue_35 c16 (by decide) (by decide) rfl (by decide) ?_
              refine Z_aload_n dX8_queue_60 rfl ?_
              refine Z_gr (t := 147) zcX8 fl_X8_86 ⟨by decide, by omega⟩ rfl rfl rfl (by decide) (by decide) dX8_queue_61 ?_
              refine Z_iconst dX8_queue_64 ?_
              refine Z_iload_n dX8_queue_65 rfl ?_
              refine Z_imul dX8_queue_66 ?_
              refine Z_iload_n dX8_queue_67 rfl ?_
              refine Z_iadd dX8_queue_68 ?_
              obtain ⟨b18, h⟩ := h
              refine Z_iald (zin_c (by decide) (by omega) (by decide) (by decide) b18) dX8_queue_69 ?_
              exact Z_ireturn dX8_queue_70 ⟨_, rfl, h⟩
            · have h := h.2.2.1 c16
              refine Z_tableIn (tgt := 71) 1 dX8_queue_35 c16 (by decide) (by decide) rfl (by decide) ?_
              refine Z_aload_n dX8_queue_71 rfl ?_
              refine Z_gr (t := 151) zcX8 fl_X8_98 ⟨by decide, by omega⟩ rfl rfl rfl (by decide) (by decide) dX8_queue_72 ?_
              refine Z_iload_n dX8_queue_75 rfl ?_
              obtain ⟨b19, h⟩ := h
              refine Z_iald (zin_c (by decide) (by omega) (by decide) (by decide) b19) dX8_queue_76 ?_
              exact Z_ireturn dX8_queue_77 ⟨_, rfl, h⟩
            · have h := h.2.2.2 c16
              refine Z_tableIn (tgt := 78) 2 dX8_queue_35 c16 (by decide) (by decide) rfl (by decide) ?_
              refine Z_aload_n dX8_queue_78 rfl ?_
              refine Z_gr (t := 148) zcX8 fl_X8_89 ⟨by decide, by omega⟩ rfl rfl rfl (by decide) (by decide) dX8_queue_79 ?_
              refine Z_iload_n dX8_queue_82 rfl ?_
              obtain ⟨b20, h⟩ := h
              refine Z_iald (zin_c (by decide) (by omega) (by decide) (by decide) b20) dX8_queue_83 ?_
              exact Z_ireturn dX8_queue_84 ⟨_, rfl, h⟩
        · have h := h.2 c15
          refine Z_iconst dX8_queue_32 ?_
          exact Z_ireturn dX8_queue_33 ⟨_, rfl, h⟩
  · have h := h.2 c3
    refine Z_bipush dX8_queue_9 (by decide) ?_
    exact Z_ireturn dX8_queue_11 ⟨_, rfl, h⟩
abbrev mX8_lost (G : zG) (n : Nat) (x1 x2 x3 : Int) (μ : zM) (K : Int → zM → Prop) : Prop := zMt G n 2 yX8_lost cX8_lost 14 (some .long) [Rv G 127, Iv x1, Iv x2, Iv x3] μ (zKl K)
abbrev pX8_lost (G : zG) (n : Nat) (K : Int → zM → Prop) (pc : Nat) (lv : List (Option Value)) (st : List Value) (μ : zM) : Prop := Z G (zrm 2 0 0) RX8 "lost" cX8_lost 14 (some .long) (zPh G n (zKl K)) 0 0 pc lv st (zE G n μ)
theorem eX8_lost {G : zG} {n : Nat} (hn : 154 ≤ n) {x1 x2 x3 : Int} {μ : zM} {K : Int → zM → Prop}
    (h : (mX8_within G n x2 1 20 μ (fun r1 μ2 => ((wr r1 = 0 → (K ((-9223372036854775808)) μ2)) ∧ (¬ (wr r1 = 0) → (mX8_within G n x1 0 x2 μ2 (fun r4 μ5 => ((wr r4 = 0 → (K ((-9223372036854775808)) μ5)) ∧ (¬ (wr r4 = 0) → (mX8_within G n x3 0 1 μ5 (fun r7 μ8 => ((¬ wr r7 = 0 → (pX8_lost G n K 41 [some (Rv G 127), some (Iv x1), some (Iv x2), some (Iv x3), some (Lv 1), none, some (Lv 1), none, some (Iv 0), none, none, none, none, none] [] μ8)) ∧ (wr r7 = 0 → (K ((-9223372036854775808)) μ8)))))))))))))) :
    mX8_lost G n x1 x2 x3 μ K := by
  refine zMt_of (lv := [some (Rv G 127), some (Iv x1), some (Iv x2), some (Iv x3), none, none, none, none, none, none, none, none, none, none]) (by decide) rfl (Nat.le_of_ble_eq_true rfl) ?_
  show pX8_lost G n K 0 [some (Rv G 127), some (Iv x1), some (Iv x2), some (Iv x3), none, none, none, none, none, none, none, none, none, none] [] μ
  refine Z_iload_n dX8_lost_0 rfl ?_
  refine Z_iconst dX8_lost_1 ?_
  refine Z_bipush dX8_lost_2 (by decide) ?_
  refine Z_callSi h md_X8_within sv_X8_within lk_X8_116 rfl rfl (Nat.le_of_ble_eq_true rfl) dX8_lost_4 ⟨by decide, Nat.le_of_ble_eq_true rfl⟩ ⟨Nat.zero_le _, Nat.zero_le _⟩ ?_
  intro r1 μ2 h
  refine Z_if_eq (tgt := 28) dX8_lost_7 (by decide) (fun c3 => ?_) (fun c3 => ?_)
  · have h := h.1 c3
    refine Z_ldc2 (a := -9223372036854775808) dX8_lost_28 cl_X8_110 (by decide) ?_
    exact Z_lreturn dX8_lost_31 ⟨_, rfl, h⟩
  · have h := h.2 c3
    refine Z_iload_n dX8_lost_10 rfl ?_
    refine Z_iconst dX8_lost_11 ?_
    refine Z_iload_n dX8_lost_12 rfl ?_
    refine Z_callSi h md_X8_within sv_X8_within lk_X8_116 rfl rfl (Nat.le_of_ble_eq_true rfl) dX8_lost_13 ⟨by decide, Nat.le_of_ble_eq_true rfl⟩ ⟨Nat.zero_le _, Nat.zero_le _⟩ ?_
    intro r4 μ5 h
    refine Z_if_eq (tgt := 28) dX8_lost_16 (by decide) (fun c6 => ?_) (fun c6 => ?_)
    · have h := h.1 c6
      refine Z_ldc2 (a := -9223372036854775808) dX8_lost_28 cl_X8_110 (by decide) ?_
      exact Z_lreturn dX8_lost_31 ⟨_, rfl, h⟩
    · have h := h.2 c6
      refine Z_iload_n dX8_lost_19 rfl ?_
      refine Z_iconst dX8_lost_20 ?_
      refine Z_iconst dX8_lost_21 ?_
      refine Z_callSi h md_X8_within sv_X8_within lk_X8_116 rfl rfl (Nat.le_of_ble_eq_true rfl) dX8_lost_22 ⟨by decide, Nat.le_of_ble_eq_true rfl⟩ ⟨Nat.zero_le _, Nat.zero_le _⟩ ?_
      intro r7 μ8 h
      refine Z_if_ne (tgt := 32) dX8_lost_25 (by decide) (fun c9 => ?_) (fun c9 => ?_)
      · have h := h.1 c9
        refine Z_lconst (a := 1) dX8_lost_32 (by decide) ?_
        refine Z_lstore (lv2 := [some (Rv G 127), some (Iv x1), some (Iv x2), some (Iv x3), some (Lv 1), none, none, none, none, none, none, none, none, none]) dX8_lost_33 rfl (by decide) rfl ?_
        refine Z_lconst (a := 1) dX8_lost_35 (by decide) ?_
        refine Z_lstore (lv2 := [some (Rv G 127), some (Iv x1), some (Iv x2), some (Iv x3), some (Lv 1), none, some (Lv 1), none, none, none, none, none, none, none]) dX8_lost_36 rfl (by decide) rfl ?_
        refine Z_iconst dX8_lost_38 ?_
        refine Z_istore (lv2 := [some (Rv G 127), some (Iv x1), some (Iv x2), some (Iv x3), some (Lv 1), none, some (Lv 1), none, some (Iv 0), none, none, none, none, none]) dX8_lost_39 rfl (by decide) rfl ?_
        exact Z_cut h ⟨rfl, rfl, rfl, rfl, rfl, trivial, rfl, trivial, rfl, trivial, trivial, trivial, trivial, trivial, trivial⟩
      · have h := h.2 c9
        refine Z_ldc2 (a := -9223372036854775808) dX8_lost_28 cl_X8_110 (by decide) ?_
        exact Z_lreturn dX8_lost_31 ⟨_, rfl, h⟩
theorem bX8_lost_41 {G : zG} {n : Nat} (hn : 154 ≤ n) {x1 x2 x3 x4 x6 x8 : Int} {μ : zM} {K : Int → zM → Prop}
    (h : (((wr (μ 127 4) ≤ wr x8 → (pX8_lost G n K 93 [none, none, none, some (Iv x3), some (Lv x4), none, some (Lv x6), none, some (Lv x4), none, some (Lv x6), none, none, none] [] μ)) ∧ (¬ (wr (μ 127 4) ≤ wr x8) → (∀ v2 : Int, v2 = x4 * (((wr x2) * (wr x2)) - (wr ((x2 - x1) * (x2 - x1)))) → ∀ v3 : Int, v3 = x6 * ((wr x2) * (wr x2)) → pX8_lost G n K 41 [some (Rv G 127), some (Iv x1), some (Iv x2), some (Iv x3), some (Lv v2), none, some (Lv v3), none, some (Iv (x8 + 1)), none, none, none, none, none] [] μ))))) :
    pX8_lost G n K 41 [some (Rv G 127), some (Iv x1), some (Iv x2), some (Iv x3), some (Lv x4), none, some (Lv x6), none, some (Iv x8), none, none, none, none, none] [] μ := by
  refine Z_iload dX8_lost_41 rfl ?_
  refine Z_aload_n dX8_lost_43 rfl ?_
  refine Y_gi 4 zcX8 fl_X8_16 ⟨by decide, by omega⟩ rfl rfl rfl (by decide) dX8_lost_44 rfl ?_
  refine Z_icmp_ge (tgt := 85) dX8_lost_47 (by decide) (fun c1 => ?_) (fun c1 => ?_)
  · have h := h.1 c1
    refine Z_lload dX8_lost_85 rfl ?_
    refine Z_lstore (lv2 := [some (Rv G 127), some (Iv x1), some (Iv x2), some (Iv x3), some (Lv x4), none, some (Lv x6), none, some (Lv x4), none, none, none, none, none]) dX8_lost_87 rfl (by decide) rfl ?_
    refine Z_lload dX8_lost_89 rfl ?_
    refine Z_lstore (lv2 := [some (Rv G 127), some (Iv x1), some (Iv x2), some (Iv x3), some (Lv x4), none, some (Lv x6), none, some (Lv x4), none, some (Lv x6), none, none, none]) dX8_lost_91 rfl (by decide) rfl ?_
    exact Z_cut h ⟨trivial, trivial, trivial, rfl, rfl, trivial, rfl, trivial, rfl, trivial, rfl, trivial, trivial, trivial, trivial⟩
  · have h := h.2 c1
    refine Z_lload dX8_lost_50 rfl ?_
    refine Z_iload_n dX8_lost_52 rfl ?_
    refine Z_i2l dX8_lost_53 ?_
    refine Z_iload_n dX8_lost_54 rfl ?_
    refine Z_i2l dX8_lost_55 ?_
    refine Z_lmul dX8_lost_56 ?_
    refine Z_iload_n dX8_lost_57 rfl ?_
    refine Z_iload_n dX8_lost_58 rfl ?_
    refine Z_isub dX8_lost_59 ?_
    refine Z_iload_n dX8_lost_60 rfl ?_
    refine Z_iload_n dX8_lost_61 rfl ?_
    refine Z_isub dX8_lost_62 ?_
    refine Z_imul dX8_lost_63 ?_
    refine Z_i2l dX8_lost_64 ?_
    refine Z_lsub dX8_lost_65 ?_
    refine Z_lmul dX8_lost_66 ?_
    obtain ⟨v2, ev2⟩ : ∃ z : Int, z = x4 * (((wr x2) * (wr x2)) - (wr ((x2 - x1) * (x2 - x1)))) := ⟨_, rfl⟩
    have h := h v2 ev2
    refine Z_nml ev2 ?_
    refine Z_lstore (lv2 := [some (Rv G 127), some (Iv x1), some (Iv x2), some (Iv x3), some (Lv v2), none, some (Lv x6), none, some (Iv x8), none, none, none, none, none]) dX8_lost_67 rfl (by decide) rfl ?_
    refine Z_lload dX8_lost_69 rfl ?_
    refine Z_iload_n dX8_lost_71 rfl ?_
    refine Z_i2l dX8_lost_72 ?_
    refine Z_iload_n dX8_lost_73 rfl ?_
    refine Z_i2l dX8_lost_74 ?_
    refine Z_lmul dX8_lost_75 ?_
    refine Z_lmul dX8_lost_76 ?_
    obtain ⟨v3, ev3⟩ : ∃ z : Int, z = x6 * ((wr x2) * (wr x2)) := ⟨_, rfl⟩
    have h := h v3 ev3
    refine Z_nml ev3 ?_
    refine Z_lstore (lv2 := [some (Rv G 127), some (Iv x1), some (Iv x2), some (Iv x3), some (Lv v2), none, some (Lv v3), none, some (Iv x8), none, none, none, none, none]) dX8_lost_77 rfl (by decide) rfl ?_
    refine Z_iinc (lv2 := [some (Rv G 127), some (Iv x1), some (Iv x2), some (Iv x3), some (Lv v2), none, some (Lv v3), none, some (Iv (x8 + 1)), none, none, none, none, none]) dX8_lost_79 rfl rfl (by decide) rfl ?_
    refine Z_goto (tgt := 41) dX8_lost_82 (by decide) ?_
    exact Z_cut h ⟨rfl, rfl, rfl, rfl, rfl, trivial, rfl, trivial, rfl, trivial, trivial, trivial, trivial, trivial, trivial⟩
theorem bX8_lost_93 {G : zG} {n : Nat} (hn : 154 ≤ n) {x3 x4 x6 x8 x10 : Int} {μ : zM} {K : Int → zM → Prop}
    (h : (((wr (zlcmp x10 0) = 0 → (((¬ wr x3 = 0 → (wl x8 ≠ 0 ∧ K (zldiv x6 x8) μ)) ∧ (wr x3 = 0 → (wl x8 ≠ 0 ∧ K (zldiv x4 x8) μ))))) ∧ (¬ (wr (zlcmp x10 0) = 0) → (wl x10 ≠ 0 ∧ ∀ v6 : Int, v6 = zlrem x8 x10 → pX8_lost G n K 93 [none, none, none, some (Iv x3), some (Lv x4), none, some (Lv x6), none, some (Lv x10), none, some (Lv v6), none, none, none] [] μ))))) :
    pX8_lost G n K 93 [none, none, none, some (Iv x3), some (Lv x4), none, some (Lv x6), none, some (Lv x8), none, some (Lv x10), none, none, none] [] μ := by
  refine Z_lload dX8_lost_93 rfl ?_
  refine Z_lconst (a := 0) dX8_lost_95 (by decide) ?_
  refine Z_lcmp dX8_lost_96 ?_
  refine Z_if_eq (tgt := 118) dX8_lost_97 (by decide) (fun c1 => ?_) (fun c1 => ?_)
  · have h := h.1 c1
    refine Z_iload_n dX8_lost_118 rfl ?_
    refine Z_if_ne (tgt := 130) dX8_lost_119 (by decide) (fun c2 => ?_) (fun c2 => ?_)
    · have h := h.1 c2
      refine Z_lload dX8_lost_130 rfl ?_
      refine Z_lload dX8_lost_132 rfl ?_
      obtain ⟨b3, h⟩ := h
      refine Z_ldiv dX8_lost_134 b3 ?_
      exact Z_lreturn dX8_lost_135 ⟨_, rfl, h⟩
    · have h := h.2 c2
      refine Z_lload dX8_lost_122 rfl ?_
      refine Z_lload dX8_lost_124 rfl ?_
      obtain ⟨b4, h⟩ := h
      refine Z_ldiv dX8_lost_126 b4 ?_
      refine Z_goto (tgt := 135) dX8_lost_127 (by decide) ?_
      exact Z_lreturn dX8_lost_135 ⟨_, rfl, h⟩
  · have h := h.2 c1
    refine Z_lload dX8_lost_100 rfl ?_
    refine Z_lload dX8_lost_102 rfl ?_
    obtain ⟨b5, h⟩ := h
    refine Z_lrem dX8_lost_104 b5 ?_
    obtain ⟨v6, ev6⟩ : ∃ z : Int, z = zlrem x8 x10 := ⟨_, rfl⟩
    have h := h v6 ev6
    refine Z_nml ev6 ?_
    refine Z_lstore (lv2 := [none, none, none, some (Iv x3), some (Lv x4), none, some (Lv x6), none, some (Lv x8), none, some (Lv x10), none, some (Lv v6), none]) dX8_lost_105 rfl (by decide) rfl ?_
    refine Z_lload dX8_lost_107 rfl ?_
    refine Z_lstore (lv2 := [none, none, none, some (Iv x3), some (Lv x4), none, some (Lv x6), none, some (Lv x10), none, some (Lv x10), none, some (Lv v6), none]) dX8_lost_109 rfl (by decide) rfl ?_
    refine Z_lload dX8_lost_111 rfl ?_
    refine Z_lstore (lv2 := [none, none, none, some (Iv x3), some (Lv x4), none, some (Lv x6), none, some (Lv x10), none, some (Lv v6), none, some (Lv v6), none]) dX8_lost_113 rfl (by decide) rfl ?_
    refine Z_goto (tgt := 93) dX8_lost_115 (by decide) ?_
    exact Z_cut h ⟨trivial, trivial, trivial, rfl, rfl, trivial, rfl, trivial, rfl, trivial, rfl, trivial, trivial, trivial, trivial⟩
abbrev mX8_tell (G : zG) (n : Nat) (x1 : Int) (μ : zM) (K : Int → zM → Prop) : Prop := zMt G n 2 yX8_tell cX8_tell 2 (some .int) [Rv G 127, Iv x1] μ (zKi K)
abbrev pX8_tell (G : zG) (n : Nat) (K : Int → zM → Prop) (pc : Nat) (lv : List (Option Value)) (st : List Value) (μ : zM) : Prop := Z G (zrm 2 0 0) RX8 "tell" cX8_tell 2 (some .int) (zPh G n (zKi K)) 0 0 pc lv st (zE G n μ)
theorem eX8_tell {G : zG} {n : Nat} (hn : 154 ≤ n) {x1 : Int} {μ : zM} {K : Int → zM → Prop}
    (h : (mX8_isComparer G n x1 μ (fun r1 μ2 => ((¬ wr r1 = 0 → (mX8_kindOf G n x1 μ2 (fun r4 μ5 => ((wr r4 = 1 → (mX8_begins G n 2 μ5 (fun μ8 => mX8_begins G n 1 μ8 (fun μ10 => (0 ≤ wr x1 ∧ wr x1 < 30) ∧ (0 ≤ wr x1 ∧ wr x1 < 30) ∧ K ((μ10 141 (wr x1)) + (μ10 142 (wr x1))) μ10)))) ∧ (wr r4 = 2 → (mX8_begins G n 3 μ5 (fun μ14 => mX8_begins G n 2 μ14 (fun μ16 => mX8_begins G n 1 μ16 (fun μ18 => mX8_begins G n 1 μ18 (fun μ20 => (0 ≤ wr x1 ∧ wr x1 < 30) ∧ (0 ≤ wr x1 ∧ wr x1 < 30) ∧ K ((2 * (μ20 141 (wr x1))) + (μ20 142 (wr x1))) μ20)))))) ∧ ((¬ wr r4 = 1 ∧ ¬ wr r4 = 2) → (mX8_begins G n 1 μ5 (fun μ24 => (0 ≤ wr x1 ∧ wr x1 < 30) ∧ K (μ24 141 (wr x1)) μ24))))))) ∧ (wr r1 = 0 → (K ((-1)) μ2)))))) :
    mX8_tell G n x1 μ K := by
  refine zMt_of (lv := [some (Rv G 127), some (Iv x1)]) (by decide) rfl (Nat.le_of_ble_eq_true rfl) ?_
  show pX8_tell G n K 0 [some (Rv G 127), some (Iv x1)] [] μ
  refine Z_aload_n dX8_tell_0 rfl ?_
  refine Z_iload_n dX8_tell_1 rfl ?_
  refine Z_callVi h md_X8_isComparer sv_X8_isComparer lk_X8_252 zcX8 rfl ⟨by decide, by omega⟩ rfl rfl rfl rfl (Nat.le_of_ble_eq_true rfl) dX8_tell_2 ⟨by decide, Nat.le_of_ble_eq_true rfl⟩ ⟨Nat.zero_le _, Nat.zero_le _⟩ ?_
  intro r1 μ2 h
  refine Z_if_ne (tgt := 10) dX8_tell_5 (by decide) (fun c3 => ?_) (fun c3 => ?_)
  · have h := h.1 c3
    refine Z_aload_n dX8_tell_10 rfl ?_
    refine Z_iload_n dX8_tell_11 rfl ?_
    refine Z_callVi h md_X8_kindOf sv_X8_kindOf lk_X8_255 zcX8 rfl ⟨by decide, by omega⟩ rfl rfl rfl rfl (Nat.le_of_ble_eq_true rfl) dX8_tell_12 ⟨by decide, Nat.le_of_ble_eq_true rfl⟩ ⟨Nat.zero_le _, Nat.zero_le _⟩ ?_
    intro r4 μ5 h
    by_cases c6_0 : wr r4 = 1
    · have h := h.1 c6_0
      refine Z_lookup (tgt := 40) (off := 25) dX8_tell_15 (by decide) (by rw [c6_0]; rfl) (by decide) ?_
      refine Z_aload_n dX8_tell_40 rfl ?_
      refine Z_iconst dX8_tell_41 ?_
      refine Z_callVv h md_X8_begins sv_X8_begins lk_X8_315 zcX8 rfl ⟨by decide, by omega⟩ rfl rfl rfl rfl (Nat.le_of_ble_eq_true rfl) dX8_tell_42 ⟨by decide, Nat.le_of_ble_eq_true rfl⟩ ⟨Nat.zero_le _, Nat.zero_le _⟩ ?_
      intro μ8 h
      refine Z_aload_n dX8_tell_45 rfl ?_
      refine Z_iconst dX8_tell_46 ?_
      refine Z_callVv h md_X8_begins sv_X8_begins lk_X8_315 zcX8 rfl ⟨by decide, by omega⟩ rfl rfl rfl rfl (Nat.le_of_ble_eq_true rfl) dX8_tell_47 ⟨by decide, Nat.le_of_ble_eq_true rfl⟩ ⟨Nat.zero_le _, Nat.zero_le _⟩ ?_
      intro μ10 h
      refine Z_aload_n dX8_tell_50 rfl ?_
      refine Z_gr (t := 141) zcX8 fl_X8_65 ⟨by decide, by omega⟩ rfl rfl rfl (by decide) (by decide) dX8_tell_51 ?_
      refine Z_iload_n dX8_tell_54 rfl ?_
      obtain ⟨b11, h⟩ := h
      refine Z_iald (zin_c (by decide) (by omega) (by decide) (by decide) b11) dX8_tell_55 ?_
      refine Z_aload_n dX8_tell_56 rfl ?_
      refine Z_gr (t := 142) zcX8 fl_X8_68 ⟨by decide, by omega⟩ rfl rfl rfl (by decide) (by decide) dX8_tell_57 ?_
      refine Z_iload_n dX8_tell_60 rfl ?_
      obtain ⟨b12, h⟩ := h
      refine Z_iald (zin_c (by decide) (by omega) (by decide) (by decide) b12) dX8_tell_61 ?_
      refine Z_iadd dX8_tell_62 ?_
      exact Z_ireturn dX8_tell_63 ⟨_, rfl, h⟩
    · skip
      by_cases c6_1 : wr r4 = 2
      · have h := h.2.1 c6_1
        refine Z_lookup (tgt := 64) (off := 49) dX8_tell_15 (by decide) (by rw [c6_1]; rfl) (by decide) ?_
        refine Z_aload_n dX8_tell_64 rfl ?_
        refine Z_iconst dX8_tell_65 ?_
        refine Z_callVv h md_X8_begins sv_X8_begins lk_X8_315 zcX8 rfl ⟨by decide, by omega⟩ rfl rfl rfl rfl (Nat.le_of_ble_eq_true rfl) dX8_tell_66 ⟨by decide, Nat.le_of_ble_eq_true rfl⟩ ⟨Nat.zero_le _, Nat.zero_le _⟩ ?_
        intro μ14 h
        refine Z_aload_n dX8_tell_69 rfl ?_
        refine Z_iconst dX8_tell_70 ?_
        refine Z_callVv h md_X8_begins sv_X8_begins lk_X8_315 zcX8 rfl ⟨by decide, by omega⟩ rfl rfl rfl rfl (Nat.le_of_ble_eq_true rfl) dX8_tell_71 ⟨by decide, Nat.le_of_ble_eq_true rfl⟩ ⟨Nat.zero_le _, Nat.zero_le _⟩ ?_
        intro μ16 h
        refine Z_aload_n dX8_tell_74 rfl ?_
        refine Z_iconst dX8_tell_75 ?_
        refine Z_callVv h md_X8_begins sv_X8_begins lk_X8_315 zcX8 rfl ⟨by decide, by omega⟩ rfl rfl rfl rfl (Nat.le_of_ble_eq_true rfl) dX8_tell_76 ⟨by decide, Nat.le_of_ble_eq_true rfl⟩ ⟨Nat.zero_le _, Nat.zero_le _⟩ ?_
        intro μ18 h
        refine Z_aload_n dX8_tell_79 rfl ?_
        refine Z_iconst dX8_tell_80 ?_
        refine Z_callVv h md_X8_begins sv_X8_begins lk_X8_315 zcX8 rfl ⟨by decide, by omega⟩ rfl rfl rfl rfl (Nat.le_of_ble_eq_true rfl) dX8_tell_81 ⟨by decide, Nat.le_of_ble_eq_true rfl⟩ ⟨Nat.zero_le _, Nat.zero_le _⟩ ?_
        intro μ20 h
        refine Z_iconst dX8_tell_84 ?_
        refine Z_aload_n dX8_tell_85 rfl ?_
        refine Z_gr (t := 141) zcX8 fl_X8_65 ⟨by decide, by omega⟩ rfl rfl rfl (by decide) (by decide) dX8_tell_86 ?_
        refine Z_iload_n dX8_tell_89 rfl ?_
        obtain ⟨b21, h⟩ := h
        refine Z_iald (zin_c (by decide) (by omega) (by decide) (by decide) b21) dX8_tell_90 ?_
        refine Z_imul dX8_tell_91 ?_
        refine Z_aload_n dX8_tell_92 rfl ?_
        refine Z_gr (t := 142) zcX8 fl_X8_68 ⟨by decide, by omega⟩ rfl rfl rfl (by decide) (by decide) dX8_tell_93 ?_
        refine Z_iload_n dX8_tell_96 rfl ?_
        obtain ⟨b22, h⟩ := h
        refine Z_iald (zin_c (by decide) (by omega) (by decide) (by decide) b22) dX8_tell_97 ?_
        refine Z_iadd dX8_tell_98 ?_
        exact Z_ireturn dX8_tell_99 ⟨_, rfl, h⟩
      · skip
        have h := h.2.2 ⟨c6_0, c6_1⟩
        refine Z_lookup (tgt := 100) (off := 85) dX8_tell_15 (by decide) (by have q0 : ¬ (1 : Int) = wr r4 := fun q => c6_0 q.symm; have q1 : ¬ (2 : Int) = wr r4 := fun q => c6_1 q.symm; simp [Op.lookupswitch.offset, q0, q1]) (by decide) ?_
        refine Z_aload_n dX8_tell_100 rfl ?_
        refine Z_iconst dX8_tell_101 ?_
        refine Z_callVv h md_X8_begins sv_X8_begins lk_X8_315 zcX8 rfl ⟨by decide, by omega⟩ rfl rfl rfl rfl (Nat.le_of_ble_eq_true rfl) dX8_tell_102 ⟨by decide, Nat.le_of_ble_eq_true rfl⟩ ⟨Nat.zero_le _, Nat.zero_le _⟩ ?_
        intro μ24 h
        refine Z_aload_n dX8_tell_105 rfl ?_
        refine Z_gr (t := 141) zcX8 fl_X8_65 ⟨by decide, by omega⟩ rfl rfl rfl (by decide) (by decide) dX8_tell_106 ?_
        refine Z_iload_n dX8_tell_109 rfl ?_
        obtain ⟨b25, h⟩ := h
        refine Z_iald (zin_c (by decide) (by omega) (by decide) (by decide) b25) dX8_tell_110 ?_
        exact Z_ireturn dX8_tell_111 ⟨_, rfl, h⟩
  · have h := h.2 c3
    refine Z_iconst dX8_tell_8 ?_
    exact Z_ireturn dX8_tell_9 ⟨_, rfl, h⟩
abbrev mX8_show (G : zG) (n : Nat) (x1 : Int) (μ : zM) (K : Int → zM → Prop) : Prop := zMt G n 2 yX8_show cX8_show 2 (some .int) [Rv G 127, Iv x1] μ (zKi K)
abbrev pX8_show (G : zG) (n : Nat) (K : Int → zM → Prop) (pc : Nat) (lv : List (Option Value)) (st : List Value) (μ : zM) : Prop := Z G (zrm 2 0 0) RX8 "show" cX8_show 2 (some .int) (zPh G n (zKi K)) 0 0 pc lv st (zE G n μ)
theorem eX8_show {G : zG} {n : Nat} (hn : 154 ≤ n) {x1 : Int} {μ : zM} {K : Int → zM → Prop}
    (h : (mX8_isComparer G n x1 μ (fun r1 μ2 => ((¬ wr r1 = 0 → (mX8_kindOf G n x1 μ2 (fun r4 μ5 => ((¬ wr r4 = wr 2 → (mX8_begins G n 4 μ5 (fun μ8 => mX8_kindOf G n x1 μ8 (fun r9 μ10 => ((¬ wr r9 = wr 2 → (K x1 μ10)) ∧ (wr r9 = wr 2 → (K 30 μ10))))))) ∧ (wr r4 = wr 2 → (mX8_begins G n 5 μ5 (fun μ13 => mX8_kindOf G n x1 μ13 (fun r14 μ15 => ((¬ wr r14 = wr 2 → (K x1 μ15)) ∧ (wr r14 = wr 2 → (K 30 μ15))))))))))) ∧ (wr r1 = 0 → (K ((-1)) μ2)))))) :
    mX8_show G n x1 μ K := by
  refine zMt_of (lv := [some (Rv G 127), some (Iv x1)]) (by decide) rfl (Nat.le_of_ble_eq_true rfl) ?_
  show pX8_show G n K 0 [some (Rv G 127), some (Iv x1)] [] μ
  refine Z_aload_n dX8_show_0 rfl ?_
  refine Z_iload_n dX8_show_1 rfl ?_
  refine Z_callVi h md_X8_isComparer sv_X8_isComparer lk_X8_252 zcX8 rfl ⟨by decide, by omega⟩ rfl rfl rfl rfl (Nat.le_of_ble_eq_true rfl) dX8_show_2 ⟨by decide, Nat.le_of_ble_eq_true rfl⟩ ⟨Nat.zero_le _, Nat.zero_le _⟩ ?_
  intro r1 μ2 h
  refine Z_if_ne (tgt := 10) dX8_show_5 (by decide) (fun c3 => ?_) (fun c3 => ?_)
  · have h := h.1 c3
    refine Z_aload_n dX8_show_10 rfl ?_
    refine Z_aload_n dX8_show_11 rfl ?_
    refine Z_iload_n dX8_show_12 rfl ?_
    refine Z_callVi h md_X8_kindOf sv_X8_kindOf lk_X8_255 zcX8 rfl ⟨by decide, by omega⟩ rfl rfl rfl rfl (Nat.le_of_ble_eq_true rfl) dX8_show_13 ⟨by decide, Nat.le_of_ble_eq_true rfl⟩ ⟨Nat.zero_le _, Nat.zero_le _⟩ ?_
    intro r4 μ5 h
    refine Z_iconst dX8_show_16 ?_
    refine Z_icmp_ne (tgt := 24) dX8_show_17 (by decide) (fun c6 => ?_) (fun c6 => ?_)
    · have h := h.1 c6
      refine Z_iconst dX8_show_24 ?_
      refine Z_callVv h md_X8_begins sv_X8_begins lk_X8_315 zcX8 rfl ⟨by decide, by omega⟩ rfl rfl rfl rfl (Nat.le_of_ble_eq_true rfl) dX8_show_25 ⟨by decide, Nat.le_of_ble_eq_true rfl⟩ ⟨Nat.zero_le _, Nat.zero_le _⟩ ?_
      intro μ8 h
      refine Z_aload_n dX8_show_28 rfl ?_
      refine Z_iload_n dX8_show_29 rfl ?_
      refine Z_callVi h md_X8_kindOf sv_X8_kindOf lk_X8_255 zcX8 rfl ⟨by decide, by omega⟩ rfl rfl rfl rfl (Nat.le_of_ble_eq_true rfl) dX8_show_30 ⟨by decide, Nat.le_of_ble_eq_true rfl⟩ ⟨Nat.zero_le _, Nat.zero_le _⟩ ?_
      intro r9 μ10 h
      refine Z_iconst dX8_show_33 ?_
      refine Z_icmp_ne (tgt := 42) dX8_show_34 (by decide) (fun c11 => ?_) (fun c11 => ?_)
      · have h := h.1 c11
        refine Z_iload_n dX8_show_42 rfl ?_
        exact Z_ireturn dX8_show_43 ⟨_, rfl, h⟩
      · have h := h.2 c11
        refine Z_bipush dX8_show_37 (by decide) ?_
        refine Z_goto (tgt := 43) dX8_show_39 (by decide) ?_
        exact Z_ireturn dX8_show_43 ⟨_, rfl, h⟩
    · have h := h.2 c6
      refine Z_iconst dX8_show_20 ?_
      refine Z_goto (tgt := 25) dX8_show_21 (by decide) ?_
      refine Z_callVv h md_X8_begins sv_X8_begins lk_X8_315 zcX8 rfl ⟨by decide, by omega⟩ rfl rfl rfl rfl (Nat.le_of_ble_eq_true rfl) dX8_show_25 ⟨by decide, Nat.le_of_ble_eq_true rfl⟩ ⟨Nat.zero_le _, Nat.zero_le _⟩ ?_
      intro μ13 h
      refine Z_aload_n dX8_show_28 rfl ?_
      refine Z_iload_n dX8_show_29 rfl ?_
      refine Z_callVi h md_X8_kindOf sv_X8_kindOf lk_X8_255 zcX8 rfl ⟨by decide, by omega⟩ rfl rfl rfl rfl (Nat.le_of_ble_eq_true rfl) dX8_show_30 ⟨by decide, Nat.le_of_ble_eq_true rfl⟩ ⟨Nat.zero_le _, Nat.zero_le _⟩ ?_
      intro r14 μ15 h
      refine Z_iconst dX8_show_33 ?_
      refine Z_icmp_ne (tgt := 42) dX8_show_34 (by decide) (fun c16 => ?_) (fun c16 => ?_)
      · have h := h.1 c16
        refine Z_iload_n dX8_show_42 rfl ?_
        exact Z_ireturn dX8_show_43 ⟨_, rfl, h⟩
      · have h := h.2 c16
        refine Z_bipush dX8_show_37 (by decide) ?_
        refine Z_goto (tgt := 43) dX8_show_39 (by decide) ?_
        exact Z_ireturn dX8_show_43 ⟨_, rfl, h⟩
  · have h := h.2 c3
    refine Z_iconst dX8_show_8 ?_
    exact Z_ireturn dX8_show_9 ⟨_, rfl, h⟩
abbrev mX8_as (G : zG) (n : Nat) (x1 x2 : Int) (μ : zM) (K : Int → zM → Prop) : Prop := zMt G n 2 yX8_as cX8_as 3 (some .int) [Rv G 127, Iv x1, Iv x2] μ (zKi K)
abbrev pX8_as (G : zG) (n : Nat) (K : Int → zM → Prop) (pc : Nat) (lv : List (Option Value)) (st : List Value) (μ : zM) : Prop := Z G (zrm 2 0 0) RX8 "as" cX8_as 3 (some .int) (zPh G n (zKi K)) 0 0 pc lv st (zE G n μ)
theorem eX8_as {G : zG} {n : Nat} (hn : 154 ≤ n) {x1 x2 : Int} {μ : zM} {K : Int → zM → Prop}
    (h : (∀ μ1 : zM, μ1 = zu μ 127 0 0 → mX8_isComparer G n x1 μ1 (fun r2 μ3 => ((¬ wr r2 = 0 → (mX8_within G n x2 0 2 μ3 (fun r5 μ6 => ((¬ wr r5 = 0 → (mX8_kindOf G n x1 μ6 (fun r8 μ9 => ((wr r8 < wr x2 → (mX8_fails G n 2 μ9 (fun r11 μ12 => K r11 μ12))) ∧ (¬ (wr r8 < wr x2) → (K 1 μ9)))))) ∧ (wr r5 = 0 → (K ((-2)) μ6)))))) ∧ (wr r2 = 0 → (K ((-1)) μ3)))))) :
    mX8_as G n x1 x2 μ K := by
  refine zMt_of (lv := [some (Rv G 127), some (Iv x1), some (Iv x2)]) (by decide) rfl (Nat.le_of_ble_eq_true rfl) ?_
  show pX8_as G n K 0 [some (Rv G 127), some (Iv x1), some (Iv x2)] [] μ
  refine Z_aload_n dX8_as_0 rfl ?_
  refine Z_iconst dX8_as_1 ?_
  refine Y_pi 0 zcX8 fk_X8_107 ⟨by decide, by omega⟩ rfl rfl rfl (by decide) rfl (tyX8_ok 0 (by decide)) dX8_as_2 rfl ?_
  obtain ⟨μ1, eμ1⟩ : ∃ z : zM, z = zu μ 127 0 0 := ⟨_, rfl⟩
  have h := h μ1 eμ1
  refine Z_mem eμ1 ?_
  refine Z_aload_n dX8_as_5 rfl ?_
  refine Z_iload_n dX8_as_6 rfl ?_
  refine Z_callVi h md_X8_isComparer sv_X8_isComparer lk_X8_252 zcX8 rfl ⟨by decide, by omega⟩ rfl rfl rfl rfl (Nat.le_of_ble_eq_true rfl) dX8_as_7 ⟨by decide, Nat.le_of_ble_eq_true rfl⟩ ⟨Nat.zero_le _, Nat.zero_le _⟩ ?_
  intro r2 μ3 h
  refine Z_if_ne (tgt := 15) dX8_as_10 (by decide) (fun c4 => ?_) (fun c4 => ?_)
  · have h := h.1 c4
    refine Z_iload_n dX8_as_15 rfl ?_
    refine Z_iconst dX8_as_16 ?_
    refine Z_iconst dX8_as_17 ?_
    refine Z_callSi h md_X8_within sv_X8_within lk_X8_116 rfl rfl (Nat.le_of_ble_eq_true rfl) dX8_as_18 ⟨by decide, Nat.le_of_ble_eq_true rfl⟩ ⟨Nat.zero_le _, Nat.zero_le _⟩ ?_
    intro r5 μ6 h
    refine Z_if_ne (tgt := 27) dX8_as_21 (by decide) (fun c7 => ?_) (fun c7 => ?_)
    · have h := h.1 c7
      refine Z_aload_n dX8_as_27 rfl ?_
      refine Z_iload_n dX8_as_28 rfl ?_
      refine Z_callVi h md_X8_kindOf sv_X8_kindOf lk_X8_255 zcX8 rfl ⟨by decide, by omega⟩ rfl rfl rfl rfl (Nat.le_of_ble_eq_true rfl) dX8_as_29 ⟨by decide, Nat.le_of_ble_eq_true rfl⟩ ⟨Nat.zero_le _, Nat.zero_le _⟩ ?_
      intro r8 μ9 h
      refine Z_iload_n dX8_as_32 rfl ?_
      refine Z_icmp_lt (tgt := 40) dX8_as_33 (by decide) (fun c10 => ?_) (fun c10 => ?_)
      · have h := h.1 c10
        refine Z_aload_n dX8_as_40 rfl ?_
        refine Z_iconst dX8_as_41 ?_
        refine Z_callVi h md_X8_fails sv_X8_fails lk_X8_187 zcX8 rfl ⟨by decide, by omega⟩ rfl rfl rfl rfl (Nat.le_of_ble_eq_true rfl) dX8_as_42 ⟨by decide, Nat.le_of_ble_eq_true rfl⟩ ⟨Nat.zero_le _, Nat.zero_le _⟩ ?_
        intro r11 μ12 h
        exact Z_ireturn dX8_as_45 ⟨_, rfl, h⟩
      · have h := h.2 c10
        refine Z_iconst dX8_as_36 ?_
        refine Z_goto (tgt := 45) dX8_as_37 (by decide) ?_
        exact Z_ireturn dX8_as_45 ⟨_, rfl, h⟩
    · have h := h.2 c7
      refine Z_bipush dX8_as_24 (by decide) ?_
      exact Z_ireturn dX8_as_26 ⟨_, rfl, h⟩
  · have h := h.2 c4
    refine Z_iconst dX8_as_13 ?_
    exact Z_ireturn dX8_as_14 ⟨_, rfl, h⟩
abbrev mX8_many (G : zG) (n : Nat) (x1 : Int) (μ : zM) (K : Int → zM → Prop) : Prop := zMt G n 2 yX8_many cX8_many 2 (some .int) [Rv G 127, Iv x1] μ (zKi K)
abbrev pX8_many (G : zG) (n : Nat) (K : Int → zM → Prop) (pc : Nat) (lv : List (Option Value)) (st : List Value) (μ : zM) : Prop := Z G (zrm 2 0 0) RX8 "many" cX8_many 2 (some .int) (zPh G n (zKi K)) 0 0 pc lv st (zE G n μ)
theorem eX8_many {G : zG} {n : Nat} (hn : 154 ≤ n) {x1 : Int} {μ : zM} {K : Int → zM → Prop}
    (h : ((((wr x1 < 0 ∨ 4 < wr x1) → (K ((-2)) μ)) ∧ (wr x1 = 0 → (mX8_calls G n  μ (fun r2 μ3 => K r2 μ3))) ∧ (wr x1 = 1 → (K (μ 127 25) μ)) ∧ (wr x1 = 2 → (K (μ 127 24) μ)) ∧ (wr x1 = 3 → (K (μ 127 30) μ)) ∧ (wr x1 = 4 → (K (μ 127 12) μ))))) :
    mX8_many G n x1 μ K := by
  refine zMt_of (lv := [some (Rv G 127), some (Iv x1)]) (by decide) rfl (Nat.le_of_ble_eq_true rfl) ?_
  show pX8_many G n K 0 [some (Rv G 127), some (Iv x1)] [] μ
  refine Z_iload_n dX8_many_0 rfl ?_
  by_cases c1 : wr x1 < 0 ∨ 4 < wr x1
  · have h := h.1 c1
    refine Z_tableOut (tgt := 61) dX8_many_1 c1 (by decide) ?_
    refine Z_bipush dX8_many_61 (by decide) ?_
    exact Z_ireturn dX8_many_63 ⟨_, rfl, h⟩
  · have hd := dX8_many_1
    have c1q : wr x1 = 0 ∨ wr x1 = 1 ∨ wr x1 = 2 ∨ wr x1 = 3 ∨ wr x1 = 4 := by omega
    rcases c1q with c1 | c1 | c1 | c1 | c1
    · have h := h.2.1 c1
      refine Z_tableIn (tgt := 36) 0 dX8_many_1 c1 (by decide) (by decide) rfl (by decide) ?_
      refine Z_aload_n dX8_many_36 rfl ?_
      refine Z_callVi h md_X8_calls sv_X8_calls lk_X8_120 zcX8 rfl ⟨by decide, by omega⟩ rfl rfl rfl rfl (Nat.le_of_ble_eq_true rfl) dX8_many_37 ⟨by decide, Nat.le_of_ble_eq_true rfl⟩ ⟨Nat.zero_le _, Nat.zero_le _⟩ ?_
      intro r2 μ3 h
      exact Z_ireturn dX8_many_40 ⟨_, rfl, h⟩
    · have h := h.2.2.1 c1
      refine Z_tableIn (tgt := 41) 1 dX8_many_1 c1 (by decide) (by decide) rfl (by decide) ?_
      refine Z_aload_n dX8_many_41 rfl ?_
      refine Y_gi 25 zcX8 fl_X8_234 ⟨by decide, by omega⟩ rfl rfl rfl (by decide) dX8_many_42 rfl ?_
      exact Z_ireturn dX8_many_45 ⟨_, rfl, h⟩
    · have h := h.2.2.2.1 c1
      refine Z_tableIn (tgt := 46) 2 dX8_many_1 c1 (by decide) (by decide) rfl (by decide) ?_
      refine Z_aload_n dX8_many_46 rfl ?_
      refine Y_gi 24 zcX8 fl_X8_62 ⟨by decide, by omega⟩ rfl rfl rfl (by decide) dX8_many_47 rfl ?_
      exact Z_ireturn dX8_many_50 ⟨_, rfl, h⟩
    · have h := h.2.2.2.2.1 c1
      refine Z_tableIn (tgt := 51) 3 dX8_many_1 c1 (by decide) (by decide) rfl (by decide) ?_
      refine Z_aload_n dX8_many_51 rfl ?_
      refine Y_gi 30 zcX8 fl_X8_77 ⟨by decide, by omega⟩ rfl rfl rfl (by decide) dX8_many_52 rfl ?_
      exact Z_ireturn dX8_many_55 ⟨_, rfl, h⟩
    · have h := h.2.2.2.2.2 c1
      refine Z_tableIn (tgt := 56) 4 dX8_many_1 c1 (by decide) (by decide) rfl (by decide) ?_
      refine Z_aload_n dX8_many_56 rfl ?_
      refine Y_gi 12 zcX8 fl_X8_35 ⟨by decide, by omega⟩ rfl rfl rfl (by decide) dX8_many_57 rfl ?_
      exact Z_ireturn dX8_many_60 ⟨_, rfl, h⟩
abbrev mX8_call (G : zG) (n : Nat) (x1 x2 : Int) (μ : zM) (K : Int → zM → Prop) : Prop := zMt G n 3 yX8_call cX8_call 4 (some .int) [Rv G 127, Iv x1, Iv x2] μ (zKi K)
abbrev pX8_call (G : zG) (n : Nat) (K : Int → zM → Prop) (pc : Nat) (lv : List (Option Value)) (st : List Value) (μ : zM) : Prop := Z G (zrm 3 0 0) RX8 "call" cX8_call 4 (some .int) (zPh G n (zKi K)) 0 0 pc lv st (zE G n μ)
theorem eX8_call {G : zG} {n : Nat} (hn : 154 ≤ n) {x1 x2 : Int} {μ : zM} {K : Int → zM → Prop}
    (h : (mX8_isLine G n x1 μ (fun r1 μ2 => ((wr r1 = 0 → (K ((-1)) μ2)) ∧ (¬ (wr r1 = 0) → (mX8_isLine G n x2 μ2 (fun r4 μ5 => ((¬ wr r4 = 0 → (mX8_isTaken G n x1 x2 μ5 (fun r7 μ8 => ((wr r7 = 0 → (pX8_call G n K 32 [some (Rv G 127), some (Iv x1), some (Iv x2), some (Iv 0)] [] μ8)) ∧ (¬ (wr r7 = 0) → (K ((-3)) μ8)))))) ∧ (wr r4 = 0 → (K ((-1)) μ5)))))))))) :
    mX8_call G n x1 x2 μ K := by
  refine zMt_of (lv := [some (Rv G 127), some (Iv x1), some (Iv x2), none]) (by decide) rfl (Nat.le_of_ble_eq_true rfl) ?_
  show pX8_call G n K 0 [some (Rv G 127), some (Iv x1), some (Iv x2), none] [] μ
  refine Z_aload_n dX8_call_0 rfl ?_
  refine Z_iload_n dX8_call_1 rfl ?_
  refine Z_callVi h md_X8_isLine sv_X8_isLine lk_X8_123 zcX8 rfl ⟨by decide, by omega⟩ rfl rfl rfl rfl (Nat.le_of_ble_eq_true rfl) dX8_call_2 ⟨by decide, Nat.le_of_ble_eq_true rfl⟩ ⟨Nat.zero_le _, Nat.zero_le _⟩ ?_
  intro r1 μ2 h
  refine Z_if_eq (tgt := 16) dX8_call_5 (by decide) (fun c3 => ?_) (fun c3 => ?_)
  · have h := h.1 c3
    refine Z_iconst dX8_call_16 ?_
    exact Z_ireturn dX8_call_17 ⟨_, rfl, h⟩
  · have h := h.2 c3
    refine Z_aload_n dX8_call_8 rfl ?_
    refine Z_iload_n dX8_call_9 rfl ?_
    refine Z_callVi h md_X8_isLine sv_X8_isLine lk_X8_123 zcX8 rfl ⟨by decide, by omega⟩ rfl rfl rfl rfl (Nat.le_of_ble_eq_true rfl) dX8_call_10 ⟨by decide, Nat.le_of_ble_eq_true rfl⟩ ⟨Nat.zero_le _, Nat.zero_le _⟩ ?_
    intro r4 μ5 h
    refine Z_if_ne (tgt := 18) dX8_call_13 (by decide) (fun c6 => ?_) (fun c6 => ?_)
    · have h := h.1 c6
      refine Z_aload_n dX8_call_18 rfl ?_
      refine Z_iload_n dX8_call_19 rfl ?_
      refine Z_iload_n dX8_call_20 rfl ?_
      refine Z_callVi h md_X8_isTaken sv_X8_isTaken lk_X8_127 zcX8 rfl ⟨by decide, by omega⟩ rfl rfl rfl rfl (Nat.le_of_ble_eq_true rfl) dX8_call_21 ⟨by decide, Nat.le_of_ble_eq_true rfl⟩ ⟨Nat.zero_le _, Nat.zero_le _⟩ ?_
      intro r7 μ8 h
      refine Z_if_eq (tgt := 30) dX8_call_24 (by decide) (fun c9 => ?_) (fun c9 => ?_)
      · have h := h.1 c9
        refine Z_iconst dX8_call_30 ?_
        refine Z_istore_n (lv2 := [some (Rv G 127), some (Iv x1), some (Iv x2), some (Iv 0)]) dX8_call_31 rfl (by decide) rfl ?_
        exact Z_cut h ⟨rfl, rfl, rfl, rfl, trivial⟩
      · have h := h.2 c9
        refine Z_bipush dX8_call_27 (by decide) ?_
        exact Z_ireturn dX8_call_29 ⟨_, rfl, h⟩
    · have h := h.2 c6
      refine Z_iconst dX8_call_16 ?_
      exact Z_ireturn dX8_call_17 ⟨_, rfl, h⟩
theorem bX8_call_32 {G : zG} {n : Nat} (hn : 154 ≤ n) {x1 x2 x3 : Int} {μ : zM} {K : Int → zM → Prop}
    (h : (((wr (μ 127 4) ≤ wr x3 → (K ((-9)) μ)) ∧ (¬ (wr (μ 127 4) ≤ wr x3) → (wr (μ 127 3) ≠ 0 ∧ mX8_atLeft G n (zdiv x1 (μ 127 3)) x3 μ (fun r3 μ4 => ((¬ wr r3 = wr ((-9)) → (pX8_call G n K 32 [some (Rv G 127), some (Iv x1), some (Iv x2), some (Iv (x3 + 1))] [] μ4)) ∧ (wr r3 = wr ((-9)) → (wr (μ4 127 3) ≠ 0 ∧ mX8_atRight G n (zdiv x2 (μ4 127 3)) x3 μ4 (fun r7 μ8 => ((¬ wr r7 = wr ((-9)) → (pX8_call G n K 32 [some (Rv G 127), some (Iv x1), some (Iv x2), some (Iv (x3 + 1))] [] μ8)) ∧ (wr r7 = wr ((-9)) → (mX8_setUp G n x1 x2 x3 μ8 (fun r10 μ11 => K r10 μ11)))))))))))))) :
    pX8_call G n K 32 [some (Rv G 127), some (Iv x1), some (Iv x2), some (Iv x3)] [] μ := by
  refine Z_iload_n dX8_call_32 rfl ?_
  refine Z_aload_n dX8_call_33 rfl ?_
  refine Y_gi 4 zcX8 fl_X8_16 ⟨by decide, by omega⟩ rfl rfl rfl (by decide) dX8_call_34 rfl ?_
  refine Z_icmp_ge (tgt := 86) dX8_call_37 (by decide) (fun c1 => ?_) (fun c1 => ?_)
  · have h := h.1 c1
    refine Z_bipush dX8_call_86 (by decide) ?_
    exact Z_ireturn dX8_call_88 ⟨_, rfl, h⟩
  · have h := h.2 c1
    refine Z_aload_n dX8_call_40 rfl ?_
    refine Z_iload_n dX8_call_41 rfl ?_
    refine Z_aload_n dX8_call_42 rfl ?_
    refine Y_gi 3 zcX8 fl_X8_13 ⟨by decide, by omega⟩ rfl rfl rfl (by decide) dX8_call_43 rfl ?_
    obtain ⟨b2, h⟩ := h
    refine Z_idiv dX8_call_46 b2 ?_
    refine Z_iload_n dX8_call_47 rfl ?_
    refine Z_callVi h md_X8_atLeft sv_X8_atLeft lk_X8_131 zcX8 rfl ⟨by decide, by omega⟩ rfl rfl rfl rfl (Nat.le_of_ble_eq_true rfl) dX8_call_48 ⟨by decide, Nat.le_of_ble_eq_true rfl⟩ ⟨Nat.zero_le _, Nat.zero_le _⟩ ?_
    intro r3 μ4 h
    refine Z_bipush dX8_call_51 (by decide) ?_
    refine Z_icmp_ne (tgt := 80) dX8_call_53 (by decide) (fun c5 => ?_) (fun c5 => ?_)
    · have h := h.1 c5
      refine Z_iinc (lv2 := [some (Rv G 127), some (Iv x1), some (Iv x2), some (Iv (x3 + 1))]) dX8_call_80 rfl rfl (by decide) rfl ?_
      refine Z_goto (tgt := 32) dX8_call_83 (by decide) ?_
      exact Z_cut h ⟨rfl, rfl, rfl, rfl, trivial⟩
    · have h := h.2 c5
      refine Z_aload_n dX8_call_56 rfl ?_
      refine Z_iload_n dX8_call_57 rfl ?_
      refine Z_aload_n dX8_call_58 rfl ?_
      refine Y_gi 3 zcX8 fl_X8_13 ⟨by decide, by omega⟩ rfl rfl rfl (by decide) dX8_call_59 rfl ?_
      obtain ⟨b6, h⟩ := h
      refine Z_idiv dX8_call_62 b6 ?_
      refine Z_iload_n dX8_call_63 rfl ?_
      refine Z_callVi h md_X8_atRight sv_X8_atRight lk_X8_135 zcX8 rfl ⟨by decide, by omega⟩ rfl rfl rfl rfl (Nat.le_of_ble_eq_true rfl) dX8_call_64 ⟨by decide, Nat.le_of_ble_eq_true rfl⟩ ⟨Nat.zero_le _, Nat.zero_le _⟩ ?_
      intro r7 μ8 h
      refine Z_bipush dX8_call_67 (by decide) ?_
      refine Z_icmp_ne (tgt := 80) dX8_call_69 (by decide) (fun c9 => ?_) (fun c9 => ?_)
      · have h := h.1 c9
        refine Z_iinc (lv2 := [some (Rv G 127), some (Iv x1), some (Iv x2), some (Iv (x3 + 1))]) dX8_call_80 rfl rfl (by decide) rfl ?_
        refine Z_goto (tgt := 32) dX8_call_83 (by decide) ?_
        exact Z_cut h ⟨rfl, rfl, rfl, rfl, trivial⟩
      · have h := h.2 c9
        refine Z_aload_n dX8_call_72 rfl ?_
        refine Z_iload_n dX8_call_73 rfl ?_
        refine Z_iload_n dX8_call_74 rfl ?_
        refine Z_iload_n dX8_call_75 rfl ?_
        refine Z_callVi h md_X8_setUp sv_X8_setUp lk_X8_138 zcX8 rfl ⟨by decide, by omega⟩ rfl rfl rfl rfl (Nat.le_of_ble_eq_true rfl) dX8_call_76 ⟨by decide, Nat.le_of_ble_eq_true rfl⟩ ⟨Nat.zero_le _, Nat.zero_le _⟩ ?_
        intro r10 μ11 h
        exact Z_ireturn dX8_call_79 ⟨_, rfl, h⟩
abbrev mX8_chainOf (G : zG) (n : Nat) (x1 x2 x3 : Int) (μ : zM) (K : Int → zM → Prop) : Prop := zMt G n 3 yX8_chainOf cX8_chainOf 6 (some .int) [Rv G 127, Iv x1, Iv x2, Iv x3] μ (zKi K)
abbrev pX8_chainOf (G : zG) (n : Nat) (K : Int → zM → Prop) (pc : Nat) (lv : List (Option Value)) (st : List Value) (μ : zM) : Prop := Z G (zrm 3 0 0) RX8 "chainOf" cX8_chainOf 6 (some .int) (zPh G n (zKi K)) 0 0 pc lv st (zE G n μ)
theorem eX8_chainOf {G : zG} {n : Nat} (hn : 154 ≤ n) {x1 x2 x3 : Int} {μ : zM} {K : Int → zM → Prop}
    (h : (((¬ wr x2 = wr x3 → (mX8_atRight G n x1 x2 μ (fun r2 μ3 => pX8_chainOf G n K 18 [some (Rv G 127), none, some (Iv x2), some (Iv x3), some (Iv 0), some (Iv r2)] [] μ3))) ∧ (wr x2 = wr x3 → (K 0 μ))))) :
    mX8_chainOf G n x1 x2 x3 μ K := by
  refine zMt_of (lv := [some (Rv G 127), some (Iv x1), some (Iv x2), some (Iv x3), none, none]) (by decide) rfl (Nat.le_of_ble_eq_true rfl) ?_
  show pX8_chainOf G n K 0 [some (Rv G 127), some (Iv x1), some (Iv x2), some (Iv x3), none, none] [] μ
  refine Z_iload_n dX8_chainOf_0 rfl ?_
  refine Z_iload_n dX8_chainOf_1 rfl ?_
  refine Z_icmp_ne (tgt := 7) dX8_chainOf_2 (by decide) (fun c1 => ?_) (fun c1 => ?_)
  · have h := h.1 c1
    refine Z_iconst dX8_chainOf_7 ?_
    refine Z_istore (lv2 := [some (Rv G 127), some (Iv x1), some (Iv x2), some (Iv x3), some (Iv 0), none]) dX8_chainOf_8 rfl (by decide) rfl ?_
    refine Z_aload_n dX8_chainOf_10 rfl ?_
    refine Z_iload_n dX8_chainOf_11 rfl ?_
    refine Z_iload_n dX8_chainOf_12 rfl ?_
    refine Z_callVi h md_X8_atRight sv_X8_atRight lk_X8_135 zcX8 rfl ⟨by decide, by omega⟩ rfl rfl rfl rfl (Nat.le_of_ble_eq_true rfl) dX8_chainOf_13 ⟨by decide, Nat.le_of_ble_eq_true rfl⟩ ⟨Nat.zero_le _, Nat.zero_le _⟩ ?_
    intro r2 μ3 h
    refine Z_istore (lv2 := [some (Rv G 127), some (Iv x1), some (Iv x2), some (Iv x3), some (Iv 0), some (Iv r2)]) dX8_chainOf_16 rfl (by decide) rfl ?_
    exact Z_cut h ⟨rfl, trivial, rfl, rfl, rfl, rfl, trivial⟩
  · have h := h.2 c1
    refine Z_iconst dX8_chainOf_5 ?_
    exact Z_ireturn dX8_chainOf_6 ⟨_, rfl, h⟩
theorem bX8_chainOf_18 {G : zG} {n : Nat} (hn : 154 ≤ n) {x2 x3 x4 x5 : Int} {μ : zM} {K : Int → zM → Prop}
    (h : (((wr x5 = wr ((-9)) → (K x4 μ)) ∧ (¬ (wr x5 = wr ((-9))) → ((0 ≤ wr x4 ∧ wr x4 < 20) ∧ ∀ μ3 : zM, μ3 = zu μ 130 (wr x4) x5 → ((¬ wr (zrem (x4 + 1) 2) = wr 1 → ((0 ≤ wr x5 ∧ wr x5 < 20) ∧ wr (μ3 127 3) ≠ 0 ∧ mX8_atRight G n (zdiv ((μ3 128 (wr x5)) - 1) (μ3 127 3)) x2 μ3 (fun r7 μ8 => pX8_chainOf G n K 18 [some (Rv G 127), none, some (Iv x2), some (Iv x3), some (Iv (x4 + 1)), some (Iv r7)] [] μ8))) ∧ (wr (zrem (x4 + 1) 2) = wr 1 → (wr (μ3 127 3) ≠ 0 ∧ mX8_atLeft G n (zdiv x5 (μ3 127 3)) x3 μ3 (fun r10 μ11 => pX8_chainOf G n K 18 [some (Rv G 127), none, some (Iv x2), some (Iv x3), some (Iv (x4 + 1)), some (Iv r10)] [] μ11))))))))) :
    pX8_chainOf G n K 18 [some (Rv G 127), none, some (Iv x2), some (Iv x3), some (Iv x4), some (Iv x5)] [] μ := by
  refine Z_iload dX8_chainOf_18 rfl ?_
  refine Z_bipush dX8_chainOf_20 (by decide) ?_
  refine Z_icmp_eq (tgt := 84) dX8_chainOf_22 (by decide) (fun c1 => ?_) (fun c1 => ?_)
  · have h := h.1 c1
    refine Z_iload dX8_chainOf_84 rfl ?_
    exact Z_ireturn dX8_chainOf_86 ⟨_, rfl, h⟩
  · have h := h.2 c1
    refine Z_aload_n dX8_chainOf_25 rfl ?_
    refine Z_gr (t := 130) zcX8 fl_X8_26 ⟨by decide, by omega⟩ rfl rfl rfl (by decide) (by decide) dX8_chainOf_26 ?_
    refine Z_iload dX8_chainOf_29 rfl ?_
    refine Z_iload dX8_chainOf_31 rfl ?_
    obtain ⟨b2, h⟩ := h
    refine Z_iast (zin_c (by decide) (by omega) (by decide) (by decide) b2) dX8_chainOf_33 ?_
    obtain ⟨μ3, eμ3⟩ : ∃ z : zM, z = zu μ 130 (wr x4) x5 := ⟨_, rfl⟩
    have h := h μ3 eμ3
    refine Z_mem eμ3 ?_
    refine Z_iinc (lv2 := [some (Rv G 127), none, some (Iv x2), some (Iv x3), some (Iv (x4 + 1)), some (Iv x5)]) dX8_chainOf_34 rfl rfl (by decide) rfl ?_
    refine Z_iload dX8_chainOf_37 rfl ?_
    refine Z_iconst dX8_chainOf_39 ?_
    refine Z_irem dX8_chainOf_40 (by decide) ?_
    refine Z_iconst dX8_chainOf_41 ?_
    refine Z_icmp_ne (tgt := 60) dX8_chainOf_42 (by decide) (fun c4 => ?_) (fun c4 => ?_)
    · have h := h.1 c4
      refine Z_aload_n dX8_chainOf_60 rfl ?_
      refine Z_aload_n dX8_chainOf_61 rfl ?_
      refine Z_gr (t := 128) zcX8 fl_X8_19 ⟨by decide, by omega⟩ rfl rfl rfl (by decide) (by decide) dX8_chainOf_62 ?_
      refine Z_iload dX8_chainOf_65 rfl ?_
      obtain ⟨b5, h⟩ := h
      refine Z_iald (zin_c (by decide) (by omega) (by decide) (by decide) b5) dX8_chainOf_67 ?_
      refine Z_iconst dX8_chainOf_68 ?_
      refine Z_isub dX8_chainOf_69 ?_
      refine Z_aload_n dX8_chainOf_70 rfl ?_
      refine Y_gi 3 zcX8 fl_X8_13 ⟨by decide, by omega⟩ rfl rfl rfl (by decide) dX8_chainOf_71 rfl ?_
      obtain ⟨b6, h⟩ := h
      refine Z_idiv dX8_chainOf_74 b6 ?_
      refine Z_iload_n dX8_chainOf_75 rfl ?_
      refine Z_callVi h md_X8_atRight sv_X8_atRight lk_X8_135 zcX8 rfl ⟨by decide, by omega⟩ rfl rfl rfl rfl (Nat.le_of_ble_eq_true rfl) dX8_chainOf_76 ⟨by decide, Nat.le_of_ble_eq_true rfl⟩ ⟨Nat.zero_le _, Nat.zero_le _⟩ ?_
      intro r7 μ8 h
      refine Z_istore (lv2 := [some (Rv G 127), none, some (Iv x2), some (Iv x3), some (Iv (x4 + 1)), some (Iv r7)]) dX8_chainOf_79 rfl (by decide) rfl ?_
      refine Z_goto (tgt := 18) dX8_chainOf_81 (by decide) ?_
      exact Z_cut h ⟨rfl, trivial, rfl, rfl, rfl, rfl, trivial⟩
    · have h := h.2 c4
      refine Z_aload_n dX8_chainOf_45 rfl ?_
      refine Z_iload dX8_chainOf_46 rfl ?_
      refine Z_aload_n dX8_chainOf_48 rfl ?_
      refine Y_gi 3 zcX8 fl_X8_13 ⟨by decide, by omega⟩ rfl rfl rfl (by decide) dX8_chainOf_49 rfl ?_
      obtain ⟨b9, h⟩ := h
      refine Z_idiv dX8_chainOf_52 b9 ?_
      refine Z_iload_n dX8_chainOf_53 rfl ?_
      refine Z_callVi h md_X8_atLeft sv_X8_atLeft lk_X8_131 zcX8 rfl ⟨by decide, by omega⟩ rfl rfl rfl rfl (Nat.le_of_ble_eq_true rfl) dX8_chainOf_54 ⟨by decide, Nat.le_of_ble_eq_true rfl⟩ ⟨Nat.zero_le _, Nat.zero_le _⟩ ?_
      intro r10 μ11 h
      refine Z_goto (tgt := 79) dX8_chainOf_57 (by decide) ?_
      refine Z_istore (lv2 := [some (Rv G 127), none, some (Iv x2), some (Iv x3), some (Iv (x4 + 1)), some (Iv r10)]) dX8_chainOf_79 rfl (by decide) rfl ?_
      refine Z_goto (tgt := 18) dX8_chainOf_81 (by decide) ?_
      exact Z_cut h ⟨rfl, trivial, rfl, rfl, rfl, rfl, trivial⟩
abbrev mX8_hang (G : zG) (n : Nat) (x1 : Int) (μ : zM) (K : Int → zM → Prop) : Prop := zMt G n 3 yX8_hang cX8_hang 2 (some .int) [Rv G 127, Iv x1] μ (zKi K)
abbrev pX8_hang (G : zG) (n : Nat) (K : Int → zM → Prop) (pc : Nat) (lv : List (Option Value)) (st : List Value) (μ : zM) : Prop := Z G (zrm 3 0 0) RX8 "hang" cX8_hang 2 (some .int) (zPh G n (zKi K)) 0 0 pc lv st (zE G n μ)
theorem eX8_hang {G : zG} {n : Nat} (hn : 154 ≤ n) {x1 : Int} {μ : zM} {K : Int → zM → Prop}
    (h : (mX8_isLine G n x1 μ (fun r1 μ2 => ((¬ wr r1 = 0 → ((0 ≤ wr x1 ∧ wr x1 < 20) ∧ ((¬ wr (μ2 128 (wr x1)) = 0 → ((0 ≤ wr x1 ∧ wr x1 < 20) ∧ ∀ μ7 : zM, μ7 = zu μ2 128 (wr x1) 0 → (0 ≤ wr x1 ∧ wr x1 < 20) ∧ K (μ7 129 (wr x1)) μ7)) ∧ (wr (μ2 128 (wr x1)) = 0 → (K ((-3)) μ2))))) ∧ (wr r1 = 0 → (K ((-1)) μ2)))))) :
    mX8_hang G n x1 μ K := by
  refine zMt_of (lv := [some (Rv G 127), some (Iv x1)]) (by decide) rfl (Nat.le_of_ble_eq_true rfl) ?_
  show pX8_hang G n K 0 [some (Rv G 127), some (Iv x1)] [] μ
  refine Z_aload_n dX8_hang_0 rfl ?_
  refine Z_iload_n dX8_hang_1 rfl ?_
  refine Z_callVi h md_X8_isLine sv_X8_isLine lk_X8_123 zcX8 rfl ⟨by decide, by omega⟩ rfl rfl rfl rfl (Nat.le_of_ble_eq_true rfl) dX8_hang_2 ⟨by decide, Nat.le_of_ble_eq_true rfl⟩ ⟨Nat.zero_le _, Nat.zero_le _⟩ ?_
  intro r1 μ2 h
  refine Z_if_ne (tgt := 10) dX8_hang_5 (by decide) (fun c3 => ?_) (fun c3 => ?_)
  · have h := h.1 c3
    refine Z_aload_n dX8_hang_10 rfl ?_
    refine Z_gr (t := 128) zcX8 fl_X8_19 ⟨by decide, by omega⟩ rfl rfl rfl (by decide) (by decide) dX8_hang_11 ?_
    refine Z_iload_n dX8_hang_14 rfl ?_
    obtain ⟨b4, h⟩ := h
    refine Z_iald (zin_c (by decide) (by omega) (by decide) (by decide) b4) dX8_hang_15 ?_
    refine Z_if_ne (tgt := 22) dX8_hang_16 (by decide) (fun c5 => ?_) (fun c5 => ?_)
    · have h := h.1 c5
      refine Z_aload_n dX8_hang_22 rfl ?_
      refine Z_gr (t := 128) zcX8 fl_X8_19 ⟨by decide, by omega⟩ rfl rfl rfl (by decide) (by decide) dX8_hang_23 ?_
      refine Z_iload_n dX8_hang_26 rfl ?_
      refine Z_iconst dX8_hang_27 ?_
      obtain ⟨b6, h⟩ := h
      refine Z_iast (zin_c (by decide) (by omega) (by decide) (by decide) b6) dX8_hang_28 ?_
      obtain ⟨μ7, eμ7⟩ : ∃ z : zM, z = zu μ2 128 (wr x1) 0 := ⟨_, rfl⟩
      have h := h μ7 eμ7
      refine Z_mem eμ7 ?_
      refine Z_aload_n dX8_hang_29 rfl ?_
      refine Z_gr (t := 129) zcX8 fl_X8_23 ⟨by decide, by omega⟩ rfl rfl rfl (by decide) (by decide) dX8_hang_30 ?_
      refine Z_iload_n dX8_hang_33 rfl ?_
      obtain ⟨b8, h⟩ := h
      refine Z_iald (zin_c (by decide) (by omega) (by decide) (by decide) b8) dX8_hang_34 ?_
      exact Z_ireturn dX8_hang_35 ⟨_, rfl, h⟩
    · have h := h.2 c5
      refine Z_bipush dX8_hang_19 (by decide) ?_
      exact Z_ireturn dX8_hang_21 ⟨_, rfl, h⟩
  · have h := h.2 c3
    refine Z_iconst dX8_hang_8 ?_
    exact Z_ireturn dX8_hang_9 ⟨_, rfl, h⟩
abbrev mX8_callOf (G : zG) (n : Nat) (x1 x2 : Int) (μ : zM) (K : Int → zM → Prop) : Prop := zMt G n 3 yX8_callOf cX8_callOf 3 (some .int) [Rv G 127, Iv x1, Iv x2] μ (zKi K)
abbrev pX8_callOf (G : zG) (n : Nat) (K : Int → zM → Prop) (pc : Nat) (lv : List (Option Value)) (st : List Value) (μ : zM) : Prop := Z G (zrm 3 0 0) RX8 "callOf" cX8_callOf 3 (some .int) (zPh G n (zKi K)) 0 0 pc lv st (zE G n μ)
theorem eX8_callOf {G : zG} {n : Nat} (hn : 154 ≤ n) {x1 x2 : Int} {μ : zM} {K : Int → zM → Prop}
    (h : (mX8_isLine G n x1 μ (fun r1 μ2 => ((¬ wr r1 = 0 → (mX8_within G n x2 0 1 μ2 (fun r4 μ5 => ((¬ wr r4 = 0 → ((0 ≤ wr x1 ∧ wr x1 < 20) ∧ ((¬ wr (μ5 128 (wr x1)) = 0 → (((¬ wr x2 = 0 → ((0 ≤ wr x1 ∧ wr x1 < 20) ∧ K (μ5 129 (wr x1)) μ5)) ∧ (wr x2 = 0 → ((0 ≤ wr x1 ∧ wr x1 < 20) ∧ K ((μ5 128 (wr x1)) - 1) μ5))))) ∧ (wr (μ5 128 (wr x1)) = 0 → (K ((-9)) μ5))))) ∧ (wr r4 = 0 → (K ((-2)) μ5)))))) ∧ (wr r1 = 0 → (K ((-1)) μ2)))))) :
    mX8_callOf G n x1 x2 μ K := by
  refine zMt_of (lv := [some (Rv G 127), some (Iv x1), some (Iv x2)]) (by decide) rfl (Nat.le_of_ble_eq_true rfl) ?_
  show pX8_callOf G n K 0 [some (Rv G 127), some (Iv x1), some (Iv x2)] [] μ
  refine Z_aload_n dX8_callOf_0 rfl ?_
  refine Z_iload_n dX8_callOf_1 rfl ?_
  refine Z_callVi h md_X8_isLine sv_X8_isLine lk_X8_123 zcX8 rfl ⟨by decide, by omega⟩ rfl rfl rfl rfl (Nat.le_of_ble_eq_true rfl) dX8_callOf_2 ⟨by decide, Nat.le_of_ble_eq_true rfl⟩ ⟨Nat.zero_le _, Nat.zero_le _⟩ ?_
  intro r1 μ2 h
  refine Z_if_ne (tgt := 10) dX8_callOf_5 (by decide) (fun c3 => ?_) (fun c3 => ?_)
  · have h := h.1 c3
    refine Z_iload_n dX8_callOf_10 rfl ?_
    refine Z_iconst dX8_callOf_11 ?_
    refine Z_iconst dX8_callOf_12 ?_
    refine Z_callSi h md_X8_within sv_X8_within lk_X8_116 rfl rfl (Nat.le_of_ble_eq_true rfl) dX8_callOf_13 ⟨by decide, Nat.le_of_ble_eq_true rfl⟩ ⟨Nat.zero_le _, Nat.zero_le _⟩ ?_
    intro r4 μ5 h
    refine Z_if_ne (tgt := 22) dX8_callOf_16 (by decide) (fun c6 => ?_) (fun c6 => ?_)
    · have h := h.1 c6
      refine Z_aload_n dX8_callOf_22 rfl ?_
      refine Z_gr (t := 128) zcX8 fl_X8_19 ⟨by decide, by omega⟩ rfl rfl rfl (by decide) (by decide) dX8_callOf_23 ?_
      refine Z_iload_n dX8_callOf_26 rfl ?_
      obtain ⟨b7, h⟩ := h
      refine Z_iald (zin_c (by decide) (by omega) (by decide) (by decide) b7) dX8_callOf_27 ?_
      refine Z_if_ne (tgt := 36) dX8_callOf_28 (by decide) (fun c8 => ?_) (fun c8 => ?_)
      · have h := h.1 c8
        refine Z_iload_n dX8_callOf_36 rfl ?_
        refine Z_if_ne (tgt := 51) dX8_callOf_37 (by decide) (fun c9 => ?_) (fun c9 => ?_)
        · have h := h.1 c9
          refine Z_aload_n dX8_callOf_51 rfl ?_
          refine Z_gr (t := 129) zcX8 fl_X8_23 ⟨by decide, by omega⟩ rfl rfl rfl (by decide) (by decide) dX8_callOf_52 ?_
          refine Z_iload_n dX8_callOf_55 rfl ?_
          obtain ⟨b10, h⟩ := h
          refine Z_iald (zin_c (by decide) (by omega) (by decide) (by decide) b10) dX8_callOf_56 ?_
          exact Z_ireturn dX8_callOf_57 ⟨_, rfl, h⟩
        · have h := h.2 c9
          refine Z_aload_n dX8_callOf_40 rfl ?_
          refine Z_gr (t := 128) zcX8 fl_X8_19 ⟨by decide, by omega⟩ rfl rfl rfl (by decide) (by decide) dX8_callOf_41 ?_
          refine Z_iload_n dX8_callOf_44 rfl ?_
          obtain ⟨b11, h⟩ := h
          refine Z_iald (zin_c (by decide) (by omega) (by decide) (by decide) b11) dX8_callOf_45 ?_
          refine Z_iconst dX8_callOf_46 ?_
          refine Z_isub dX8_callOf_47 ?_
          refine Z_goto (tgt := 57) dX8_callOf_48 (by decide) ?_
          exact Z_ireturn dX8_callOf_57 ⟨_, rfl, h⟩
      · have h := h.2 c8
        refine Z_bipush dX8_callOf_31 (by decide) ?_
        refine Z_goto (tgt := 57) dX8_callOf_33 (by decide) ?_
        exact Z_ireturn dX8_callOf_57 ⟨_, rfl, h⟩
    · have h := h.2 c6
      refine Z_bipush dX8_callOf_19 (by decide) ?_
      exact Z_ireturn dX8_callOf_21 ⟨_, rfl, h⟩
  · have h := h.2 c3
    refine Z_iconst dX8_callOf_8 ?_
    exact Z_ireturn dX8_callOf_9 ⟨_, rfl, h⟩
abbrev mX8_links (G : zG) (n : Nat) (x1 x2 : Int) (μ : zM) (K : Int → zM → Prop) : Prop := zMt G n 3 yX8_links cX8_links 5 (some .int) [Rv G 127, Iv x1, Iv x2] μ (zKi K)
abbrev pX8_links (G : zG) (n : Nat) (K : Int → zM → Prop) (pc : Nat) (lv : List (Option Value)) (st : List Value) (μ : zM) : Prop := Z G (zrm 3 0 0) RX8 "links" cX8_links 5 (some .int) (zPh G n (zKi K)) 0 0 pc lv st (zE G n μ)
theorem eX8_links {G : zG} {n : Nat} (hn : 154 ≤ n) {x1 x2 : Int} {μ : zM} {K : Int → zM → Prop}
    (h : (mX8_within G n x1 0 ((μ 127 4) - 1) μ (fun r1 μ2 => ((¬ wr r1 = 0 → (mX8_within G n x2 0 1 μ2 (fun r4 μ5 => ((¬ wr r4 = 0 → (pX8_links G n K 33 [some (Rv G 127), some (Iv x1), some (Iv x2), some (Iv 0), some (Iv 0)] [] μ5)) ∧ (wr r4 = 0 → (K ((-2)) μ5)))))) ∧ (wr r1 = 0 → (K ((-1)) μ2)))))) :
    mX8_links G n x1 x2 μ K := by
  refine zMt_of (lv := [some (Rv G 127), some (Iv x1), some (Iv x2), none, none]) (by decide) rfl (Nat.le_of_ble_eq_true rfl) ?_
  show pX8_links G n K 0 [some (Rv G 127), some (Iv x1), some (Iv x2), none, none] [] μ
  refine Z_iload_n dX8_links_0 rfl ?_
  refine Z_iconst dX8_links_1 ?_
  refine Z_aload_n dX8_links_2 rfl ?_
  refine Y_gi 4 zcX8 fl_X8_16 ⟨by decide, by omega⟩ rfl rfl rfl (by decide) dX8_links_3 rfl ?_
  refine Z_iconst dX8_links_6 ?_
  refine Z_isub dX8_links_7 ?_
  refine Z_callSi h md_X8_within sv_X8_within lk_X8_116 rfl rfl (Nat.le_of_ble_eq_true rfl) dX8_links_8 ⟨by decide, Nat.le_of_ble_eq_true rfl⟩ ⟨Nat.zero_le _, Nat.zero_le _⟩ ?_
  intro r1 μ2 h
  refine Z_if_ne (tgt := 16) dX8_links_11 (by decide) (fun c3 => ?_) (fun c3 => ?_)
  · have h := h.1 c3
    refine Z_iload_n dX8_links_16 rfl ?_
    refine Z_iconst dX8_links_17 ?_
    refine Z_iconst dX8_links_18 ?_
    refine Z_callSi h md_X8_within sv_X8_within lk_X8_116 rfl rfl (Nat.le_of_ble_eq_true rfl) dX8_links_19 ⟨by decide, Nat.le_of_ble_eq_true rfl⟩ ⟨Nat.zero_le _, Nat.zero_le _⟩ ?_
    intro r4 μ5 h
    refine Z_if_ne (tgt := 28) dX8_links_22 (by decide) (fun c6 => ?_) (fun c6 => ?_)
    · have h := h.1 c6
      refine Z_iconst dX8_links_28 ?_
      refine Z_istore_n (lv2 := [some (Rv G 127), some (Iv x1), some (Iv x2), some (Iv 0), none]) dX8_links_29 rfl (by decide) rfl ?_
      refine Z_iconst dX8_links_30 ?_
      refine Z_istore (lv2 := [some (Rv G 127), some (Iv x1), some (Iv x2), some (Iv 0), some (Iv 0)]) dX8_links_31 rfl (by decide) rfl ?_
      exact Z_cut h ⟨rfl, rfl, rfl, rfl, rfl, trivial⟩
    · have h := h.2 c6
      refine Z_bipush dX8_links_25 (by decide) ?_
      exact Z_ireturn dX8_links_27 ⟨_, rfl, h⟩
  · have h := h.2 c3
    refine Z_iconst dX8_links_14 ?_
    exact Z_ireturn dX8_links_15 ⟨_, rfl, h⟩
theorem bX8_links_33 {G : zG} {n : Nat} (hn : 154 ≤ n) {x1 x2 x3 x4 : Int} {μ : zM} {K : Int → zM → Prop}
    (h : (((wr (μ 127 2) ≤ wr x4 → (K x3 μ)) ∧ (¬ (wr (μ 127 2) ≤ wr x4) → (((¬ wr x2 = 0 → (mX8_atRight G n x4 x1 μ (fun r3 μ4 => ((¬ wr r3 = wr ((-9)) → (∀ v6 : Int, v6 = zor x3 (zshl 1 x4) → pX8_links G n K 33 [some (Rv G 127), some (Iv x1), some (Iv x2), some (Iv v6), some (Iv (x4 + 1))] [] μ4)) ∧ (wr r3 = wr ((-9)) → (∀ v7 : Int, v7 = zor x3 0 → pX8_links G n K 33 [some (Rv G 127), some (Iv x1), some (Iv x2), some (Iv v7), some (Iv (x4 + 1))] [] μ4)))))) ∧ (wr x2 = 0 → (mX8_atLeft G n x4 x1 μ (fun r8 μ9 => ((¬ wr r8 = wr ((-9)) → (∀ v11 : Int, v11 = zor x3 (zshl 1 x4) → pX8_links G n K 33 [some (Rv G 127), some (Iv x1), some (Iv x2), some (Iv v11), some (Iv (x4 + 1))] [] μ9)) ∧ (wr r8 = wr ((-9)) → (∀ v12 : Int, v12 = zor x3 0 → pX8_links G n K 33 [some (Rv G 127), some (Iv x1), some (Iv x2), some (Iv v12), some (Iv (x4 + 1))] [] μ9)))))))))))) :
    pX8_links G n K 33 [some (Rv G 127), some (Iv x1), some (Iv x2), some (Iv x3), some (Iv x4)] [] μ := by
  refine Z_iload dX8_links_33 rfl ?_
  refine Z_aload_n dX8_links_35 rfl ?_
  refine Y_gi 2 zcX8 fl_X8_7 ⟨by decide, by omega⟩ rfl rfl rfl (by decide) dX8_links_36 rfl ?_
  refine Z_icmp_ge (tgt := 85) dX8_links_39 (by decide) (fun c1 => ?_) (fun c1 => ?_)
  · have h := h.1 c1
    refine Z_iload_n dX8_links_85 rfl ?_
    exact Z_ireturn dX8_links_86 ⟨_, rfl, h⟩
  · have h := h.2 c1
    refine Z_iload_n dX8_links_42 rfl ?_
    refine Z_iload_n dX8_links_43 rfl ?_
    refine Z_if_ne (tgt := 57) dX8_links_44 (by decide) (fun c2 => ?_) (fun c2 => ?_)
    · have h := h.1 c2
      refine Z_aload_n dX8_links_57 rfl ?_
      refine Z_iload dX8_links_58 rfl ?_
      refine Z_iload_n dX8_links_60 rfl ?_
      refine Z_callVi h md_X8_atRight sv_X8_atRight lk_X8_135 zcX8 rfl ⟨by decide, by omega⟩ rfl rfl rfl rfl (Nat.le_of_ble_eq_true rfl) dX8_links_61 ⟨by decide, Nat.le_of_ble_eq_true rfl⟩ ⟨Nat.zero_le _, Nat.zero_le _⟩ ?_
      intro r3 μ4 h
      refine Z_bipush dX8_links_64 (by decide) ?_
      refine Z_icmp_ne (tgt := 73) dX8_links_66 (by decide) (fun c5 => ?_) (fun c5 => ?_)
      · have h := h.1 c5
        refine Z_iconst dX8_links_73 ?_
        refine Z_iload dX8_links_74 rfl ?_
        refine Z_ishl dX8_links_76 ?_
        refine Z_ior dX8_links_77 ?_
        obtain ⟨v6, ev6⟩ : ∃ z : Int, z = zor x3 (zshl 1 x4) := ⟨_, rfl⟩
        have h := h v6 ev6
        refine Z_nmi ev6 ?_
        refine Z_istore_n (lv2 := [some (Rv G 127), some (Iv x1), some (Iv x2), some (Iv v6), some (Iv x4)]) dX8_links_78 rfl (by decide) rfl ?_
        refine Z_iinc (lv2 := [some (Rv G 127), some (Iv x1), some (Iv x2), some (Iv v6), some (Iv (x4 + 1))]) dX8_links_79 rfl rfl (by decide) rfl ?_
        refine Z_goto (tgt := 33) dX8_links_82 (by decide) ?_
        exact Z_cut h ⟨rfl, rfl, rfl, rfl, rfl, trivial⟩
      · have h := h.2 c5
        refine Z_iconst dX8_links_69 ?_
        refine Z_goto (tgt := 77) dX8_links_70 (by decide) ?_
        refine Z_ior dX8_links_77 ?_
        obtain ⟨v7, ev7⟩ : ∃ z : Int, z = zor x3 0 := ⟨_, rfl⟩
        have h := h v7 ev7
        refine Z_nmi ev7 ?_
        refine Z_istore_n (lv2 := [some (Rv G 127), some (Iv x1), some (Iv x2), some (Iv v7), some (Iv x4)]) dX8_links_78 rfl (by decide) rfl ?_
        refine Z_iinc (lv2 := [some (Rv G 127), some (Iv x1), some (Iv x2), some (Iv v7), some (Iv (x4 + 1))]) dX8_links_79 rfl rfl (by decide) rfl ?_
        refine Z_goto (tgt := 33) dX8_links_82 (by decide) ?_
        exact Z_cut h ⟨rfl, rfl, rfl, rfl, rfl, trivial⟩
    · have h := h.2 c2
      refine Z_aload_n dX8_links_47 rfl ?_
      refine Z_iload dX8_links_48 rfl ?_
      refine Z_iload_n dX8_links_50 rfl ?_
      refine Z_callVi h md_X8_atLeft sv_X8_atLeft lk_X8_131 zcX8 rfl ⟨by decide, by omega⟩ rfl rfl rfl rfl (Nat.le_of_ble_eq_true rfl) dX8_links_51 ⟨by decide, Nat.le_of_ble_eq_true rfl⟩ ⟨Nat.zero_le _, Nat.zero_le _⟩ ?_
      intro r8 μ9 h
      refine Z_goto (tgt := 64) dX8_links_54 (by decide) ?_
      refine Z_bipush dX8_links_64 (by decide) ?_
      refine Z_icmp_ne (tgt := 73) dX8_links_66 (by decide) (fun c10 => ?_) (fun c10 => ?_)
      · have h := h.1 c10
        refine Z_iconst dX8_links_73 ?_
        refine Z_iload dX8_links_74 rfl ?_
        refine Z_ishl dX8_links_76 ?_
        refine Z_ior dX8_links_77 ?_
        obtain ⟨v11, ev11⟩ : ∃ z : Int, z = zor x3 (zshl 1 x4) := ⟨_, rfl⟩
        have h := h v11 ev11
        refine Z_nmi ev11 ?_
        refine Z_istore_n (lv2 := [some (Rv G 127), some (Iv x1), some (Iv x2), some (Iv v11), some (Iv x4)]) dX8_links_78 rfl (by decide) rfl ?_
        refine Z_iinc (lv2 := [some (Rv G 127), some (Iv x1), some (Iv x2), some (Iv v11), some (Iv (x4 + 1))]) dX8_links_79 rfl rfl (by decide) rfl ?_
        refine Z_goto (tgt := 33) dX8_links_82 (by decide) ?_
        exact Z_cut h ⟨rfl, rfl, rfl, rfl, rfl, trivial⟩
      · have h := h.2 c10
        refine Z_iconst dX8_links_69 ?_
        refine Z_goto (tgt := 77) dX8_links_70 (by decide) ?_
        refine Z_ior dX8_links_77 ?_
        obtain ⟨v12, ev12⟩ : ∃ z : Int, z = zor x3 0 := ⟨_, rfl⟩
        have h := h v12 ev12
        refine Z_nmi ev12 ?_
        refine Z_istore_n (lv2 := [some (Rv G 127), some (Iv x1), some (Iv x2), some (Iv v12), some (Iv x4)]) dX8_links_78 rfl (by decide) rfl ?_
        refine Z_iinc (lv2 := [some (Rv G 127), some (Iv x1), some (Iv x2), some (Iv v12), some (Iv (x4 + 1))]) dX8_links_79 rfl rfl (by decide) rfl ?_
        refine Z_goto (tgt := 33) dX8_links_82 (by decide) ?_
        exact Z_cut h ⟨rfl, rfl, rfl, rfl, rfl, trivial⟩
abbrev mX8_findEight (G : zG) (n : Nat) (μ : zM) (K : zM → Prop) : Prop := zMt G n 3 yX8_findEight cX8_findEight 10 none [Rv G 127] μ (zKv K)
abbrev pX8_findEight (G : zG) (n : Nat) (K : zM → Prop) (pc : Nat) (lv : List (Option Value)) (st : List Value) (μ : zM) : Prop := Z G (zrm 3 0 0) RX8 "findEight" cX8_findEight 10 none (zPh G n (zKv K)) 0 0 pc lv st (zE G n μ)
theorem eX8_findEight {G : zG} {n : Nat} (hn : 154 ≤ n) {μ : zM} {K : zM → Prop}
    (h : (∀ v1 : Int, v1 = (-1) → pX8_findEight G n K 9 [some (Rv G 127), some (Lv 0), none, some (Lv v1), none, some (Iv 0), none, none, none, none] [] μ)) :
    mX8_findEight G n  μ K := by
  refine zMt_of (lv := [some (Rv G 127), none, none, none, none, none, none, none, none, none]) (by decide) rfl (Nat.le_of_ble_eq_true rfl) ?_
  show pX8_findEight G n K 0 [some (Rv G 127), none, none, none, none, none, none, none, none, none] [] μ
  refine Z_lconst (a := 0) dX8_findEight_0 (by decide) ?_
  refine Z_lstore_n (lv2 := [some (Rv G 127), some (Lv 0), none, none, none, none, none, none, none, none]) dX8_findEight_1 rfl (by decide) rfl ?_
  refine Z_ldc2 (a := -1) dX8_findEight_2 cl_X8_164 (by decide) ?_
  obtain ⟨v1, ev1⟩ : ∃ z : Int, z = (-1) := ⟨_, rfl⟩
  have h := h v1 ev1
  refine Z_nml ev1 ?_
  refine Z_lstore_n (lv2 := [some (Rv G 127), some (Lv 0), none, some (Lv v1), none, none, none, none, none, none]) dX8_findEight_5 rfl (by decide) rfl ?_
  refine Z_iconst dX8_findEight_6 ?_
  refine Z_istore (lv2 := [some (Rv G 127), some (Lv 0), none, some (Lv v1), none, some (Iv 0), none, none, none, none]) dX8_findEight_7 rfl (by decide) rfl ?_
  exact Z_cut h ⟨rfl, rfl, trivial, rfl, trivial, rfl, trivial, trivial, trivial, trivial, trivial⟩
theorem bX8_findEight_9 {G : zG} {n : Nat} (hn : 154 ≤ n) {x1 x3 x5 : Int} {μ : zM} {K : zM → Prop}
    (h : (((wr 16 ≤ wr x5 → (∀ μ2 : zM, μ2 = zu μ 127 18 x1 → ∀ μ3 : zM, μ3 = zu μ2 127 19 x3 → K μ3)) ∧ (¬ (wr 16 ≤ wr x5) → (mX8_halve G n 133 0 8 x5 135 0 μ (fun r4 μ5 => ((¬ wr r4 = 0 → (∀ v7 : Int, v7 = zlor (wr x5) (zlshl (wr (μ5 127 17)) 4) → mX8_findFour G n 135 0 μ5 (fun μ9 => ∀ v10 : Int, v10 = μ9 127 18 → ∀ v11 : Int, v11 = zlor v7 (zlshl (μ9 127 19) 8) → mX8_findFour G n 135 4 μ9 (fun μ13 => ∀ v14 : Int, v14 = x1 + (v10 * (μ13 127 18)) → ∀ v15 : Int, v15 = zlor v11 (zlshl (μ13 127 19) 14) → ((wr (zlcmp x3 0) < 0 → (pX8_findEight G n K 9 [some (Rv G 127), some (Lv v14), none, some (Lv v15), none, some (Iv (x5 + 1)), none, none, none, none] [] μ13)) ∧ (¬ (wr (zlcmp x3 0) < 0) → (((0 ≤ wr (zlcmp v15 x3) → (pX8_findEight G n K 9 [some (Rv G 127), some (Lv v14), none, some (Lv x3), none, some (Iv (x5 + 1)), none, none, none, none] [] μ13)) ∧ (¬ (0 ≤ wr (zlcmp v15 x3)) → (pX8_findEight G n K 9 [some (Rv G 127), some (Lv v14), none, some (Lv v15), none, some (Iv (x5 + 1)), none, none, none, none] [] μ13)))))))))) ∧ (wr r4 = 0 → (pX8_findEight G n K 9 [some (Rv G 127), some (Lv x1), none, some (Lv x3), none, some (Iv (x5 + 1)), none, none, none, none] [] μ5))))))))) :
    pX8_findEight G n K 9 [some (Rv G 127), some (Lv x1), none, some (Lv x3), none, some (Iv x5), none, none, none, none] [] μ := by
  refine Z_iload dX8_findEight_9 rfl ?_
  refine Z_bipush dX8_findEight_11 (by decide) ?_
  refine Z_icmp_ge (tgt := 137) dX8_findEight_13 (by decide) (fun c1 => ?_) (fun c1 => ?_)
  · have h := h.1 c1
    refine Z_aload_n dX8_findEight_137 rfl ?_
    refine Z_lload_n dX8_findEight_138 rfl ?_
    refine Y_pl 18 zcX8 fk_X8_160 ⟨by decide, by omega⟩ rfl rfl rfl (by decide) rfl (tyX8_ok 18 (by decide)) dX8_findEight_139 rfl ?_
    obtain ⟨μ2, eμ2⟩ : ∃ z : zM, z = zu μ 127 18 x1 := ⟨_, rfl⟩
    have h := h μ2 eμ2
    refine Z_mem eμ2 ?_
    refine Z_aload_n dX8_findEight_142 rfl ?_
    refine Z_lload_n dX8_findEight_143 rfl ?_
    refine Y_pl 19 zcX8 fk_X8_166 ⟨by decide, by omega⟩ rfl rfl rfl (by decide) rfl (tyX8_ok 19 (by decide)) dX8_findEight_144 rfl ?_
    obtain ⟨μ3, eμ3⟩ : ∃ z : zM, z = zu μ2 127 19 x3 := ⟨_, rfl⟩
    have h := h μ3 eμ3
    refine Z_mem eμ3 ?_
    exact Z_return dX8_findEight_147 ⟨rfl, h⟩
  · have h := h.2 c1
    refine Z_aload_n dX8_findEight_16 rfl ?_
    refine Z_aload_n dX8_findEight_17 rfl ?_
    refine Z_gr (t := 133) zcX8 fl_X8_38 ⟨by decide, by omega⟩ rfl rfl rfl (by decide) (by decide) dX8_findEight_18 ?_
    refine Z_iconst dX8_findEight_21 ?_
    refine Z_bipush dX8_findEight_22 (by decide) ?_
    refine Z_iload dX8_findEight_24 rfl ?_
    refine Z_aload_n dX8_findEight_26 rfl ?_
    refine Z_gr (t := 135) zcX8 fl_X8_44 ⟨by decide, by omega⟩ rfl rfl rfl (by decide) (by decide) dX8_findEight_27 ?_
    refine Z_iconst dX8_findEight_30 ?_
    refine Z_callVi h md_X8_halve sv_X8_halve lk_X8_169 zcX8 rfl ⟨by decide, by omega⟩ rfl rfl rfl rfl (Nat.le_of_ble_eq_true rfl) dX8_findEight_31 ⟨by decide, Nat.le_of_ble_eq_true rfl⟩ ⟨Nat.zero_le _, Nat.zero_le _⟩ ?_
    intro r4 μ5 h
    refine Z_if_ne (tgt := 40) dX8_findEight_34 (by decide) (fun c6 => ?_) (fun c6 => ?_)
    · have h := h.1 c6
      refine Z_iload dX8_findEight_40 rfl ?_
      refine Z_i2l dX8_findEight_42 ?_
      refine Z_aload_n dX8_findEight_43 rfl ?_
      refine Y_gi 17 zcX8 fl_X8_157 ⟨by decide, by omega⟩ rfl rfl rfl (by decide) dX8_findEight_44 rfl ?_
      refine Z_i2l dX8_findEight_47 ?_
      refine Z_iconst dX8_findEight_48 ?_
      refine Z_lshl dX8_findEight_49 ?_
      refine Z_lor dX8_findEight_50 ?_
      obtain ⟨v7, ev7⟩ : ∃ z : Int, z = zlor (wr x5) (zlshl (wr (μ5 127 17)) 4) := ⟨_, rfl⟩
      have h := h v7 ev7
      refine Z_nml ev7 ?_
      refine Z_lstore (lv2 := [some (Rv G 127), some (Lv x1), none, some (Lv x3), none, some (Iv x5), some (Lv v7), none, none, none]) dX8_findEight_51 rfl (by decide) rfl ?_
      refine Z_aload_n dX8_findEight_53 rfl ?_
      refine Z_aload_n dX8_findEight_54 rfl ?_
      refine Z_gr (t := 135) zcX8 fl_X8_44 ⟨by decide, by omega⟩ rfl rfl rfl (by decide) (by decide) dX8_findEight_55 ?_
      refine Z_iconst dX8_findEight_58 ?_
      refine Z_callVv h md_X8_findFour sv_X8_findFour lk_X8_177 zcX8 rfl ⟨by decide, by omega⟩ rfl rfl rfl rfl (Nat.le_of_ble_eq_true rfl) dX8_findEight_59 ⟨by decide, Nat.le_of_ble_eq_true rfl⟩ ⟨Nat.zero_le _, Nat.zero_le _⟩ ?_
      intro μ9 h
      refine Z_aload_n dX8_findEight_62 rfl ?_
      refine Y_gl 18 zcX8 fl_X8_160 ⟨by decide, by omega⟩ rfl rfl rfl (by decide) dX8_findEight_63 rfl ?_
      obtain ⟨v10, ev10⟩ : ∃ z : Int, z = μ9 127 18 := ⟨_, rfl⟩
      have h := h v10 ev10
      refine Z_nml ev10 ?_
      refine Z_lstore (lv2 := [some (Rv G 127), some (Lv x1), none, some (Lv x3), none, some (Iv x5), some (Lv v7), none, some (Lv v10), none]) dX8_findEight_66 rfl (by decide) rfl ?_
      refine Z_lload dX8_findEight_68 rfl ?_
      refine Z_aload_n dX8_findEight_70 rfl ?_
      refine Y_gl 19 zcX8 fl_X8_166 ⟨by decide, by omega⟩ rfl rfl rfl (by decide) dX8_findEight_71 rfl ?_
      refine Z_bipush dX8_findEight_74 (by decide) ?_
      refine Z_lshl dX8_findEight_76 ?_
      refine Z_lor dX8_findEight_77 ?_
      obtain ⟨v11, ev11⟩ : ∃ z : Int, z = zlor v7 (zlshl (μ9 127 19) 8) := ⟨_, rfl⟩
      have h := h v11 ev11
      refine Z_nml ev11 ?_
      refine Z_lstore (lv2 := [some (Rv G 127), some (Lv x1), none, some (Lv x3), none, some (Iv x5), some (Lv v11), none, some (Lv v10), none]) dX8_findEight_78 rfl (by decide) rfl ?_
      refine Z_aload_n dX8_findEight_80 rfl ?_
      refine Z_aload_n dX8_findEight_81 rfl ?_
      refine Z_gr (t := 135) zcX8 fl_X8_44 ⟨by decide, by omega⟩ rfl rfl rfl (by decide) (by decide) dX8_findEight_82 ?_
      refine Z_iconst dX8_findEight_85 ?_
      refine Z_callVv h md_X8_findFour sv_X8_findFour lk_X8_177 zcX8 rfl ⟨by decide, by omega⟩ rfl rfl rfl rfl (Nat.le_of_ble_eq_true rfl) dX8_findEight_86 ⟨by decide, Nat.le_of_ble_eq_true rfl⟩ ⟨Nat.zero_le _, Nat.zero_le _⟩ ?_
      intro μ13 h
      refine Z_lload_n dX8_findEight_89 rfl ?_
      refine Z_lload dX8_findEight_90 rfl ?_
      refine Z_aload_n dX8_findEight_92 rfl ?_
      refine Y_gl 18 zcX8 fl_X8_160 ⟨by decide, by omega⟩ rfl rfl rfl (by decide) dX8_findEight_93 rfl ?_
      refine Z_lmul dX8_findEight_96 ?_
      refine Z_ladd dX8_findEight_97 ?_
      obtain ⟨v14, ev14⟩ : ∃ z : Int, z = x1 + (v10 * (μ13 127 18)) := ⟨_, rfl⟩
      have h := h v14 ev14
      refine Z_nml ev14 ?_
      refine Z_lstore_n (lv2 := [some (Rv G 127), some (Lv v14), none, some (Lv x3), none, some (Iv x5), some (Lv v11), none, some (Lv v10), none]) dX8_findEight_98 rfl (by decide) rfl ?_
      refine Z_lload dX8_findEight_99 rfl ?_
      refine Z_aload_n dX8_findEight_101 rfl ?_
      refine Y_gl 19 zcX8 fl_X8_166 ⟨by decide, by omega⟩ rfl rfl rfl (by decide) dX8_findEight_102 rfl ?_
      refine Z_bipush dX8_findEight_105 (by decide) ?_
      refine Z_lshl dX8_findEight_107 ?_
      refine Z_lor dX8_findEight_108 ?_
      obtain ⟨v15, ev15⟩ : ∃ z : Int, z = zlor v11 (zlshl (μ13 127 19) 14) := ⟨_, rfl⟩
      have h := h v15 ev15
      refine Z_nml ev15 ?_
      refine Z_lstore (lv2 := [some (Rv G 127), some (Lv v14), none, some (Lv x3), none, some (Iv x5), some (Lv v15), none, some (Lv v10), none]) dX8_findEight_109 rfl (by decide) rfl ?_
      refine Z_lload_n dX8_findEight_111 rfl ?_
      refine Z_lconst (a := 0) dX8_findEight_112 (by decide) ?_
      refine Z_lcmp dX8_findEight_113 ?_
      refine Z_if_lt (tgt := 124) dX8_findEight_114 (by decide) (fun c16 => ?_) (fun c16 => ?_)
      · have h := h.1 c16
        refine Z_lload dX8_findEight_124 rfl ?_
        refine Z_goto (tgt := 130) dX8_findEight_126 (by decide) ?_
        refine Z_lstore_n (lv2 := [some (Rv G 127), some (Lv v14), none, some (Lv v15), none, some (Iv x5), some (Lv v15), none, some (Lv v10), none]) dX8_findEight_130 rfl (by decide) rfl ?_
        refine Z_iinc (lv2 := [some (Rv G 127), some (Lv v14), none, some (Lv v15), none, some (Iv (x5 + 1)), some (Lv v15), none, some (Lv v10), none]) dX8_findEight_131 rfl rfl (by decide) rfl ?_
        refine Z_goto (tgt := 9) dX8_findEight_134 (by decide) ?_
        exact Z_cut h ⟨rfl, rfl, trivial, rfl, trivial, rfl, trivial, trivial, trivial, trivial, trivial⟩
      · have h := h.2 c16
        refine Z_lload dX8_findEight_117 rfl ?_
        refine Z_lload_n dX8_findEight_119 rfl ?_
        refine Z_lcmp dX8_findEight_120 ?_
        refine Z_if_ge (tgt := 129) dX8_findEight_121 (by decide) (fun c17 => ?_) (fun c17 => ?_)
        · have h := h.1 c17
          refine Z_lload_n dX8_findEight_129 rfl ?_
          refine Z_lstore_n (lv2 := [some (Rv G 127), some (Lv v14), none, some (Lv x3), none, some (Iv x5), some (Lv v15), none, some (Lv v10), none]) dX8_findEight_130 rfl (by decide) rfl ?_
          refine Z_iinc (lv2 := [some (Rv G 127), some (Lv v14), none, some (Lv x3), none, some (Iv (x5 + 1)), some (Lv v15), none, some (Lv v10), none]) dX8_findEight_131 rfl rfl (by decide) rfl ?_
          refine Z_goto (tgt := 9) dX8_findEight_134 (by decide) ?_
          exact Z_cut h ⟨rfl, rfl, trivial, rfl, trivial, rfl, trivial, trivial, trivial, trivial, trivial⟩
        · have h := h.2 c17
          refine Z_lload dX8_findEight_124 rfl ?_
          refine Z_goto (tgt := 130) dX8_findEight_126 (by decide) ?_
          refine Z_lstore_n (lv2 := [some (Rv G 127), some (Lv v14), none, some (Lv v15), none, some (Iv x5), some (Lv v15), none, some (Lv v10), none]) dX8_findEight_130 rfl (by decide) rfl ?_
          refine Z_iinc (lv2 := [some (Rv G 127), some (Lv v14), none, some (Lv v15), none, some (Iv (x5 + 1)), some (Lv v15), none, some (Lv v10), none]) dX8_findEight_131 rfl rfl (by decide) rfl ?_
          refine Z_goto (tgt := 9) dX8_findEight_134 (by decide) ?_
          exact Z_cut h ⟨rfl, rfl, trivial, rfl, trivial, rfl, trivial, trivial, trivial, trivial, trivial⟩
    · have h := h.2 c6
      refine Z_goto (tgt := 131) dX8_findEight_37 (by decide) ?_
      refine Z_iinc (lv2 := [some (Rv G 127), some (Lv x1), none, some (Lv x3), none, some (Iv (x5 + 1)), none, none, none, none]) dX8_findEight_131 rfl rfl (by decide) rfl ?_
      refine Z_goto (tgt := 9) dX8_findEight_134 (by decide) ?_
      exact Z_cut h ⟨rfl, rfl, trivial, rfl, trivial, rfl, trivial, trivial, trivial, trivial, trivial⟩
abbrev mX8_order (G : zG) (n : Nat) (x1 x2 x3 x4 : Int) (μ : zM) (K : Int → zM → Prop) : Prop := zMt G n 3 yX8_order cX8_order 11 (some .int) [Rv G 127, Iv x1, Iv x2, Iv x3, Iv x4] μ (zKi K)
abbrev pX8_order (G : zG) (n : Nat) (K : Int → zM → Prop) (pc : Nat) (lv : List (Option Value)) (st : List Value) (μ : zM) : Prop := Z G (zrm 3 0 0) RX8 "order" cX8_order 11 (some .int) (zPh G n (zKi K)) 0 0 pc lv st (zE G n μ)
theorem eX8_order {G : zG} {n : Nat} (hn : 154 ≤ n) {x1 x2 x3 x4 : Int} {μ : zM} {K : Int → zM → Prop}
    (h : (∀ μ1 : zM, μ1 = zu μ 127 0 0 → mX8_isSheet G n x2 μ1 (fun r2 μ3 => ((¬ wr r2 = 0 → (mX8_isLane G n x3 μ3 (fun r5 μ6 => ((wr r5 = 0 → (K ((-2)) μ6)) ∧ (¬ (wr r5 = 0) → (mX8_within G n x1 1 3 μ6 (fun r8 μ9 => ((¬ wr r8 = 0 → (∀ v11 : Int, v11 = zshl 1 x1 → mX8_against G n x2 x3 x4 v11 μ9 (fun r12 μ13 => ((wr r12 = 0 → (∀ v15 : Int, v15 = (60 * x2) + x4 → pX8_order G n K 73 [some (Rv G 127), some (Iv x1), none, none, none, some (Iv v11), none, some (Iv v15), some (Iv 0), some (Iv 0), none] [] μ13)) ∧ (¬ (wr r12 = 0) → (K r12 μ13)))))) ∧ (wr r8 = 0 → (K ((-2)) μ9)))))))))) ∧ (wr r2 = 0 → (K ((-1)) μ3)))))) :
    mX8_order G n x1 x2 x3 x4 μ K := by
  refine zMt_of (lv := [some (Rv G 127), some (Iv x1), some (Iv x2), some (Iv x3), some (Iv x4), none, none, none, none, none, none]) (by decide) rfl (Nat.le_of_ble_eq_true rfl) ?_
  show pX8_order G n K 0 [some (Rv G 127), some (Iv x1), some (Iv x2), some (Iv x3), some (Iv x4), none, none, none, none, none, none] [] μ
  refine Z_aload_n dX8_order_0 rfl ?_
  refine Z_iconst dX8_order_1 ?_
  refine Y_pi 0 zcX8 fk_X8_107 ⟨by decide, by omega⟩ rfl rfl rfl (by decide) rfl (tyX8_ok 0 (by decide)) dX8_order_2 rfl ?_
  obtain ⟨μ1, eμ1⟩ : ∃ z : zM, z = zu μ 127 0 0 := ⟨_, rfl⟩
  have h := h μ1 eμ1
  refine Z_mem eμ1 ?_
  refine Z_iload_n dX8_order_5 rfl ?_
  refine Z_callSi h md_X8_isSheet sv_X8_isSheet lk_X8_191 rfl rfl (Nat.le_of_ble_eq_true rfl) dX8_order_6 ⟨by decide, Nat.le_of_ble_eq_true rfl⟩ ⟨Nat.zero_le _, Nat.zero_le _⟩ ?_
  intro r2 μ3 h
  refine Z_if_ne (tgt := 14) dX8_order_9 (by decide) (fun c4 => ?_) (fun c4 => ?_)
  · have h := h.1 c4
    refine Z_iload_n dX8_order_14 rfl ?_
    refine Z_callSi h md_X8_isLane sv_X8_isLane lk_X8_194 rfl rfl (Nat.le_of_ble_eq_true rfl) dX8_order_15 ⟨by decide, Nat.le_of_ble_eq_true rfl⟩ ⟨Nat.zero_le _, Nat.zero_le _⟩ ?_
    intro r5 μ6 h
    refine Z_if_eq (tgt := 30) dX8_order_18 (by decide) (fun c7 => ?_) (fun c7 => ?_)
    · have h := h.1 c7
      refine Z_bipush dX8_order_30 (by decide) ?_
      exact Z_ireturn dX8_order_32 ⟨_, rfl, h⟩
    · have h := h.2 c7
      refine Z_iload_n dX8_order_21 rfl ?_
      refine Z_iconst dX8_order_22 ?_
      refine Z_iconst dX8_order_23 ?_
      refine Z_callSi h md_X8_within sv_X8_within lk_X8_116 rfl rfl (Nat.le_of_ble_eq_true rfl) dX8_order_24 ⟨by decide, Nat.le_of_ble_eq_true rfl⟩ ⟨Nat.zero_le _, Nat.zero_le _⟩ ?_
      intro r8 μ9 h
      refine Z_if_ne (tgt := 33) dX8_order_27 (by decide) (fun c10 => ?_) (fun c10 => ?_)
      · have h := h.1 c10
        refine Z_iconst dX8_order_33 ?_
        refine Z_iload_n dX8_order_34 rfl ?_
        refine Z_ishl dX8_order_35 ?_
        obtain ⟨v11, ev11⟩ : ∃ z : Int, z = zshl 1 x1 := ⟨_, rfl⟩
        have h := h v11 ev11
        refine Z_nmi ev11 ?_
        refine Z_istore (lv2 := [some (Rv G 127), some (Iv x1), some (Iv x2), some (Iv x3), some (Iv x4), some (Iv v11), none, none, none, none, none]) dX8_order_36 rfl (by decide) rfl ?_
        refine Z_aload_n dX8_order_38 rfl ?_
        refine Z_iload_n dX8_order_39 rfl ?_
        refine Z_iload_n dX8_order_40 rfl ?_
        refine Z_iload dX8_order_41 rfl ?_
        refine Z_iload dX8_order_43 rfl ?_
        refine Z_callVi h md_X8_against sv_X8_against lk_X8_197 zcX8 rfl ⟨by decide, by omega⟩ rfl rfl rfl rfl (Nat.le_of_ble_eq_true rfl) dX8_order_45 ⟨by decide, Nat.le_of_ble_eq_true rfl⟩ ⟨Nat.zero_le _, Nat.zero_le _⟩ ?_
        intro r12 μ13 h
        refine Z_istore (lv2 := [some (Rv G 127), some (Iv x1), some (Iv x2), some (Iv x3), some (Iv x4), some (Iv v11), some (Iv r12), none, none, none, none]) dX8_order_48 rfl (by decide) rfl ?_
        refine Z_iload dX8_order_50 rfl ?_
        refine Z_if_eq (tgt := 58) dX8_order_52 (by decide) (fun c14 => ?_) (fun c14 => ?_)
        · have h := h.1 c14
          refine Z_bipush dX8_order_58 (by decide) ?_
          refine Z_iload_n dX8_order_60 rfl ?_
          refine Z_imul dX8_order_61 ?_
          refine Z_iload dX8_order_62 rfl ?_
          refine Z_iadd dX8_order_64 ?_
          obtain ⟨v15, ev15⟩ : ∃ z : Int, z = (60 * x2) + x4 := ⟨_, rfl⟩
          have h := h v15 ev15
          refine Z_nmi ev15 ?_
          refine Z_istore (lv2 := [some (Rv G 127), some (Iv x1), some (Iv x2), some (Iv x3), some (Iv x4), some (Iv v11), some (Iv r12), some (Iv v15), none, none, none]) dX8_order_65 rfl (by decide) rfl ?_
          refine Z_iconst dX8_order_67 ?_
          refine Z_istore (lv2 := [some (Rv G 127), some (Iv x1), some (Iv x2), some (Iv x3), some (Iv x4), some (Iv v11), some (Iv r12), some (Iv v15), some (Iv 0), none, none]) dX8_order_68 rfl (by decide) rfl ?_
          refine Z_iconst dX8_order_70 ?_
          refine Z_istore (lv2 := [some (Rv G 127), some (Iv x1), some (Iv x2), some (Iv x3), some (Iv x4), some (Iv v11), some (Iv r12), some (Iv v15), some (Iv 0), some (Iv 0), none]) dX8_order_71 rfl (by decide) rfl ?_
          exact Z_cut h ⟨rfl, rfl, trivial, trivial, trivial, rfl, trivial, rfl, rfl, rfl, trivial, trivial⟩
        · have h := h.2 c14
          refine Z_iload dX8_order_55 rfl ?_
          exact Z_ireturn dX8_order_57 ⟨_, rfl, h⟩
      · have h := h.2 c10
        refine Z_bipush dX8_order_30 (by decide) ?_
        exact Z_ireturn dX8_order_32 ⟨_, rfl, h⟩
  · have h := h.2 c4
    refine Z_iconst dX8_order_12 ?_
    exact Z_ireturn dX8_order_13 ⟨_, rfl, h⟩
theorem bX8_order_73 {G : zG} {n : Nat} (hn : 154 ≤ n) {x1 x5 x7 x8 x9 : Int} {μ : zM} {K : Int → zM → Prop}
    (h : (((wr x5 ≤ wr x9 → (∀ μ2 : zM, μ2 = zu μ 127 12 x1 → pX8_order G n K 142 [some (Rv G 127), none, none, none, none, some (Iv x5), none, some (Iv x7), none, some (Iv 0), none] [] μ2)) ∧ (¬ (wr x5 ≤ wr x9) → ((0 ≤ wr (x7 + x9) ∧ wr (x7 + x9) < 240) ∧ ∀ v4 : Int, v4 = μ 139 (wr (x7 + x9)) → mX8_within G n v4 0 (x5 - 1) μ (fun r5 μ6 => ((wr r5 = 0 → (K ((-2)) μ6)) ∧ (¬ (wr r5 = 0) → (((¬ wr (zand (zshr x8 v4) 1) = wr 1 → (∀ v9 : Int, v9 = zor x8 (zshl 1 v4) → pX8_order G n K 73 [some (Rv G 127), some (Iv x1), none, none, none, some (Iv x5), none, some (Iv x7), some (Iv v9), some (Iv (x9 + 1)), none] [] μ6)) ∧ (wr (zand (zshr x8 v4) 1) = wr 1 → (K ((-2)) μ6)))))))))))) :
    pX8_order G n K 73 [some (Rv G 127), some (Iv x1), none, none, none, some (Iv x5), none, some (Iv x7), some (Iv x8), some (Iv x9), none] [] μ := by
  refine Z_iload dX8_order_73 rfl ?_
  refine Z_iload dX8_order_75 rfl ?_
  refine Z_icmp_ge (tgt := 134) dX8_order_77 (by decide) (fun c1 => ?_) (fun c1 => ?_)
  · have h := h.1 c1
    refine Z_aload_n dX8_order_134 rfl ?_
    refine Z_iload_n dX8_order_135 rfl ?_
    refine Y_pi 12 zcX8 fk_X8_35 ⟨by decide, by omega⟩ rfl rfl rfl (by decide) rfl (tyX8_ok 12 (by decide)) dX8_order_136 rfl ?_
    obtain ⟨μ2, eμ2⟩ : ∃ z : zM, z = zu μ 127 12 x1 := ⟨_, rfl⟩
    have h := h μ2 eμ2
    refine Z_mem eμ2 ?_
    refine Z_iconst dX8_order_139 ?_
    refine Z_istore (lv2 := [some (Rv G 127), some (Iv x1), none, none, none, some (Iv x5), none, some (Iv x7), some (Iv x8), some (Iv 0), none]) dX8_order_140 rfl (by decide) rfl ?_
    exact Z_cut h ⟨rfl, trivial, trivial, trivial, trivial, rfl, trivial, rfl, trivial, rfl, trivial, trivial⟩
  · have h := h.2 c1
    refine Z_aload_n dX8_order_80 rfl ?_
    refine Z_gr (t := 139) zcX8 fl_X8_56 ⟨by decide, by omega⟩ rfl rfl rfl (by decide) (by decide) dX8_order_81 ?_
    refine Z_iload dX8_order_84 rfl ?_
    refine Z_iload dX8_order_86 rfl ?_
    refine Z_iadd dX8_order_88 ?_
    obtain ⟨b3, h⟩ := h
    refine Z_iald (zin_c (by decide) (by omega) (by decide) (by decide) b3) dX8_order_89 ?_
    obtain ⟨v4, ev4⟩ : ∃ z : Int, z = μ 139 (wr (x7 + x9)) := ⟨_, rfl⟩
    have h := h v4 ev4
    refine Z_nmi ev4 ?_
    refine Z_istore (lv2 := [some (Rv G 127), some (Iv x1), none, none, none, some (Iv x5), none, some (Iv x7), some (Iv x8), some (Iv x9), some (Iv v4)]) dX8_order_90 rfl (by decide) rfl ?_
    refine Z_iload dX8_order_92 rfl ?_
    refine Z_iconst dX8_order_94 ?_
    refine Z_iload dX8_order_95 rfl ?_
    refine Z_iconst dX8_order_97 ?_
    refine Z_isub dX8_order_98 ?_
    refine Z_callSi h md_X8_within sv_X8_within lk_X8_116 rfl rfl (Nat.le_of_ble_eq_true rfl) dX8_order_99 ⟨by decide, Nat.le_of_ble_eq_true rfl⟩ ⟨Nat.zero_le _, Nat.zero_le _⟩ ?_
    intro r5 μ6 h
    refine Z_if_eq (tgt := 116) dX8_order_102 (by decide) (fun c7 => ?_) (fun c7 => ?_)
    · have h := h.1 c7
      refine Z_bipush dX8_order_116 (by decide) ?_
      exact Z_ireturn dX8_order_118 ⟨_, rfl, h⟩
    · have h := h.2 c7
      refine Z_iload dX8_order_105 rfl ?_
      refine Z_iload dX8_order_107 rfl ?_
      refine Z_ishr dX8_order_109 ?_
      refine Z_iconst dX8_order_110 ?_
      refine Z_iand dX8_order_111 ?_
      refine Z_iconst dX8_order_112 ?_
      refine Z_icmp_ne (tgt := 119) dX8_order_113 (by decide) (fun c8 => ?_) (fun c8 => ?_)
      · have h := h.1 c8
        refine Z_iload dX8_order_119 rfl ?_
        refine Z_iconst dX8_order_121 ?_
        refine Z_iload dX8_order_122 rfl ?_
        refine Z_ishl dX8_order_124 ?_
        refine Z_ior dX8_order_125 ?_
        obtain ⟨v9, ev9⟩ : ∃ z : Int, z = zor x8 (zshl 1 v4) := ⟨_, rfl⟩
        have h := h v9 ev9
        refine Z_nmi ev9 ?_
        refine Z_istore (lv2 := [some (Rv G 127), some (Iv x1), none, none, none, some (Iv x5), none, some (Iv x7), some (Iv v9), some (Iv x9), some (Iv v4)]) dX8_order_126 rfl (by decide) rfl ?_
        refine Z_iinc (lv2 := [some (Rv G 127), some (Iv x1), none, none, none, some (Iv x5), none, some (Iv x7), some (Iv v9), some (Iv (x9 + 1)), some (Iv v4)]) dX8_order_128 rfl rfl (by decide) rfl ?_
        refine Z_goto (tgt := 73) dX8_order_131 (by decide) ?_
        exact Z_cut h ⟨rfl, rfl, trivial, trivial, trivial, rfl, trivial, rfl, rfl, rfl, trivial, trivial⟩
      · have h := h.2 c8
        refine Z_bipush dX8_order_116 (by decide) ?_
        exact Z_ireturn dX8_order_118 ⟨_, rfl, h⟩
theorem bX8_order_142 {G : zG} {n : Nat} (hn : 154 ≤ n) {x5 x7 x9 : Int} {μ : zM} {K : Int → zM → Prop}
    (h : (((wr x5 ≤ wr x9 → (K x5 μ)) ∧ (¬ (wr x5 ≤ wr x9) → ((0 ≤ wr (x7 + x9) ∧ wr (x7 + x9) < 240) ∧ (0 ≤ wr x9 ∧ wr x9 < 8) ∧ ∀ μ4 : zM, μ4 = zu μ 133 (wr x9) (μ 139 (wr (x7 + x9))) → pX8_order G n K 142 [some (Rv G 127), none, none, none, none, some (Iv x5), none, some (Iv x7), none, some (Iv (x9 + 1)), none] [] μ4))))) :
    pX8_order G n K 142 [some (Rv G 127), none, none, none, none, some (Iv x5), none, some (Iv x7), none, some (Iv x9), none] [] μ := by
  refine Z_iload dX8_order_142 rfl ?_
  refine Z_iload dX8_order_144 rfl ?_
  refine Z_icmp_ge (tgt := 172) dX8_order_146 (by decide) (fun c1 => ?_) (fun c1 => ?_)
  · have h := h.1 c1
    refine Z_iload dX8_order_172 rfl ?_
    exact Z_ireturn dX8_order_174 ⟨_, rfl, h⟩
  · have h := h.2 c1
    refine Z_aload_n dX8_order_149 rfl ?_
    refine Z_gr (t := 133) zcX8 fl_X8_38 ⟨by decide, by omega⟩ rfl rfl rfl (by decide) (by decide) dX8_order_150 ?_
    refine Z_iload dX8_order_153 rfl ?_
    refine Z_aload_n dX8_order_155 rfl ?_
    refine Z_gr (t := 139) zcX8 fl_X8_56 ⟨by decide, by omega⟩ rfl rfl rfl (by decide) (by decide) dX8_order_156 ?_
    refine Z_iload dX8_order_159 rfl ?_
    refine Z_iload dX8_order_161 rfl ?_
    refine Z_iadd dX8_order_163 ?_
    obtain ⟨b2, h⟩ := h
    refine Z_iald (zin_c (by decide) (by omega) (by decide) (by decide) b2) dX8_order_164 ?_
    obtain ⟨b3, h⟩ := h
    refine Z_iast (zin_c (by decide) (by omega) (by decide) (by decide) b3) dX8_order_165 ?_
    obtain ⟨μ4, eμ4⟩ : ∃ z : zM, z = zu μ 133 (wr x9) (μ 139 (wr (x7 + x9))) := ⟨_, rfl⟩
    have h := h μ4 eμ4
    refine Z_mem eμ4 ?_
    refine Z_iinc (lv2 := [some (Rv G 127), none, none, none, none, some (Iv x5), none, some (Iv x7), none, some (Iv (x9 + 1)), none]) dX8_order_166 rfl rfl (by decide) rfl ?_
    refine Z_goto (tgt := 142) dX8_order_169 (by decide) ?_
    exact Z_cut h ⟨rfl, trivial, trivial, trivial, trivial, rfl, trivial, rfl, trivial, rfl, trivial, trivial⟩
abbrev mX8_outlet (G : zG) (n : Nat) (x1 : Int) (μ : zM) (K : Int → zM → Prop) : Prop := zMt G n 3 yX8_outlet cX8_outlet 2 (some .int) [Rv G 127, Iv x1] μ (zKi K)
abbrev pX8_outlet (G : zG) (n : Nat) (K : Int → zM → Prop) (pc : Nat) (lv : List (Option Value)) (st : List Value) (μ : zM) : Prop := Z G (zrm 3 0 0) RX8 "outlet" cX8_outlet 2 (some .int) (zPh G n (zKi K)) 0 0 pc lv st (zE G n μ)
theorem eX8_outlet {G : zG} {n : Nat} (hn : 154 ≤ n) {x1 : Int} {μ : zM} {K : Int → zM → Prop}
    (h : (mX8_isEnd G n x1 μ (fun r1 μ2 => ((wr r1 = 0 → (K ((-1)) μ2)) ∧ (¬ (wr r1 = 0) → ((0 ≤ wr x1 ∧ wr x1 < 8) ∧ K (μ2 133 (wr x1)) μ2)))))) :
    mX8_outlet G n x1 μ K := by
  refine zMt_of (lv := [some (Rv G 127), some (Iv x1)]) (by decide) rfl (Nat.le_of_ble_eq_true rfl) ?_
  show pX8_outlet G n K 0 [some (Rv G 127), some (Iv x1)] [] μ
  refine Z_aload_n dX8_outlet_0 rfl ?_
  refine Z_iload_n dX8_outlet_1 rfl ?_
  refine Z_callVi h md_X8_isEnd sv_X8_isEnd lk_X8_204 zcX8 rfl ⟨by decide, by omega⟩ rfl rfl rfl rfl (Nat.le_of_ble_eq_true rfl) dX8_outlet_2 ⟨by decide, Nat.le_of_ble_eq_true rfl⟩ ⟨Nat.zero_le _, Nat.zero_le _⟩ ?_
  intro r1 μ2 h
  refine Z_if_eq (tgt := 17) dX8_outlet_5 (by decide) (fun c3 => ?_) (fun c3 => ?_)
  · have h := h.1 c3
    refine Z_iconst dX8_outlet_17 ?_
    exact Z_ireturn dX8_outlet_18 ⟨_, rfl, h⟩
  · have h := h.2 c3
    refine Z_aload_n dX8_outlet_8 rfl ?_
    refine Z_gr (t := 133) zcX8 fl_X8_38 ⟨by decide, by omega⟩ rfl rfl rfl (by decide) (by decide) dX8_outlet_9 ?_
    refine Z_iload_n dX8_outlet_12 rfl ?_
    obtain ⟨b4, h⟩ := h
    refine Z_iald (zin_c (by decide) (by omega) (by decide) (by decide) b4) dX8_outlet_13 ?_
    refine Z_goto (tgt := 18) dX8_outlet_14 (by decide) ?_
    exact Z_ireturn dX8_outlet_18 ⟨_, rfl, h⟩
abbrev mX8_carriedEight (G : zG) (n : Nat) (x0 x1 : Int) (μ : zM) (K : Int → zM → Prop) : Prop := zMt G n 3 yX8_carriedEight cX8_carriedEight 4 (some .int) [Iv x0, Iv x1] μ (zKi K)
abbrev pX8_carriedEight (G : zG) (n : Nat) (K : Int → zM → Prop) (pc : Nat) (lv : List (Option Value)) (st : List Value) (μ : zM) : Prop := Z G (zrm 3 0 0) RX8 "carriedEight" cX8_carriedEight 4 (some .int) (zPh G n (zKi K)) 0 0 pc lv st (zE G n μ)
theorem eX8_carriedEight {G : zG} {n : Nat} (hn : 154 ≤ n) {x0 x1 : Int} {μ : zM} {K : Int → zM → Prop}
    (h : (∀ v1 : Int, v1 = zxor (zand (zshr x1 (zdiv x0 2)) 1) (zand x0 1) → mX8_carriedFour G n (zdiv x0 2) (zshr x1 (8 + (6 * v1))) μ (fun r2 μ3 => K ((2 * r2) + (zxor v1 (zand (zshr x1 (4 + r2)) 1))) μ3))) :
    mX8_carriedEight G n x0 x1 μ K := by
  refine zMt_of (lv := [some (Iv x0), some (Iv x1), none, none]) (by decide) rfl (Nat.le_of_ble_eq_true rfl) ?_
  show pX8_carriedEight G n K 0 [some (Iv x0), some (Iv x1), none, none] [] μ
  refine Z_iload_n dX8_carriedEight_0 rfl ?_
  refine Z_iload_n dX8_carriedEight_1 rfl ?_
  refine Z_iconst dX8_carriedEight_2 ?_
  refine Z_idiv dX8_carriedEight_3 (by decide) ?_
  refine Z_ishr dX8_carriedEight_4 ?_
  refine Z_iconst dX8_carriedEight_5 ?_
  refine Z_iand dX8_carriedEight_6 ?_
  refine Z_iload_n dX8_carriedEight_7 rfl ?_
  refine Z_iconst dX8_carriedEight_8 ?_
  refine Z_iand dX8_carriedEight_9 ?_
  refine Z_ixor dX8_carriedEight_10 ?_
  obtain ⟨v1, ev1⟩ : ∃ z : Int, z = zxor (zand (zshr x1 (zdiv x0 2)) 1) (zand x0 1) := ⟨_, rfl⟩
  have h := h v1 ev1
  refine Z_nmi ev1 ?_
  refine Z_istore_n (lv2 := [some (Iv x0), some (Iv x1), some (Iv v1), none]) dX8_carriedEight_11 rfl (by decide) rfl ?_
  refine Z_iload_n dX8_carriedEight_12 rfl ?_
  refine Z_iconst dX8_carriedEight_13 ?_
  refine Z_idiv dX8_carriedEight_14 (by decide) ?_
  refine Z_iload_n dX8_carriedEight_15 rfl ?_
  refine Z_bipush dX8_carriedEight_16 (by decide) ?_
  refine Z_bipush dX8_carriedEight_18 (by decide) ?_
  refine Z_iload_n dX8_carriedEight_20 rfl ?_
  refine Z_imul dX8_carriedEight_21 ?_
  refine Z_iadd dX8_carriedEight_22 ?_
  refine Z_ishr dX8_carriedEight_23 ?_
  refine Z_callSi h md_X8_carriedFour sv_X8_carriedFour lk_X8_210 rfl rfl (Nat.le_of_ble_eq_true rfl) dX8_carriedEight_24 ⟨by decide, Nat.le_of_ble_eq_true rfl⟩ ⟨Nat.zero_le _, Nat.zero_le _⟩ ?_
  intro r2 μ3 h
  refine Z_istore_n (lv2 := [some (Iv x0), some (Iv x1), some (Iv v1), some (Iv r2)]) dX8_carriedEight_27 rfl (by decide) rfl ?_
  refine Z_iconst dX8_carriedEight_28 ?_
  refine Z_iload_n dX8_carriedEight_29 rfl ?_
  refine Z_imul dX8_carriedEight_30 ?_
  refine Z_iload_n dX8_carriedEight_31 rfl ?_
  refine Z_iload_n dX8_carriedEight_32 rfl ?_
  refine Z_iconst dX8_carriedEight_33 ?_
  refine Z_iload_n dX8_carriedEight_34 rfl ?_
  refine Z_iadd dX8_carriedEight_35 ?_
  refine Z_ishr dX8_carriedEight_36 ?_
  refine Z_iconst dX8_carriedEight_37 ?_
  refine Z_iand dX8_carriedEight_38 ?_
  refine Z_ixor dX8_carriedEight_39 ?_
  refine Z_iadd dX8_carriedEight_40 ?_
  exact Z_ireturn dX8_carriedEight_41 ⟨_, rfl, h⟩
abbrev mX8_line (G : zG) (n : Nat) (x1 x2 : Int) (μ : zM) (K : Int → zM → Prop) : Prop := zMt G n 3 yX8_line cX8_line 3 (some .int) [Rv G 127, Iv x1, Iv x2] μ (zKi K)
abbrev pX8_line (G : zG) (n : Nat) (K : Int → zM → Prop) (pc : Nat) (lv : List (Option Value)) (st : List Value) (μ : zM) : Prop := Z G (zrm 3 0 0) RX8 "line" cX8_line 3 (some .int) (zPh G n (zKi K)) 0 0 pc lv st (zE G n μ)
theorem eX8_line {G : zG} {n : Nat} (hn : 154 ≤ n) {x1 x2 : Int} {μ : zM} {K : Int → zM → Prop}
    (h : (mX8_isEnd G n x1 μ (fun r1 μ2 => ((wr r1 = 0 → (K ((-1)) μ2)) ∧ (¬ (wr r1 = 0) → (mX8_within G n x2 0 ((μ2 127 12) - 1) μ2 (fun r4 μ5 => ((wr r4 = 0 → (K ((-1)) μ5)) ∧ (¬ (wr r4 = 0) → (mX8_lineOf G n x1 x2 μ5 (fun r7 μ8 => K r7 μ8))))))))))) :
    mX8_line G n x1 x2 μ K := by
  refine zMt_of (lv := [some (Rv G 127), some (Iv x1), some (Iv x2)]) (by decide) rfl (Nat.le_of_ble_eq_true rfl) ?_
  show pX8_line G n K 0 [some (Rv G 127), some (Iv x1), some (Iv x2)] [] μ
  refine Z_aload_n dX8_line_0 rfl ?_
  refine Z_iload_n dX8_line_1 rfl ?_
  refine Z_callVi h md_X8_isEnd sv_X8_isEnd lk_X8_204 zcX8 rfl ⟨by decide, by omega⟩ rfl rfl rfl rfl (Nat.le_of_ble_eq_true rfl) dX8_line_2 ⟨by decide, Nat.le_of_ble_eq_true rfl⟩ ⟨Nat.zero_le _, Nat.zero_le _⟩ ?_
  intro r1 μ2 h
  refine Z_if_eq (tgt := 31) dX8_line_5 (by decide) (fun c3 => ?_) (fun c3 => ?_)
  · have h := h.1 c3
    refine Z_iconst dX8_line_31 ?_
    exact Z_ireturn dX8_line_32 ⟨_, rfl, h⟩
  · have h := h.2 c3
    refine Z_iload_n dX8_line_8 rfl ?_
    refine Z_iconst dX8_line_9 ?_
    refine Z_aload_n dX8_line_10 rfl ?_
    refine Y_gi 12 zcX8 fl_X8_35 ⟨by decide, by omega⟩ rfl rfl rfl (by decide) dX8_line_11 rfl ?_
    refine Z_iconst dX8_line_14 ?_
    refine Z_isub dX8_line_15 ?_
    refine Z_callSi h md_X8_within sv_X8_within lk_X8_116 rfl rfl (Nat.le_of_ble_eq_true rfl) dX8_line_16 ⟨by decide, Nat.le_of_ble_eq_true rfl⟩ ⟨Nat.zero_le _, Nat.zero_le _⟩ ?_
    intro r4 μ5 h
    refine Z_if_eq (tgt := 31) dX8_line_19 (by decide) (fun c6 => ?_) (fun c6 => ?_)
    · have h := h.1 c6
      refine Z_iconst dX8_line_31 ?_
      exact Z_ireturn dX8_line_32 ⟨_, rfl, h⟩
    · have h := h.2 c6
      refine Z_aload_n dX8_line_22 rfl ?_
      refine Z_iload_n dX8_line_23 rfl ?_
      refine Z_iload_n dX8_line_24 rfl ?_
      refine Z_callVi h md_X8_lineOf sv_X8_lineOf lk_X8_216 zcX8 rfl ⟨by decide, by omega⟩ rfl rfl rfl rfl (Nat.le_of_ble_eq_true rfl) dX8_line_25 ⟨by decide, Nat.le_of_ble_eq_true rfl⟩ ⟨Nat.zero_le _, Nat.zero_le _⟩ ?_
      intro r7 μ8 h
      refine Z_goto (tgt := 32) dX8_line_28 (by decide) ?_
      exact Z_ireturn dX8_line_32 ⟨_, rfl, h⟩
abbrev mX8_clashOf (G : zG) (n : Nat) (x1 x2 : Int) (μ : zM) (K : Int → zM → Prop) : Prop := zMt G n 3 yX8_clashOf cX8_clashOf 4 (some .int) [Rv G 127, Iv x1, Iv x2] μ (zKi K)
abbrev pX8_clashOf (G : zG) (n : Nat) (K : Int → zM → Prop) (pc : Nat) (lv : List (Option Value)) (st : List Value) (μ : zM) : Prop := Z G (zrm 3 0 0) RX8 "clashOf" cX8_clashOf 4 (some .int) (zPh G n (zKi K)) 0 0 pc lv st (zE G n μ)
theorem eX8_clashOf {G : zG} {n : Nat} (hn : 154 ≤ n) {x1 x2 : Int} {μ : zM} {K : Int → zM → Prop}
    (h : (pX8_clashOf G n K 2 [some (Rv G 127), some (Iv x1), some (Iv x2), some (Iv 0)] [] μ)) :
    mX8_clashOf G n x1 x2 μ K := by
  refine zMt_of (lv := [some (Rv G 127), some (Iv x1), some (Iv x2), none]) (by decide) rfl (Nat.le_of_ble_eq_true rfl) ?_
  show pX8_clashOf G n K 0 [some (Rv G 127), some (Iv x1), some (Iv x2), none] [] μ
  refine Z_iconst dX8_clashOf_0 ?_
  refine Z_istore_n (lv2 := [some (Rv G 127), some (Iv x1), some (Iv x2), some (Iv 0)]) dX8_clashOf_1 rfl (by decide) rfl ?_
  exact Z_cut h ⟨rfl, rfl, rfl, rfl, trivial⟩
theorem bX8_clashOf_2 {G : zG} {n : Nat} (hn : 154 ≤ n) {x1 x2 x3 : Int} {μ : zM} {K : Int → zM → Prop}
    (h : (((wr (μ 127 12) ≤ wr x3 → (K ((-9)) μ)) ∧ (¬ (wr (μ 127 12) ≤ wr x3) → (mX8_lineOf G n x1 x3 μ (fun r2 μ3 => mX8_lineOf G n x2 x3 μ3 (fun r4 μ5 => ((¬ wr r2 = wr r4 → (pX8_clashOf G n K 2 [some (Rv G 127), some (Iv x1), some (Iv x2), some (Iv (x3 + 1))] [] μ5)) ∧ (wr r2 = wr r4 → (K x3 μ5)))))))))) :
    pX8_clashOf G n K 2 [some (Rv G 127), some (Iv x1), some (Iv x2), some (Iv x3)] [] μ := by
  refine Z_iload_n dX8_clashOf_2 rfl ?_
  refine Z_aload_n dX8_clashOf_3 rfl ?_
  refine Y_gi 12 zcX8 fl_X8_35 ⟨by decide, by omega⟩ rfl rfl rfl (by decide) dX8_clashOf_4 rfl ?_
  refine Z_icmp_ge (tgt := 33) dX8_clashOf_7 (by decide) (fun c1 => ?_) (fun c1 => ?_)
  · have h := h.1 c1
    refine Z_bipush dX8_clashOf_33 (by decide) ?_
    exact Z_ireturn dX8_clashOf_35 ⟨_, rfl, h⟩
  · have h := h.2 c1
    refine Z_aload_n dX8_clashOf_10 rfl ?_
    refine Z_iload_n dX8_clashOf_11 rfl ?_
    refine Z_iload_n dX8_clashOf_12 rfl ?_
    refine Z_callVi h md_X8_lineOf sv_X8_lineOf lk_X8_216 zcX8 rfl ⟨by decide, by omega⟩ rfl rfl rfl rfl (Nat.le_of_ble_eq_true rfl) dX8_clashOf_13 ⟨by decide, Nat.le_of_ble_eq_true rfl⟩ ⟨Nat.zero_le _, Nat.zero_le _⟩ ?_
    intro r2 μ3 h
    refine Z_aload_n dX8_clashOf_16 rfl ?_
    refine Z_iload_n dX8_clashOf_17 rfl ?_
    refine Z_iload_n dX8_clashOf_18 rfl ?_
    refine Z_callVi h md_X8_lineOf sv_X8_lineOf lk_X8_216 zcX8 rfl ⟨by decide, by omega⟩ rfl rfl rfl rfl (Nat.le_of_ble_eq_true rfl) dX8_clashOf_19 ⟨by decide, Nat.le_of_ble_eq_true rfl⟩ ⟨Nat.zero_le _, Nat.zero_le _⟩ ?_
    intro r4 μ5 h
    refine Z_icmp_ne (tgt := 27) dX8_clashOf_22 (by decide) (fun c6 => ?_) (fun c6 => ?_)
    · have h := h.1 c6
      refine Z_iinc (lv2 := [some (Rv G 127), some (Iv x1), some (Iv x2), some (Iv (x3 + 1))]) dX8_clashOf_27 rfl rfl (by decide) rfl ?_
      refine Z_goto (tgt := 2) dX8_clashOf_30 (by decide) ?_
      exact Z_cut h ⟨rfl, rfl, rfl, rfl, trivial⟩
    · have h := h.2 c6
      refine Z_iload_n dX8_clashOf_25 rfl ?_
      exact Z_ireturn dX8_clashOf_26 ⟨_, rfl, h⟩
abbrev mX8_sorter (G : zG) (n : Nat) (x1 : Int) (μ : zM) (K : Int → zM → Prop) : Prop := zMt G n 3 yX8_sorter cX8_sorter 5 (some .int) [Rv G 127, Iv x1] μ (zKi K)
abbrev pX8_sorter (G : zG) (n : Nat) (K : Int → zM → Prop) (pc : Nat) (lv : List (Option Value)) (st : List Value) (μ : zM) : Prop := Z G (zrm 3 0 0) RX8 "sorter" cX8_sorter 5 (some .int) (zPh G n (zKi K)) 0 0 pc lv st (zE G n μ)
theorem eX8_sorter {G : zG} {n : Nat} (hn : 154 ≤ n) {x1 : Int} {μ : zM} {K : Int → zM → Prop}
    (h : (mX8_within G n x1 0 5 μ (fun r1 μ2 => ((¬ wr r1 = 0 → (((wr 2 ≤ wr x1 → (((¬ wr x1 = wr 5 → (∀ v6 : Int, v6 = (-9) → ∀ v7 : Int, v7 = (zshl 1 (μ2 127 24)) - 1 → pX8_sorter G n K 91 [some (Rv G 127), some (Iv x1), some (Iv 0), some (Iv v6), some (Iv v7)] [] μ2)) ∧ (wr x1 = wr 5 → (pX8_sorter G n K 46 [some (Rv G 127), none, some (Iv 0), some (Iv 0), none] [] μ2))))) ∧ (¬ (wr 2 ≤ wr x1) → (((¬ wr x1 = 0 → (mX8_step G n (μ2 127 25) μ2 (fun r9 μ10 => K r9 μ10))) ∧ (wr x1 = 0 → (K (μ2 127 25) μ2)))))))) ∧ (wr r1 = 0 → (K ((-2)) μ2)))))) :
    mX8_sorter G n x1 μ K := by
  refine zMt_of (lv := [some (Rv G 127), some (Iv x1), none, none, none]) (by decide) rfl (Nat.le_of_ble_eq_true rfl) ?_
  show pX8_sorter G n K 0 [some (Rv G 127), some (Iv x1), none, none, none] [] μ
  refine Z_iload_n dX8_sorter_0 rfl ?_
  refine Z_iconst dX8_sorter_1 ?_
  refine Z_iconst dX8_sorter_2 ?_
  refine Z_callSi h md_X8_within sv_X8_within lk_X8_116 rfl rfl (Nat.le_of_ble_eq_true rfl) dX8_sorter_3 ⟨by decide, Nat.le_of_ble_eq_true rfl⟩ ⟨Nat.zero_le _, Nat.zero_le _⟩ ?_
  intro r1 μ2 h
  refine Z_if_ne (tgt := 12) dX8_sorter_6 (by decide) (fun c3 => ?_) (fun c3 => ?_)
  · have h := h.1 c3
    refine Z_iload_n dX8_sorter_12 rfl ?_
    refine Z_iconst dX8_sorter_13 ?_
    refine Z_icmp_ge (tgt := 37) dX8_sorter_14 (by decide) (fun c4 => ?_) (fun c4 => ?_)
    · have h := h.1 c4
      refine Z_iconst dX8_sorter_37 ?_
      refine Z_istore_n (lv2 := [some (Rv G 127), some (Iv x1), some (Iv 0), none, none]) dX8_sorter_38 rfl (by decide) rfl ?_
      refine Z_iload_n dX8_sorter_39 rfl ?_
      refine Z_iconst dX8_sorter_40 ?_
      refine Z_icmp_ne (tgt := 78) dX8_sorter_41 (by decide) (fun c5 => ?_) (fun c5 => ?_)
      · have h := h.1 c5
        refine Z_bipush dX8_sorter_78 (by decide) ?_
        obtain ⟨v6, ev6⟩ : ∃ z : Int, z = (-9) := ⟨_, rfl⟩
        have h := h v6 ev6
        refine Z_nmi ev6 ?_
        refine Z_istore_n (lv2 := [some (Rv G 127), some (Iv x1), some (Iv 0), some (Iv v6), none]) dX8_sorter_80 rfl (by decide) rfl ?_
        refine Z_iconst dX8_sorter_81 ?_
        refine Z_aload_n dX8_sorter_82 rfl ?_
        refine Y_gi 24 zcX8 fl_X8_62 ⟨by decide, by omega⟩ rfl rfl rfl (by decide) dX8_sorter_83 rfl ?_
        refine Z_ishl dX8_sorter_86 ?_
        refine Z_iconst dX8_sorter_87 ?_
        refine Z_isub dX8_sorter_88 ?_
        obtain ⟨v7, ev7⟩ : ∃ z : Int, z = (zshl 1 (μ2 127 24)) - 1 := ⟨_, rfl⟩
        have h := h v7 ev7
        refine Z_nmi ev7 ?_
        refine Z_istore (lv2 := [some (Rv G 127), some (Iv x1), some (Iv 0), some (Iv v6), some (Iv v7)]) dX8_sorter_89 rfl (by decide) rfl ?_
        exact Z_cut h ⟨rfl, rfl, rfl, rfl, rfl, trivial⟩
      · have h := h.2 c5
        refine Z_iconst dX8_sorter_44 ?_
        refine Z_istore_n (lv2 := [some (Rv G 127), some (Iv x1), some (Iv 0), some (Iv 0), none]) dX8_sorter_45 rfl (by decide) rfl ?_
        exact Z_cut h ⟨rfl, trivial, rfl, rfl, trivial, trivial⟩
    · have h := h.2 c4
      refine Z_iload_n dX8_sorter_17 rfl ?_
      refine Z_if_ne (tgt := 28) dX8_sorter_18 (by decide) (fun c8 => ?_) (fun c8 => ?_)
      · have h := h.1 c8
        refine Z_aload_n dX8_sorter_28 rfl ?_
        refine Z_aload_n dX8_sorter_29 rfl ?_
        refine Y_gi 25 zcX8 fl_X8_234 ⟨by decide, by omega⟩ rfl rfl rfl (by decide) dX8_sorter_30 rfl ?_
        refine Z_callVi h md_X8_step sv_X8_step lk_X8_243 zcX8 rfl ⟨by decide, by omega⟩ rfl rfl rfl rfl (Nat.le_of_ble_eq_true rfl) dX8_sorter_33 ⟨by decide, Nat.le_of_ble_eq_true rfl⟩ ⟨Nat.zero_le _, Nat.zero_le _⟩ ?_
        intro r9 μ10 h
        exact Z_ireturn dX8_sorter_36 ⟨_, rfl, h⟩
      · have h := h.2 c8
        refine Z_aload_n dX8_sorter_21 rfl ?_
        refine Y_gi 25 zcX8 fl_X8_234 ⟨by decide, by omega⟩ rfl rfl rfl (by decide) dX8_sorter_22 rfl ?_
        refine Z_goto (tgt := 36) dX8_sorter_25 (by decide) ?_
        exact Z_ireturn dX8_sorter_36 ⟨_, rfl, h⟩
  · have h := h.2 c3
    refine Z_bipush dX8_sorter_9 (by decide) ?_
    exact Z_ireturn dX8_sorter_11 ⟨_, rfl, h⟩
theorem bX8_sorter_46 {G : zG} {n : Nat} (hn : 154 ≤ n) {x2 x3 : Int} {μ : zM} {K : Int → zM → Prop}
    (h : (((wr (μ 127 25) ≤ wr x3 → (K x2 μ)) ∧ (¬ (wr (μ 127 25) ≤ wr x3) → (mX8_isIdle G n x3 μ (fun r2 μ3 => ((wr r2 = 0 → (pX8_sorter G n K 46 [some (Rv G 127), none, some (Iv (x2 + 0)), some (Iv (x3 + 1)), none] [] μ3)) ∧ (¬ (wr r2 = 0) → (pX8_sorter G n K 46 [some (Rv G 127), none, some (Iv (x2 + 1)), some (Iv (x3 + 1)), none] [] μ3))))))))) :
    pX8_sorter G n K 46 [some (Rv G 127), none, some (Iv x2), some (Iv x3), none] [] μ := by
  refine Z_iload_n dX8_sorter_46 rfl ?_
  refine Z_aload_n dX8_sorter_47 rfl ?_
  refine Y_gi 25 zcX8 fl_X8_234 ⟨by decide, by omega⟩ rfl rfl rfl (by decide) dX8_sorter_48 rfl ?_
  refine Z_icmp_ge (tgt := 76) dX8_sorter_51 (by decide) (fun c1 => ?_) (fun c1 => ?_)
  · have h := h.1 c1
    refine Z_iload_n dX8_sorter_76 rfl ?_
    exact Z_ireturn dX8_sorter_77 ⟨_, rfl, h⟩
  · have h := h.2 c1
    refine Z_iload_n dX8_sorter_54 rfl ?_
    refine Z_aload_n dX8_sorter_55 rfl ?_
    refine Z_iload_n dX8_sorter_56 rfl ?_
    refine Z_callVi h md_X8_isIdle sv_X8_isIdle lk_X8_246 zcX8 rfl ⟨by decide, by omega⟩ rfl rfl rfl rfl (Nat.le_of_ble_eq_true rfl) dX8_sorter_57 ⟨by decide, Nat.le_of_ble_eq_true rfl⟩ ⟨Nat.zero_le _, Nat.zero_le _⟩ ?_
    intro r2 μ3 h
    refine Z_if_eq (tgt := 67) dX8_sorter_60 (by decide) (fun c4 => ?_) (fun c4 => ?_)
    · have h := h.1 c4
      refine Z_iconst dX8_sorter_67 ?_
      refine Z_iadd dX8_sorter_68 ?_
      refine Z_istore_n (lv2 := [some (Rv G 127), none, some (Iv (x2 + 0)), some (Iv x3), none]) dX8_sorter_69 rfl (by decide) rfl ?_
      refine Z_iinc (lv2 := [some (Rv G 127), none, some (Iv (x2 + 0)), some (Iv (x3 + 1)), none]) dX8_sorter_70 rfl rfl (by decide) rfl ?_
      refine Z_goto (tgt := 46) dX8_sorter_73 (by decide) ?_
      exact Z_cut h ⟨rfl, trivial, rfl, rfl, trivial, trivial⟩
    · have h := h.2 c4
      refine Z_iconst dX8_sorter_63 ?_
      refine Z_goto (tgt := 68) dX8_sorter_64 (by decide) ?_
      refine Z_iadd dX8_sorter_68 ?_
      refine Z_istore_n (lv2 := [some (Rv G 127), none, some (Iv (x2 + 1)), some (Iv x3), none]) dX8_sorter_69 rfl (by decide) rfl ?_
      refine Z_iinc (lv2 := [some (Rv G 127), none, some (Iv (x2 + 1)), some (Iv (x3 + 1)), none]) dX8_sorter_70 rfl rfl (by decide) rfl ?_
      refine Z_goto (tgt := 46) dX8_sorter_73 (by decide) ?_
      exact Z_cut h ⟨rfl, trivial, rfl, rfl, trivial, trivial⟩
theorem bX8_sorter_91 {G : zG} {n : Nat} (hn : 154 ≤ n) {x1 x2 x3 x4 : Int} {μ : zM} {K : Int → zM → Prop}
    (h : (((wr x4 < 0 → (((¬ wr x1 = wr 2 → (((¬ wr x1 = wr 3 → (K x2 μ)) ∧ (wr x1 = wr 3 → (K x3 μ))))) ∧ (wr x1 = wr 2 → (((¬ wr x3 = wr ((-9)) → (K 0 μ)) ∧ (wr x3 = wr ((-9)) → (K 1 μ)))))))) ∧ (¬ (wr x4 < 0) → (mX8_through G n x4 (μ 127 25) μ (fun r5 μ6 => mX8_isInOrder G n r5 μ6 (fun r7 μ8 => ((wr r7 = 0 → (pX8_sorter G n K 91 [some (Rv G 127), some (Iv x1), some (Iv x2), some (Iv x4), some (Iv (x4 + (-1)))] [] μ8)) ∧ (¬ (wr r7 = 0) → (pX8_sorter G n K 91 [some (Rv G 127), some (Iv x1), some (Iv (x2 + 1)), some (Iv x3), some (Iv (x4 + (-1)))] [] μ8)))))))))) :
    pX8_sorter G n K 91 [some (Rv G 127), some (Iv x1), some (Iv x2), some (Iv x3), some (Iv x4)] [] μ := by
  refine Z_iload dX8_sorter_91 rfl ?_
  refine Z_if_lt (tgt := 128) dX8_sorter_93 (by decide) (fun c1 => ?_) (fun c1 => ?_)
  · have h := h.1 c1
    refine Z_iload_n dX8_sorter_128 rfl ?_
    refine Z_iconst dX8_sorter_129 ?_
    refine Z_icmp_ne (tgt := 147) dX8_sorter_130 (by decide) (fun c2 => ?_) (fun c2 => ?_)
    · have h := h.1 c2
      refine Z_iload_n dX8_sorter_147 rfl ?_
      refine Z_iconst dX8_sorter_148 ?_
      refine Z_icmp_ne (tgt := 156) dX8_sorter_149 (by decide) (fun c3 => ?_) (fun c3 => ?_)
      · have h := h.1 c3
        refine Z_iload_n dX8_sorter_156 rfl ?_
        exact Z_ireturn dX8_sorter_157 ⟨_, rfl, h⟩
      · have h := h.2 c3
        refine Z_iload_n dX8_sorter_152 rfl ?_
        refine Z_goto (tgt := 157) dX8_sorter_153 (by decide) ?_
        exact Z_ireturn dX8_sorter_157 ⟨_, rfl, h⟩
    · have h := h.2 c2
      refine Z_iload_n dX8_sorter_133 rfl ?_
      refine Z_bipush dX8_sorter_134 (by decide) ?_
      refine Z_icmp_ne (tgt := 143) dX8_sorter_136 (by decide) (fun c4 => ?_) (fun c4 => ?_)
      · have h := h.1 c4
        refine Z_iconst dX8_sorter_143 ?_
        refine Z_goto (tgt := 157) dX8_sorter_144 (by decide) ?_
        exact Z_ireturn dX8_sorter_157 ⟨_, rfl, h⟩
      · have h := h.2 c4
        refine Z_iconst dX8_sorter_139 ?_
        refine Z_goto (tgt := 157) dX8_sorter_140 (by decide) ?_
        exact Z_ireturn dX8_sorter_157 ⟨_, rfl, h⟩
  · have h := h.2 c1
    refine Z_aload_n dX8_sorter_96 rfl ?_
    refine Z_aload_n dX8_sorter_97 rfl ?_
    refine Z_iload dX8_sorter_98 rfl ?_
    refine Z_aload_n dX8_sorter_100 rfl ?_
    refine Y_gi 25 zcX8 fl_X8_234 ⟨by decide, by omega⟩ rfl rfl rfl (by decide) dX8_sorter_101 rfl ?_
    refine Z_callVi h md_X8_through sv_X8_through lk_X8_240 zcX8 rfl ⟨by decide, by omega⟩ rfl rfl rfl rfl (Nat.le_of_ble_eq_true rfl) dX8_sorter_104 ⟨by decide, Nat.le_of_ble_eq_true rfl⟩ ⟨Nat.zero_le _, Nat.zero_le _⟩ ?_
    intro r5 μ6 h
    refine Z_callVi h md_X8_isInOrder sv_X8_isInOrder lk_X8_249 zcX8 rfl ⟨by decide, by omega⟩ rfl rfl rfl rfl (Nat.le_of_ble_eq_true rfl) dX8_sorter_107 ⟨by decide, Nat.le_of_ble_eq_true rfl⟩ ⟨Nat.zero_le _, Nat.zero_le _⟩ ?_
    intro r7 μ8 h
    refine Z_if_eq (tgt := 119) dX8_sorter_110 (by decide) (fun c9 => ?_) (fun c9 => ?_)
    · have h := h.1 c9
      refine Z_iload dX8_sorter_119 rfl ?_
      refine Z_istore_n (lv2 := [some (Rv G 127), some (Iv x1), some (Iv x2), some (Iv x4), some (Iv x4)]) dX8_sorter_121 rfl (by decide) rfl ?_
      refine Z_iinc (lv2 := [some (Rv G 127), some (Iv x1), some (Iv x2), some (Iv x4), some (Iv (x4 + (-1)))]) dX8_sorter_122 rfl rfl (by decide) rfl ?_
      refine Z_goto (tgt := 91) dX8_sorter_125 (by decide) ?_
      exact Z_cut h ⟨rfl, rfl, rfl, rfl, rfl, trivial⟩
    · have h := h.2 c9
      refine Z_iinc (lv2 := [some (Rv G 127), some (Iv x1), some (Iv (x2 + 1)), some (Iv x3), some (Iv x4)]) dX8_sorter_113 rfl rfl (by decide) rfl ?_
      refine Z_goto (tgt := 122) dX8_sorter_116 (by decide) ?_
      refine Z_iinc (lv2 := [some (Rv G 127), some (Iv x1), some (Iv (x2 + 1)), some (Iv x3), some (Iv (x4 + (-1)))]) dX8_sorter_122 rfl rfl (by decide) rfl ?_
      refine Z_goto (tgt := 91) dX8_sorter_125 (by decide) ?_
      exact Z_cut h ⟨rfl, rfl, rfl, rfl, rfl, trivial⟩
abbrev mX8_comparer (G : zG) (n : Nat) (x1 x2 : Int) (μ : zM) (K : Int → zM → Prop) : Prop := zMt G n 3 yX8_comparer cX8_comparer 3 (some .int) [Rv G 127, Iv x1, Iv x2] μ (zKi K)
abbrev pX8_comparer (G : zG) (n : Nat) (K : Int → zM → Prop) (pc : Nat) (lv : List (Option Value)) (st : List Value) (μ : zM) : Prop := Z G (zrm 3 0 0) RX8 "comparer" cX8_comparer 3 (some .int) (zPh G n (zKi K)) 0 0 pc lv st (zE G n μ)
theorem eX8_comparer {G : zG} {n : Nat} (hn : 154 ≤ n) {x1 x2 : Int} {μ : zM} {K : Int → zM → Prop}
    (h : (mX8_isComparer G n x1 μ (fun r1 μ2 => ((¬ wr r1 = 0 → ((((wr x2 < 0 ∨ 4 < wr x2) → (K ((-2)) μ2)) ∧ (wr x2 = 0 → ((0 ≤ wr x1 ∧ wr x1 < 30) ∧ K (μ2 141 (wr x1)) μ2)) ∧ (wr x2 = 1 → ((0 ≤ wr x1 ∧ wr x1 < 30) ∧ K (μ2 142 (wr x1)) μ2)) ∧ (wr x2 = 2 → (mX8_step G n x1 μ2 (fun r7 μ8 => K r7 μ8))) ∧ (wr x2 = 3 → (mX8_isIdle G n x1 μ2 (fun r9 μ10 => ((wr r9 = 0 → (K 0 μ10)) ∧ (¬ (wr r9 = 0) → (K 1 μ10)))))) ∧ (wr x2 = 4 → (mX8_kindOf G n x1 μ2 (fun r12 μ13 => K r12 μ13)))))) ∧ (wr r1 = 0 → (K ((-1)) μ2)))))) :
    mX8_comparer G n x1 x2 μ K := by
  refine zMt_of (lv := [some (Rv G 127), some (Iv x1), some (Iv x2)]) (by decide) rfl (Nat.le_of_ble_eq_true rfl) ?_
  show pX8_comparer G n K 0 [some (Rv G 127), some (Iv x1), some (Iv x2)] [] μ
  refine Z_aload_n dX8_comparer_0 rfl ?_
  refine Z_iload_n dX8_comparer_1 rfl ?_
  refine Z_callVi h md_X8_isComparer sv_X8_isComparer lk_X8_252 zcX8 rfl ⟨by decide, by omega⟩ rfl rfl rfl rfl (Nat.le_of_ble_eq_true rfl) dX8_comparer_2 ⟨by decide, Nat.le_of_ble_eq_true rfl⟩ ⟨Nat.zero_le _, Nat.zero_le _⟩ ?_
  intro r1 μ2 h
  refine Z_if_ne (tgt := 10) dX8_comparer_5 (by decide) (fun c3 => ?_) (fun c3 => ?_)
  · have h := h.1 c3
    refine Z_iload_n dX8_comparer_10 rfl ?_
    by_cases c4 : wr x2 < 0 ∨ 4 < wr x2
    · have h := h.1 c4
      refine Z_tableOut (tgt := 84) dX8_comparer_11 c4 (by decide) ?_
      refine Z_bipush dX8_comparer_84 (by decide) ?_
      exact Z_ireturn dX8_comparer_86 ⟨_, rfl, h⟩
    · have hd := dX8_comparer_11
      have c4q : wr x2 = 0 ∨ wr x2 = 1 ∨ wr x2 = 2 ∨ wr x2 = 3 ∨ wr x2 = 4 := by omega
      rcases c4q with c4 | c4 | c4 | c4 | c4
      · have h := h.2.1 c4
        refine Z_tableIn (tgt := 44) 0 dX8_comparer_11 c4 (by decide) (by decide) rfl (by decide) ?_
        refine Z_aload_n dX8_comparer_44 rfl ?_
        refine Z_gr (t := 141) zcX8 fl_X8_65 ⟨by decide, by omega⟩ rfl rfl rfl (by decide) (by decide) dX8_comparer_45 ?_
        refine Z_iload_n dX8_comparer_48 rfl ?_
        obtain ⟨b5, h⟩ := h
        refine Z_iald (zin_c (by decide) (by omega) (by decide) (by decide) b5) dX8_comparer_49 ?_
        exact Z_ireturn dX8_comparer_50 ⟨_, rfl, h⟩
      · have h := h.2.2.1 c4
        refine Z_tableIn (tgt := 51) 1 dX8_comparer_11 c4 (by decide) (by decide) rfl (by decide) ?_
        refine Z_aload_n dX8_comparer_51 rfl ?_
        refine Z_gr (t := 142) zcX8 fl_X8_68 ⟨by decide, by omega⟩ rfl rfl rfl (by decide) (by decide) dX8_comparer_52 ?_
        refine Z_iload_n dX8_comparer_55 rfl ?_
        obtain ⟨b6, h⟩ := h
        refine Z_iald (zin_c (by decide) (by omega) (by decide) (by decide) b6) dX8_comparer_56 ?_
        exact Z_ireturn dX8_comparer_57 ⟨_, rfl, h⟩
      · have h := h.2.2.2.1 c4
        refine Z_tableIn (tgt := 58) 2 dX8_comparer_11 c4 (by decide) (by decide) rfl (by decide) ?_
        refine Z_aload_n dX8_comparer_58 rfl ?_
        refine Z_iload_n dX8_comparer_59 rfl ?_
        refine Z_callVi h md_X8_step sv_X8_step lk_X8_243 zcX8 rfl ⟨by decide, by omega⟩ rfl rfl rfl rfl (Nat.le_of_ble_eq_true rfl) dX8_comparer_60 ⟨by decide, Nat.le_of_ble_eq_true rfl⟩ ⟨Nat.zero_le _, Nat.zero_le _⟩ ?_
        intro r7 μ8 h
        exact Z_ireturn dX8_comparer_63 ⟨_, rfl, h⟩
      · have h := h.2.2.2.2.1 c4
        refine Z_tableIn (tgt := 64) 3 dX8_comparer_11 c4 (by decide) (by decide) rfl (by decide) ?_
        refine Z_aload_n dX8_comparer_64 rfl ?_
        refine Z_iload_n dX8_comparer_65 rfl ?_
        refine Z_callVi h md_X8_isIdle sv_X8_isIdle lk_X8_246 zcX8 rfl ⟨by decide, by omega⟩ rfl rfl rfl rfl (Nat.le_of_ble_eq_true rfl) dX8_comparer_66 ⟨by decide, Nat.le_of_ble_eq_true rfl⟩ ⟨Nat.zero_le _, Nat.zero_le _⟩ ?_
        intro r9 μ10 h
        refine Z_if_eq (tgt := 76) dX8_comparer_69 (by decide) (fun c11 => ?_) (fun c11 => ?_)
        · have h := h.1 c11
          refine Z_iconst dX8_comparer_76 ?_
          exact Z_ireturn dX8_comparer_77 ⟨_, rfl, h⟩
        · have h := h.2 c11
          refine Z_iconst dX8_comparer_72 ?_
          refine Z_goto (tgt := 77) dX8_comparer_73 (by decide) ?_
          exact Z_ireturn dX8_comparer_77 ⟨_, rfl, h⟩
      · have h := h.2.2.2.2.2 c4
        refine Z_tableIn (tgt := 78) 4 dX8_comparer_11 c4 (by decide) (by decide) rfl (by decide) ?_
        refine Z_aload_n dX8_comparer_78 rfl ?_
        refine Z_iload_n dX8_comparer_79 rfl ?_
        refine Z_callVi h md_X8_kindOf sv_X8_kindOf lk_X8_255 zcX8 rfl ⟨by decide, by omega⟩ rfl rfl rfl rfl (Nat.le_of_ble_eq_true rfl) dX8_comparer_80 ⟨by decide, Nat.le_of_ble_eq_true rfl⟩ ⟨Nat.zero_le _, Nat.zero_le _⟩ ?_
        intro r12 μ13 h
        exact Z_ireturn dX8_comparer_83 ⟨_, rfl, h⟩
  · have h := h.2 c3
    refine Z_iconst dX8_comparer_8 ?_
    exact Z_ireturn dX8_comparer_9 ⟨_, rfl, h⟩
abbrev mX8_sort (G : zG) (n : Nat) (x1 x2 x3 : Int) (μ : zM) (K : Int → zM → Prop) : Prop := zMt G n 3 yX8_sort cX8_sort 10 (some .int) [Rv G 127, Iv x1, Iv x2, Iv x3] μ (zKi K)
abbrev pX8_sort (G : zG) (n : Nat) (K : Int → zM → Prop) (pc : Nat) (lv : List (Option Value)) (st : List Value) (μ : zM) : Prop := Z G (zrm 3 0 0) RX8 "sort" cX8_sort 10 (some .int) (zPh G n (zKi K)) 0 0 pc lv st (zE G n μ)
theorem eX8_sort {G : zG} {n : Nat} (hn : 154 ≤ n) {x1 x2 x3 : Int} {μ : zM} {K : Int → zM → Prop}
    (h : (∀ μ1 : zM, μ1 = zu μ 127 0 0 → mX8_isSheet G n x1 μ1 (fun r2 μ3 => ((¬ wr r2 = 0 → (mX8_isLane G n x2 μ3 (fun r5 μ6 => ((¬ wr r5 = 0 → (mX8_against G n x1 x2 x3 (μ6 127 24) μ6 (fun r8 μ9 => ((wr r8 = 0 → (∀ v11 : Int, v11 = (60 * x1) + x3 → pX8_sort G n K 56 [some (Rv G 127), none, none, none, none, some (Iv v11), some (Iv 0), none, none, none] [] μ9)) ∧ (¬ (wr r8 = 0) → (K r8 μ9)))))) ∧ (wr r5 = 0 → (K ((-2)) μ6)))))) ∧ (wr r2 = 0 → (K ((-1)) μ3)))))) :
    mX8_sort G n x1 x2 x3 μ K := by
  refine zMt_of (lv := [some (Rv G 127), some (Iv x1), some (Iv x2), some (Iv x3), none, none, none, none, none, none]) (by decide) rfl (Nat.le_of_ble_eq_true rfl) ?_
  show pX8_sort G n K 0 [some (Rv G 127), some (Iv x1), some (Iv x2), some (Iv x3), none, none, none, none, none, none] [] μ
  refine Z_aload_n dX8_sort_0 rfl ?_
  refine Z_iconst dX8_sort_1 ?_
  refine Y_pi 0 zcX8 fk_X8_107 ⟨by decide, by omega⟩ rfl rfl rfl (by decide) rfl (tyX8_ok 0 (by decide)) dX8_sort_2 rfl ?_
  obtain ⟨μ1, eμ1⟩ : ∃ z : zM, z = zu μ 127 0 0 := ⟨_, rfl⟩
  have h := h μ1 eμ1
  refine Z_mem eμ1 ?_
  refine Z_iload_n dX8_sort_5 rfl ?_
  refine Z_callSi h md_X8_isSheet sv_X8_isSheet lk_X8_191 rfl rfl (Nat.le_of_ble_eq_true rfl) dX8_sort_6 ⟨by decide, Nat.le_of_ble_eq_true rfl⟩ ⟨Nat.zero_le _, Nat.zero_le _⟩ ?_
  intro r2 μ3 h
  refine Z_if_ne (tgt := 14) dX8_sort_9 (by decide) (fun c4 => ?_) (fun c4 => ?_)
  · have h := h.1 c4
    refine Z_iload_n dX8_sort_14 rfl ?_
    refine Z_callSi h md_X8_isLane sv_X8_isLane lk_X8_194 rfl rfl (Nat.le_of_ble_eq_true rfl) dX8_sort_15 ⟨by decide, Nat.le_of_ble_eq_true rfl⟩ ⟨Nat.zero_le _, Nat.zero_le _⟩ ?_
    intro r5 μ6 h
    refine Z_if_ne (tgt := 24) dX8_sort_18 (by decide) (fun c7 => ?_) (fun c7 => ?_)
    · have h := h.1 c7
      refine Z_aload_n dX8_sort_24 rfl ?_
      refine Z_iload_n dX8_sort_25 rfl ?_
      refine Z_iload_n dX8_sort_26 rfl ?_
      refine Z_iload_n dX8_sort_27 rfl ?_
      refine Z_aload_n dX8_sort_28 rfl ?_
      refine Y_gi 24 zcX8 fl_X8_62 ⟨by decide, by omega⟩ rfl rfl rfl (by decide) dX8_sort_29 rfl ?_
      refine Z_callVi h md_X8_against sv_X8_against lk_X8_197 zcX8 rfl ⟨by decide, by omega⟩ rfl rfl rfl rfl (Nat.le_of_ble_eq_true rfl) dX8_sort_32 ⟨by decide, Nat.le_of_ble_eq_true rfl⟩ ⟨Nat.zero_le _, Nat.zero_le _⟩ ?_
      intro r8 μ9 h
      refine Z_istore (lv2 := [some (Rv G 127), some (Iv x1), some (Iv x2), some (Iv x3), some (Iv r8), none, none, none, none, none]) dX8_sort_35 rfl (by decide) rfl ?_
      refine Z_iload dX8_sort_37 rfl ?_
      refine Z_if_eq (tgt := 45) dX8_sort_39 (by decide) (fun c10 => ?_) (fun c10 => ?_)
      · have h := h.1 c10
        refine Z_bipush dX8_sort_45 (by decide) ?_
        refine Z_iload_n dX8_sort_47 rfl ?_
        refine Z_imul dX8_sort_48 ?_
        refine Z_iload_n dX8_sort_49 rfl ?_
        refine Z_iadd dX8_sort_50 ?_
        obtain ⟨v11, ev11⟩ : ∃ z : Int, z = (60 * x1) + x3 := ⟨_, rfl⟩
        have h := h v11 ev11
        refine Z_nmi ev11 ?_
        refine Z_istore (lv2 := [some (Rv G 127), some (Iv x1), some (Iv x2), some (Iv x3), some (Iv r8), some (Iv v11), none, none, none, none]) dX8_sort_51 rfl (by decide) rfl ?_
        refine Z_iconst dX8_sort_53 ?_
        refine Z_istore (lv2 := [some (Rv G 127), some (Iv x1), some (Iv x2), some (Iv x3), some (Iv r8), some (Iv v11), some (Iv 0), none, none, none]) dX8_sort_54 rfl (by decide) rfl ?_
        exact Z_cut h ⟨rfl, trivial, trivial, trivial, trivial, rfl, rfl, trivial, trivial, trivial, trivial⟩
      · have h := h.2 c10
        refine Z_iload dX8_sort_42 rfl ?_
        exact Z_ireturn dX8_sort_44 ⟨_, rfl, h⟩
    · have h := h.2 c7
      refine Z_bipush dX8_sort_21 (by decide) ?_
      exact Z_ireturn dX8_sort_23 ⟨_, rfl, h⟩
  · have h := h.2 c4
    refine Z_iconst dX8_sort_12 ?_
    exact Z_ireturn dX8_sort_13 ⟨_, rfl, h⟩
theorem bX8_sort_56 {G : zG} {n : Nat} (hn : 154 ≤ n) {x5 x6 : Int} {μ : zM} {K : Int → zM → Prop}
    (h : (((wr (μ 127 24) ≤ wr x6 → (pX8_sort G n K 91 [some (Rv G 127), none, none, none, none, some (Iv x5), some (Iv 0), none, none, none] [] μ)) ∧ (¬ (wr (μ 127 24) ≤ wr x6) → ((0 ≤ wr (x5 + x6) ∧ wr (x5 + x6) < 240) ∧ (0 ≤ wr x6 ∧ wr x6 < 8) ∧ ∀ μ4 : zM, μ4 = zu μ 144 (wr x6) (μ 139 (wr (x5 + x6))) → pX8_sort G n K 56 [some (Rv G 127), none, none, none, none, some (Iv x5), some (Iv (x6 + 1)), none, none, none] [] μ4))))) :
    pX8_sort G n K 56 [some (Rv G 127), none, none, none, none, some (Iv x5), some (Iv x6), none, none, none] [] μ := by
  refine Z_iload dX8_sort_56 rfl ?_
  refine Z_aload_n dX8_sort_58 rfl ?_
  refine Y_gi 24 zcX8 fl_X8_62 ⟨by decide, by omega⟩ rfl rfl rfl (by decide) dX8_sort_59 rfl ?_
  refine Z_icmp_ge (tgt := 88) dX8_sort_62 (by decide) (fun c1 => ?_) (fun c1 => ?_)
  · have h := h.1 c1
    refine Z_iconst dX8_sort_88 ?_
    refine Z_istore (lv2 := [some (Rv G 127), none, none, none, none, some (Iv x5), some (Iv 0), none, none, none]) dX8_sort_89 rfl (by decide) rfl ?_
    exact Z_cut h ⟨rfl, trivial, trivial, trivial, trivial, rfl, rfl, trivial, trivial, trivial, trivial⟩
  · have h := h.2 c1
    refine Z_aload_n dX8_sort_65 rfl ?_
    refine Z_gr (t := 144) zcX8 fl_X8_74 ⟨by decide, by omega⟩ rfl rfl rfl (by decide) (by decide) dX8_sort_66 ?_
    refine Z_iload dX8_sort_69 rfl ?_
    refine Z_aload_n dX8_sort_71 rfl ?_
    refine Z_gr (t := 139) zcX8 fl_X8_56 ⟨by decide, by omega⟩ rfl rfl rfl (by decide) (by decide) dX8_sort_72 ?_
    refine Z_iload dX8_sort_75 rfl ?_
    refine Z_iload dX8_sort_77 rfl ?_
    refine Z_iadd dX8_sort_79 ?_
    obtain ⟨b2, h⟩ := h
    refine Z_iald (zin_c (by decide) (by omega) (by decide) (by decide) b2) dX8_sort_80 ?_
    obtain ⟨b3, h⟩ := h
    refine Z_iast (zin_c (by decide) (by omega) (by decide) (by decide) b3) dX8_sort_81 ?_
    obtain ⟨μ4, eμ4⟩ : ∃ z : zM, z = zu μ 144 (wr x6) (μ 139 (wr (x5 + x6))) := ⟨_, rfl⟩
    have h := h μ4 eμ4
    refine Z_mem eμ4 ?_
    refine Z_iinc (lv2 := [some (Rv G 127), none, none, none, none, some (Iv x5), some (Iv (x6 + 1)), none, none, none]) dX8_sort_82 rfl rfl (by decide) rfl ?_
    refine Z_goto (tgt := 56) dX8_sort_85 (by decide) ?_
    exact Z_cut h ⟨rfl, trivial, trivial, trivial, trivial, rfl, rfl, trivial, trivial, trivial, trivial⟩
theorem bX8_sort_91 {G : zG} {n : Nat} (hn : 154 ≤ n) {x5 x6 : Int} {μ : zM} {K : Int → zM → Prop}
    (h : (((wr (μ 127 25) ≤ wr x6 → (pX8_sort G n K 185 [some (Rv G 127), none, none, none, none, some (Iv x5), some (Iv 0), some (Iv 0), none, none] [] μ)) ∧ (¬ (wr (μ 127 25) ≤ wr x6) → ((0 ≤ wr x6 ∧ wr x6 < 30) ∧ ∀ v3 : Int, v3 = x5 + (μ 141 (wr x6)) → (0 ≤ wr x6 ∧ wr x6 < 30) ∧ ∀ v5 : Int, v5 = x5 + (μ 142 (wr x6)) → (0 ≤ wr v3 ∧ wr v3 < 240) ∧ (0 ≤ wr v5 ∧ wr v5 < 240) ∧ ((wr (μ 139 (wr v3)) ≤ wr (μ 139 (wr v5)) → (pX8_sort G n K 91 [some (Rv G 127), none, none, none, none, some (Iv x5), some (Iv (x6 + 1)), none, none, none] [] μ)) ∧ (¬ (wr (μ 139 (wr v3)) ≤ wr (μ 139 (wr v5))) → ((0 ≤ wr v3 ∧ wr v3 < 240) ∧ ∀ v10 : Int, v10 = μ 139 (wr v3) → (0 ≤ wr v5 ∧ wr v5 < 240) ∧ (0 ≤ wr v3 ∧ wr v3 < 240) ∧ ∀ μ13 : zM, μ13 = zu μ 139 (wr v3) (μ 139 (wr v5)) → (0 ≤ wr v5 ∧ wr v5 < 240) ∧ ∀ μ15 : zM, μ15 = zu μ13 139 (wr v5) v10 → pX8_sort G n K 91 [some (Rv G 127), none, none, none, none, some (Iv x5), some (Iv (x6 + 1)), none, none, none] [] μ15)))))))) :
    pX8_sort G n K 91 [some (Rv G 127), none, none, none, none, some (Iv x5), some (Iv x6), none, none, none] [] μ := by
  refine Z_iload dX8_sort_91 rfl ?_
  refine Z_aload_n dX8_sort_93 rfl ?_
  refine Y_gi 25 zcX8 fl_X8_234 ⟨by decide, by omega⟩ rfl rfl rfl (by decide) dX8_sort_94 rfl ?_
  refine Z_icmp_ge (tgt := 179) dX8_sort_97 (by decide) (fun c1 => ?_) (fun c1 => ?_)
  · have h := h.1 c1
    refine Z_iconst dX8_sort_179 ?_
    refine Z_istore (lv2 := [some (Rv G 127), none, none, none, none, some (Iv x5), some (Iv 0), none, none, none]) dX8_sort_180 rfl (by decide) rfl ?_
    refine Z_iconst dX8_sort_182 ?_
    refine Z_istore (lv2 := [some (Rv G 127), none, none, none, none, some (Iv x5), some (Iv 0), some (Iv 0), none, none]) dX8_sort_183 rfl (by decide) rfl ?_
    exact Z_cut h ⟨rfl, trivial, trivial, trivial, trivial, rfl, rfl, rfl, trivial, trivial, trivial⟩
  · have h := h.2 c1
    refine Z_iload dX8_sort_100 rfl ?_
    refine Z_aload_n dX8_sort_102 rfl ?_
    refine Z_gr (t := 141) zcX8 fl_X8_65 ⟨by decide, by omega⟩ rfl rfl rfl (by decide) (by decide) dX8_sort_103 ?_
    refine Z_iload dX8_sort_106 rfl ?_
    obtain ⟨b2, h⟩ := h
    refine Z_iald (zin_c (by decide) (by omega) (by decide) (by decide) b2) dX8_sort_108 ?_
    refine Z_iadd dX8_sort_109 ?_
    obtain ⟨v3, ev3⟩ : ∃ z : Int, z = x5 + (μ 141 (wr x6)) := ⟨_, rfl⟩
    have h := h v3 ev3
    refine Z_nmi ev3 ?_
    refine Z_istore (lv2 := [some (Rv G 127), none, none, none, none, some (Iv x5), some (Iv x6), some (Iv v3), none, none]) dX8_sort_110 rfl (by decide) rfl ?_
    refine Z_iload dX8_sort_112 rfl ?_
    refine Z_aload_n dX8_sort_114 rfl ?_
    refine Z_gr (t := 142) zcX8 fl_X8_68 ⟨by decide, by omega⟩ rfl rfl rfl (by decide) (by decide) dX8_sort_115 ?_
    refine Z_iload dX8_sort_118 rfl ?_
    obtain ⟨b4, h⟩ := h
    refine Z_iald (zin_c (by decide) (by omega) (by decide) (by decide) b4) dX8_sort_120 ?_
    refine Z_iadd dX8_sort_121 ?_
    obtain ⟨v5, ev5⟩ : ∃ z : Int, z = x5 + (μ 142 (wr x6)) := ⟨_, rfl⟩
    have h := h v5 ev5
    refine Z_nmi ev5 ?_
    refine Z_istore (lv2 := [some (Rv G 127), none, none, none, none, some (Iv x5), some (Iv x6), some (Iv v3), some (Iv v5), none]) dX8_sort_122 rfl (by decide) rfl ?_
    refine Z_aload_n dX8_sort_124 rfl ?_
    refine Z_gr (t := 139) zcX8 fl_X8_56 ⟨by decide, by omega⟩ rfl rfl rfl (by decide) (by decide) dX8_sort_125 ?_
    refine Z_iload dX8_sort_128 rfl ?_
    obtain ⟨b6, h⟩ := h
    refine Z_iald (zin_c (by decide) (by omega) (by decide) (by decide) b6) dX8_sort_130 ?_
    refine Z_aload_n dX8_sort_131 rfl ?_
    refine Z_gr (t := 139) zcX8 fl_X8_56 ⟨by decide, by omega⟩ rfl rfl rfl (by decide) (by decide) dX8_sort_132 ?_
    refine Z_iload dX8_sort_135 rfl ?_
    obtain ⟨b7, h⟩ := h
    refine Z_iald (zin_c (by decide) (by omega) (by decide) (by decide) b7) dX8_sort_137 ?_
    refine Z_icmp_le (tgt := 173) dX8_sort_138 (by decide) (fun c8 => ?_) (fun c8 => ?_)
    · have h := h.1 c8
      refine Z_iinc (lv2 := [some (Rv G 127), none, none, none, none, some (Iv x5), some (Iv (x6 + 1)), some (Iv v3), some (Iv v5), none]) dX8_sort_173 rfl rfl (by decide) rfl ?_
      refine Z_goto (tgt := 91) dX8_sort_176 (by decide) ?_
      exact Z_cut h ⟨rfl, trivial, trivial, trivial, trivial, rfl, rfl, trivial, trivial, trivial, trivial⟩
    · have h := h.2 c8
      refine Z_aload_n dX8_sort_141 rfl ?_
      refine Z_gr (t := 139) zcX8 fl_X8_56 ⟨by decide, by omega⟩ rfl rfl rfl (by decide) (by decide) dX8_sort_142 ?_
      refine Z_iload dX8_sort_145 rfl ?_
      obtain ⟨b9, h⟩ := h
      refine Z_iald (zin_c (by decide) (by omega) (by decide) (by decide) b9) dX8_sort_147 ?_
      obtain ⟨v10, ev10⟩ : ∃ z : Int, z = μ 139 (wr v3) := ⟨_, rfl⟩
      have h := h v10 ev10
      refine Z_nmi ev10 ?_
      refine Z_istore (lv2 := [some (Rv G 127), none, none, none, none, some (Iv x5), some (Iv x6), some (Iv v3), some (Iv v5), some (Iv v10)]) dX8_sort_148 rfl (by decide) rfl ?_
      refine Z_aload_n dX8_sort_150 rfl ?_
      refine Z_gr (t := 139) zcX8 fl_X8_56 ⟨by decide, by omega⟩ rfl rfl rfl (by decide) (by decide) dX8_sort_151 ?_
      refine Z_iload dX8_sort_154 rfl ?_
      refine Z_aload_n dX8_sort_156 rfl ?_
      refine Z_gr (t := 139) zcX8 fl_X8_56 ⟨by decide, by omega⟩ rfl rfl rfl (by decide) (by decide) dX8_sort_157 ?_
      refine Z_iload dX8_sort_160 rfl ?_
      obtain ⟨b11, h⟩ := h
      refine Z_iald (zin_c (by decide) (by omega) (by decide) (by decide) b11) dX8_sort_162 ?_
      obtain ⟨b12, h⟩ := h
      refine Z_iast (zin_c (by decide) (by omega) (by decide) (by decide) b12) dX8_sort_163 ?_
      obtain ⟨μ13, eμ13⟩ : ∃ z : zM, z = zu μ 139 (wr v3) (μ 139 (wr v5)) := ⟨_, rfl⟩
      have h := h μ13 eμ13
      refine Z_mem eμ13 ?_
      refine Z_aload_n dX8_sort_164 rfl ?_
      refine Z_gr (t := 139) zcX8 fl_X8_56 ⟨by decide, by omega⟩ rfl rfl rfl (by decide) (by decide) dX8_sort_165 ?_
      refine Z_iload dX8_sort_168 rfl ?_
      refine Z_iload dX8_sort_170 rfl ?_
      obtain ⟨b14, h⟩ := h
      refine Z_iast (zin_c (by decide) (by omega) (by decide) (by decide) b14) dX8_sort_172 ?_
      obtain ⟨μ15, eμ15⟩ : ∃ z : zM, z = zu μ13 139 (wr v5) v10 := ⟨_, rfl⟩
      have h := h μ15 eμ15
      refine Z_mem eμ15 ?_
      refine Z_iinc (lv2 := [some (Rv G 127), none, none, none, none, some (Iv x5), some (Iv (x6 + 1)), some (Iv v3), some (Iv v5), some (Iv v10)]) dX8_sort_173 rfl rfl (by decide) rfl ?_
      refine Z_goto (tgt := 91) dX8_sort_176 (by decide) ?_
      exact Z_cut h ⟨rfl, trivial, trivial, trivial, trivial, rfl, rfl, trivial, trivial, trivial, trivial⟩
theorem bX8_sort_185 {G : zG} {n : Nat} (hn : 154 ≤ n) {x5 x6 x7 : Int} {μ : zM} {K : Int → zM → Prop}
    (h : (((wr (μ 127 24) ≤ wr x7 → (K x6 μ)) ∧ (¬ (wr (μ 127 24) ≤ wr x7) → ((0 ≤ wr x7 ∧ wr x7 < 8) ∧ (0 ≤ wr (x5 + x7) ∧ wr (x5 + x7) < 240) ∧ ((wr (μ 144 (wr x7)) = wr (μ 139 (wr (x5 + x7))) → (pX8_sort G n K 185 [some (Rv G 127), none, none, none, none, some (Iv x5), some (Iv (x6 + 0)), some (Iv (x7 + 1)), none, none] [] μ)) ∧ (¬ (wr (μ 144 (wr x7)) = wr (μ 139 (wr (x5 + x7)))) → (pX8_sort G n K 185 [some (Rv G 127), none, none, none, none, some (Iv x5), some (Iv (x6 + 1)), some (Iv (x7 + 1)), none, none] [] μ)))))))) :
    pX8_sort G n K 185 [some (Rv G 127), none, none, none, none, some (Iv x5), some (Iv x6), some (Iv x7), none, none] [] μ := by
  refine Z_iload dX8_sort_185 rfl ?_
  refine Z_aload_n dX8_sort_187 rfl ?_
  refine Y_gi 24 zcX8 fl_X8_62 ⟨by decide, by omega⟩ rfl rfl rfl (by decide) dX8_sort_188 rfl ?_
  refine Z_icmp_ge (tgt := 230) dX8_sort_191 (by decide) (fun c1 => ?_) (fun c1 => ?_)
  · have h := h.1 c1
    refine Z_iload dX8_sort_230 rfl ?_
    exact Z_ireturn dX8_sort_232 ⟨_, rfl, h⟩
  · have h := h.2 c1
    refine Z_iload dX8_sort_194 rfl ?_
    refine Z_aload_n dX8_sort_196 rfl ?_
    refine Z_gr (t := 144) zcX8 fl_X8_74 ⟨by decide, by omega⟩ rfl rfl rfl (by decide) (by decide) dX8_sort_197 ?_
    refine Z_iload dX8_sort_200 rfl ?_
    obtain ⟨b2, h⟩ := h
    refine Z_iald (zin_c (by decide) (by omega) (by decide) (by decide) b2) dX8_sort_202 ?_
    refine Z_aload_n dX8_sort_203 rfl ?_
    refine Z_gr (t := 139) zcX8 fl_X8_56 ⟨by decide, by omega⟩ rfl rfl rfl (by decide) (by decide) dX8_sort_204 ?_
    refine Z_iload dX8_sort_207 rfl ?_
    refine Z_iload dX8_sort_209 rfl ?_
    refine Z_iadd dX8_sort_211 ?_
    obtain ⟨b3, h⟩ := h
    refine Z_iald (zin_c (by decide) (by omega) (by decide) (by decide) b3) dX8_sort_212 ?_
    refine Z_icmp_eq (tgt := 220) dX8_sort_213 (by decide) (fun c4 => ?_) (fun c4 => ?_)
    · have h := h.1 c4
      refine Z_iconst dX8_sort_220 ?_
      refine Z_iadd dX8_sort_221 ?_
      refine Z_istore (lv2 := [some (Rv G 127), none, none, none, none, some (Iv x5), some (Iv (x6 + 0)), some (Iv x7), none, none]) dX8_sort_222 rfl (by decide) rfl ?_
      refine Z_iinc (lv2 := [some (Rv G 127), none, none, none, none, some (Iv x5), some (Iv (x6 + 0)), some (Iv (x7 + 1)), none, none]) dX8_sort_224 rfl rfl (by decide) rfl ?_
      refine Z_goto (tgt := 185) dX8_sort_227 (by decide) ?_
      exact Z_cut h ⟨rfl, trivial, trivial, trivial, trivial, rfl, rfl, rfl, trivial, trivial, trivial⟩
    · have h := h.2 c4
      refine Z_iconst dX8_sort_216 ?_
      refine Z_goto (tgt := 221) dX8_sort_217 (by decide) ?_
      refine Z_iadd dX8_sort_221 ?_
      refine Z_istore (lv2 := [some (Rv G 127), none, none, none, none, some (Iv x5), some (Iv (x6 + 1)), some (Iv x7), none, none]) dX8_sort_222 rfl (by decide) rfl ?_
      refine Z_iinc (lv2 := [some (Rv G 127), none, none, none, none, some (Iv x5), some (Iv (x6 + 1)), some (Iv (x7 + 1)), none, none]) dX8_sort_224 rfl rfl (by decide) rfl ?_
      refine Z_goto (tgt := 185) dX8_sort_227 (by decide) ?_
      exact Z_cut h ⟨rfl, trivial, trivial, trivial, trivial, rfl, rfl, rfl, trivial, trivial, trivial⟩
abbrev mX8_span (G : zG) (n : Nat) (μ : zM) (K : Int → zM → Prop) : Prop := zMt G n 3 yX8_span cX8_span 1 (some .int) [Rv G 127] μ (zKi K)
abbrev pX8_span (G : zG) (n : Nat) (K : Int → zM → Prop) (pc : Nat) (lv : List (Option Value)) (st : List Value) (μ : zM) : Prop := Z G (zrm 3 0 0) RX8 "span" cX8_span 1 (some .int) (zPh G n (zKi K)) 0 0 pc lv st (zE G n μ)
theorem eX8_span {G : zG} {n : Nat} (hn : 154 ≤ n) {μ : zM} {K : Int → zM → Prop}
    (h : (mX8_layLeft G n  μ (fun μ2 => mX8_spanLeft G n  μ2 (fun r3 μ4 => K r3 μ4)))) :
    mX8_span G n  μ K := by
  refine zMt_of (lv := [some (Rv G 127)]) (by decide) rfl (Nat.le_of_ble_eq_true rfl) ?_
  show pX8_span G n K 0 [some (Rv G 127)] [] μ
  refine Z_aload_n dX8_span_0 rfl ?_
  refine Z_callVv h md_X8_layLeft sv_X8_layLeft lk_X8_265 zcX8 rfl ⟨by decide, by omega⟩ rfl rfl rfl rfl (Nat.le_of_ble_eq_true rfl) dX8_span_1 ⟨by decide, Nat.le_of_ble_eq_true rfl⟩ ⟨Nat.zero_le _, Nat.zero_le _⟩ ?_
  intro μ2 h
  refine Z_aload_n dX8_span_4 rfl ?_
  refine Z_callVi h md_X8_spanLeft sv_X8_spanLeft lk_X8_268 zcX8 rfl ⟨by decide, by omega⟩ rfl rfl rfl rfl (Nat.le_of_ble_eq_true rfl) dX8_span_5 ⟨by decide, Nat.le_of_ble_eq_true rfl⟩ ⟨Nat.zero_le _, Nat.zero_le _⟩ ?_
  intro r3 μ4 h
  exact Z_ireturn dX8_span_8 ⟨_, rfl, h⟩
abbrev mX8_takeRound (G : zG) (n : Nat) (μ : zM) (K : zM → Prop) : Prop := zMt G n 3 yX8_takeRound cX8_takeRound 4 none [Rv G 127] μ (zKv K)
abbrev pX8_takeRound (G : zG) (n : Nat) (K : zM → Prop) (pc : Nat) (lv : List (Option Value)) (st : List Value) (μ : zM) : Prop := Z G (zrm 3 0 0) RX8 "takeRound" cX8_takeRound 4 none (zPh G n (zKv K)) 0 0 pc lv st (zE G n μ)
theorem eX8_takeRound {G : zG} {n : Nat} (hn : 154 ≤ n) {μ : zM} {K : zM → Prop}
    (h : (mX8_spanLeft G n  μ (fun r1 μ2 => mX8_begin G n  μ2 (fun μ4 => mX8_goOn G n 146 μ4 (fun r5 μ6 => pX8_takeRound G n K 18 [some (Rv G 127), some (Iv r1), some (Iv r5), none] [] μ6))))) :
    mX8_takeRound G n  μ K := by
  refine zMt_of (lv := [some (Rv G 127), none, none, none]) (by decide) rfl (Nat.le_of_ble_eq_true rfl) ?_
  show pX8_takeRound G n K 0 [some (Rv G 127), none, none, none] [] μ
  refine Z_aload_n dX8_takeRound_0 rfl ?_
  refine Z_callVi h md_X8_spanLeft sv_X8_spanLeft lk_X8_268 zcX8 rfl ⟨by decide, by omega⟩ rfl rfl rfl rfl (Nat.le_of_ble_eq_true rfl) dX8_takeRound_1 ⟨by decide, Nat.le_of_ble_eq_true rfl⟩ ⟨Nat.zero_le _, Nat.zero_le _⟩ ?_
  intro r1 μ2 h
  refine Z_istore_n (lv2 := [some (Rv G 127), some (Iv r1), none, none]) dX8_takeRound_4 rfl (by decide) rfl ?_
  refine Z_aload_n dX8_takeRound_5 rfl ?_
  refine Z_callVv h md_X8_begin sv_X8_begin lk_X8_277 zcX8 rfl ⟨by decide, by omega⟩ rfl rfl rfl rfl (Nat.le_of_ble_eq_true rfl) dX8_takeRound_6 ⟨by decide, Nat.le_of_ble_eq_true rfl⟩ ⟨Nat.zero_le _, Nat.zero_le _⟩ ?_
  intro μ4 h
  refine Z_aload_n dX8_takeRound_9 rfl ?_
  refine Z_aload_n dX8_takeRound_10 rfl ?_
  refine Z_gr (t := 146) zcX8 fl_X8_83 ⟨by decide, by omega⟩ rfl rfl rfl (by decide) (by decide) dX8_takeRound_11 ?_
  refine Z_callVi h md_X8_goOn sv_X8_goOn lk_X8_280 zcX8 rfl ⟨by decide, by omega⟩ rfl rfl rfl rfl (Nat.le_of_ble_eq_true rfl) dX8_takeRound_14 ⟨by decide, Nat.le_of_ble_eq_true rfl⟩ ⟨Nat.zero_le _, Nat.zero_le _⟩ ?_
  intro r5 μ6 h
  refine Z_istore_n (lv2 := [some (Rv G 127), some (Iv r1), some (Iv r5), none]) dX8_takeRound_17 rfl (by decide) rfl ?_
  exact Z_cut h ⟨rfl, rfl, rfl, trivial, trivial⟩
theorem bX8_takeRound_18 {G : zG} {n : Nat} (hn : 154 ≤ n) {x1 x2 : Int} {μ : zM} {K : zM → Prop}
    (h : (((wr x2 = 0 → (pX8_takeRound G n K 44 [some (Rv G 127), none, none, some (Iv 0)] [] μ)) ∧ (¬ (wr x2 = 0) → (mX8_isTight G n x1 μ (fun r2 μ3 => ((¬ wr r2 = 0 → (pX8_takeRound G n K 44 [some (Rv G 127), none, none, some (Iv 0)] [] μ3)) ∧ (wr r2 = 0 → (mX8_goOn G n 146 μ3 (fun r5 μ6 => pX8_takeRound G n K 18 [some (Rv G 127), some (Iv x1), some (Iv r5), none] [] μ6)))))))))) :
    pX8_takeRound G n K 18 [some (Rv G 127), some (Iv x1), some (Iv x2), none] [] μ := by
  refine Z_iload_n dX8_takeRound_18 rfl ?_
  refine Z_if_eq (tgt := 42) dX8_takeRound_19 (by decide) (fun c1 => ?_) (fun c1 => ?_)
  · have h := h.1 c1
    refine Z_iconst dX8_takeRound_42 ?_
    refine Z_istore_n (lv2 := [some (Rv G 127), some (Iv x1), some (Iv x2), some (Iv 0)]) dX8_takeRound_43 rfl (by decide) rfl ?_
    exact Z_cut h ⟨rfl, trivial, trivial, rfl, trivial⟩
  · have h := h.2 c1
    refine Z_aload_n dX8_takeRound_22 rfl ?_
    refine Z_iload_n dX8_takeRound_23 rfl ?_
    refine Z_callVi h md_X8_isTight sv_X8_isTight lk_X8_284 zcX8 rfl ⟨by decide, by omega⟩ rfl rfl rfl rfl (Nat.le_of_ble_eq_true rfl) dX8_takeRound_24 ⟨by decide, Nat.le_of_ble_eq_true rfl⟩ ⟨Nat.zero_le _, Nat.zero_le _⟩ ?_
    intro r2 μ3 h
    refine Z_if_ne (tgt := 42) dX8_takeRound_27 (by decide) (fun c4 => ?_) (fun c4 => ?_)
    · have h := h.1 c4
      refine Z_iconst dX8_takeRound_42 ?_
      refine Z_istore_n (lv2 := [some (Rv G 127), some (Iv x1), some (Iv x2), some (Iv 0)]) dX8_takeRound_43 rfl (by decide) rfl ?_
      exact Z_cut h ⟨rfl, trivial, trivial, rfl, trivial⟩
    · have h := h.2 c4
      refine Z_aload_n dX8_takeRound_30 rfl ?_
      refine Z_aload_n dX8_takeRound_31 rfl ?_
      refine Z_gr (t := 146) zcX8 fl_X8_83 ⟨by decide, by omega⟩ rfl rfl rfl (by decide) (by decide) dX8_takeRound_32 ?_
      refine Z_callVi h md_X8_goOn sv_X8_goOn lk_X8_280 zcX8 rfl ⟨by decide, by omega⟩ rfl rfl rfl rfl (Nat.le_of_ble_eq_true rfl) dX8_takeRound_35 ⟨by decide, Nat.le_of_ble_eq_true rfl⟩ ⟨Nat.zero_le _, Nat.zero_le _⟩ ?_
      intro r5 μ6 h
      refine Z_istore_n (lv2 := [some (Rv G 127), some (Iv x1), some (Iv r5), none]) dX8_takeRound_38 rfl (by decide) rfl ?_
      refine Z_goto (tgt := 18) dX8_takeRound_39 (by decide) ?_
      exact Z_cut h ⟨rfl, rfl, rfl, trivial, trivial⟩
theorem bX8_takeRound_44 {G : zG} {n : Nat} (hn : 154 ≤ n) {x3 : Int} {μ : zM} {K : zM → Prop}
    (h : (((wr (μ 127 30) ≤ wr x3 → (K μ)) ∧ (¬ (wr (μ 127 30) ≤ wr x3) → ((0 ≤ wr x3 ∧ wr x3 < 5) ∧ ((wr (μ 127 30) ≤ wr (μ 150 (wr x3)) → (pX8_takeRound G n K 44 [some (Rv G 127), none, none, some (Iv (x3 + 1))] [] μ)) ∧ (¬ (wr (μ 127 30) ≤ wr (μ 150 (wr x3))) → ((0 ≤ wr x3 ∧ wr x3 < 5) ∧ (0 ≤ wr ((5 * x3) + (μ 150 (wr x3))) ∧ wr ((5 * x3) + (μ 150 (wr x3))) < 25) ∧ (0 ≤ wr ((5 * x3) + (μ 150 (wr x3))) ∧ wr ((5 * x3) + (μ 150 (wr x3))) < 25) ∧ ∀ μ7 : zM, μ7 = zu μ 146 (wr ((5 * x3) + (μ 150 (wr x3)))) ((μ 146 (wr ((5 * x3) + (μ 150 (wr x3))))) - 1) → pX8_takeRound G n K 44 [some (Rv G 127), none, none, some (Iv (x3 + 1))] [] μ7)))))))) :
    pX8_takeRound G n K 44 [some (Rv G 127), none, none, some (Iv x3)] [] μ := by
  refine Z_iload_n dX8_takeRound_44 rfl ?_
  refine Z_aload_n dX8_takeRound_45 rfl ?_
  refine Y_gi 30 zcX8 fl_X8_77 ⟨by decide, by omega⟩ rfl rfl rfl (by decide) dX8_takeRound_46 rfl ?_
  refine Z_icmp_ge (tgt := 90) dX8_takeRound_49 (by decide) (fun c1 => ?_) (fun c1 => ?_)
  · have h := h.1 c1
    exact Z_return dX8_takeRound_90 ⟨rfl, h⟩
  · have h := h.2 c1
    refine Z_aload_n dX8_takeRound_52 rfl ?_
    refine Z_gr (t := 150) zcX8 fl_X8_95 ⟨by decide, by omega⟩ rfl rfl rfl (by decide) (by decide) dX8_takeRound_53 ?_
    refine Z_iload_n dX8_takeRound_56 rfl ?_
    obtain ⟨b2, h⟩ := h
    refine Z_iald (zin_c (by decide) (by omega) (by decide) (by decide) b2) dX8_takeRound_57 ?_
    refine Z_aload_n dX8_takeRound_58 rfl ?_
    refine Y_gi 30 zcX8 fl_X8_77 ⟨by decide, by omega⟩ rfl rfl rfl (by decide) dX8_takeRound_59 rfl ?_
    refine Z_icmp_ge (tgt := 84) dX8_takeRound_62 (by decide) (fun c3 => ?_) (fun c3 => ?_)
    · have h := h.1 c3
      refine Z_iinc (lv2 := [some (Rv G 127), none, none, some (Iv (x3 + 1))]) dX8_takeRound_84 rfl rfl (by decide) rfl ?_
      refine Z_goto (tgt := 44) dX8_takeRound_87 (by decide) ?_
      exact Z_cut h ⟨rfl, trivial, trivial, rfl, trivial⟩
    · have h := h.2 c3
      refine Z_aload_n dX8_takeRound_65 rfl ?_
      refine Z_gr (t := 146) zcX8 fl_X8_83 ⟨by decide, by omega⟩ rfl rfl rfl (by decide) (by decide) dX8_takeRound_66 ?_
      refine Z_iconst dX8_takeRound_69 ?_
      refine Z_iload_n dX8_takeRound_70 rfl ?_
      refine Z_imul dX8_takeRound_71 ?_
      refine Z_aload_n dX8_takeRound_72 rfl ?_
      refine Z_gr (t := 150) zcX8 fl_X8_95 ⟨by decide, by omega⟩ rfl rfl rfl (by decide) (by decide) dX8_takeRound_73 ?_
      refine Z_iload_n dX8_takeRound_76 rfl ?_
      obtain ⟨b4, h⟩ := h
      refine Z_iald (zin_c (by decide) (by omega) (by decide) (by decide) b4) dX8_takeRound_77 ?_
      refine Z_iadd dX8_takeRound_78 ?_
      refine Z_dup2 dX8_takeRound_79 rfl rfl ?_
      obtain ⟨b5, h⟩ := h
      refine Z_iald (zin_c (by decide) (by omega) (by decide) (by decide) b5) dX8_takeRound_80 ?_
      refine Z_iconst dX8_takeRound_81 ?_
      refine Z_isub dX8_takeRound_82 ?_
      obtain ⟨b6, h⟩ := h
      refine Z_iast (zin_c (by decide) (by omega) (by decide) (by decide) b6) dX8_takeRound_83 ?_
      obtain ⟨μ7, eμ7⟩ : ∃ z : zM, z = zu μ 146 (wr ((5 * x3) + (μ 150 (wr x3)))) ((μ 146 (wr ((5 * x3) + (μ 150 (wr x3))))) - 1) := ⟨_, rfl⟩
      have h := h μ7 eμ7
      refine Z_mem eμ7 ?_
      refine Z_iinc (lv2 := [some (Rv G 127), none, none, some (Iv (x3 + 1))]) dX8_takeRound_84 rfl rfl (by decide) rfl ?_
      refine Z_goto (tgt := 44) dX8_takeRound_87 (by decide) ?_
      exact Z_cut h ⟨rfl, trivial, trivial, rfl, trivial⟩
abbrev mX8_matchGreatest (G : zG) (n : Nat) (μ : zM) (K : zM → Prop) : Prop := zMt G n 3 yX8_matchGreatest cX8_matchGreatest 4 none [Rv G 127] μ (zKv K)
abbrev pX8_matchGreatest (G : zG) (n : Nat) (K : zM → Prop) (pc : Nat) (lv : List (Option Value)) (st : List Value) (μ : zM) : Prop := Z G (zrm 3 0 0) RX8 "matchGreatest" cX8_matchGreatest 4 none (zPh G n (zKv K)) 0 0 pc lv st (zE G n μ)
theorem eX8_matchGreatest {G : zG} {n : Nat} (hn : 154 ≤ n) {μ : zM} {K : zM → Prop}
    (h : (∀ v1 : Int, v1 = (-1) → mX8_begin G n  μ (fun μ3 => pX8_matchGreatest G n K 6 [some (Rv G 127), some (Iv v1), none, none] [] μ3))) :
    mX8_matchGreatest G n  μ K := by
  refine zMt_of (lv := [some (Rv G 127), none, none, none]) (by decide) rfl (Nat.le_of_ble_eq_true rfl) ?_
  show pX8_matchGreatest G n K 0 [some (Rv G 127), none, none, none] [] μ
  refine Z_iconst dX8_matchGreatest_0 ?_
  obtain ⟨v1, ev1⟩ : ∃ z : Int, z = (-1) := ⟨_, rfl⟩
  have h := h v1 ev1
  refine Z_nmi ev1 ?_
  refine Z_istore_n (lv2 := [some (Rv G 127), some (Iv v1), none, none]) dX8_matchGreatest_1 rfl (by decide) rfl ?_
  refine Z_aload_n dX8_matchGreatest_2 rfl ?_
  refine Z_callVv h md_X8_begin sv_X8_begin lk_X8_277 zcX8 rfl ⟨by decide, by omega⟩ rfl rfl rfl rfl (Nat.le_of_ble_eq_true rfl) dX8_matchGreatest_3 ⟨by decide, Nat.le_of_ble_eq_true rfl⟩ ⟨Nat.zero_le _, Nat.zero_le _⟩ ?_
  intro μ3 h
  exact Z_cut h ⟨rfl, rfl, trivial, trivial, trivial⟩
theorem bX8_matchGreatest_6 {G : zG} {n : Nat} (hn : 154 ≤ n) {x1 : Int} {μ : zM} {K : zM → Prop}
    (h : (mX8_goOn G n 147 μ (fun r1 μ2 => ((wr r1 = 0 → (K μ2)) ∧ (¬ (wr r1 = 0) → (pX8_matchGreatest G n K 21 [some (Rv G 127), some (Iv x1), some (Iv 0), some (Iv 0)] [] μ2)))))) :
    pX8_matchGreatest G n K 6 [some (Rv G 127), some (Iv x1), none, none] [] μ := by
  refine Z_aload_n dX8_matchGreatest_6 rfl ?_
  refine Z_aload_n dX8_matchGreatest_7 rfl ?_
  refine Z_gr (t := 147) zcX8 fl_X8_86 ⟨by decide, by omega⟩ rfl rfl rfl (by decide) (by decide) dX8_matchGreatest_8 ?_
  refine Z_callVi h md_X8_goOn sv_X8_goOn lk_X8_280 zcX8 rfl ⟨by decide, by omega⟩ rfl rfl rfl rfl (Nat.le_of_ble_eq_true rfl) dX8_matchGreatest_11 ⟨by decide, Nat.le_of_ble_eq_true rfl⟩ ⟨Nat.zero_le _, Nat.zero_le _⟩ ?_
  intro r1 μ2 h
  refine Z_if_eq (tgt := 126) dX8_matchGreatest_14 (by decide) (fun c3 => ?_) (fun c3 => ?_)
  · have h := h.1 c3
    exact Z_return dX8_matchGreatest_126 ⟨rfl, h⟩
  · have h := h.2 c3
    refine Z_iconst dX8_matchGreatest_17 ?_
    refine Z_istore_n (lv2 := [some (Rv G 127), some (Iv x1), some (Iv 0), none]) dX8_matchGreatest_18 rfl (by decide) rfl ?_
    refine Z_iconst dX8_matchGreatest_19 ?_
    refine Z_istore_n (lv2 := [some (Rv G 127), some (Iv x1), some (Iv 0), some (Iv 0)]) dX8_matchGreatest_20 rfl (by decide) rfl ?_
    exact Z_cut h ⟨rfl, rfl, rfl, rfl, trivial⟩
theorem bX8_matchGreatest_21 {G : zG} {n : Nat} (hn : 154 ≤ n) {x1 x2 x3 : Int} {μ : zM} {K : zM → Prop}
    (h : (((wr (μ 127 30) ≤ wr x3 → (((wr x2 ≤ wr x1 → (pX8_matchGreatest G n K 6 [some (Rv G 127), some (Iv x1), none, none] [] μ)) ∧ (¬ (wr x2 ≤ wr x1) → (pX8_matchGreatest G n K 79 [some (Rv G 127), some (Iv x2), none, some (Iv 0)] [] μ))))) ∧ (¬ (wr (μ 127 30) ≤ wr x3) → ((0 ≤ wr x3 ∧ wr x3 < 5) ∧ ((wr (μ 127 30) ≤ wr (μ 150 (wr x3)) → (pX8_matchGreatest G n K 21 [some (Rv G 127), some (Iv x1), some (Iv (x2 + 0)), some (Iv (x3 + 1))] [] μ)) ∧ (¬ (wr (μ 127 30) ≤ wr (μ 150 (wr x3))) → ((0 ≤ wr x3 ∧ wr x3 < 5) ∧ (0 ≤ wr ((5 * x3) + (μ 150 (wr x3))) ∧ wr ((5 * x3) + (μ 150 (wr x3))) < 25) ∧ ∀ v7 : Int, v7 = x2 + (μ 147 (wr ((5 * x3) + (μ 150 (wr x3))))) → pX8_matchGreatest G n K 21 [some (Rv G 127), some (Iv x1), some (Iv v7), some (Iv (x3 + 1))] [] μ)))))))) :
    pX8_matchGreatest G n K 21 [some (Rv G 127), some (Iv x1), some (Iv x2), some (Iv x3)] [] μ := by
  refine Z_iload_n dX8_matchGreatest_21 rfl ?_
  refine Z_aload_n dX8_matchGreatest_22 rfl ?_
  refine Y_gi 30 zcX8 fl_X8_77 ⟨by decide, by omega⟩ rfl rfl rfl (by decide) dX8_matchGreatest_23 rfl ?_
  refine Z_icmp_ge (tgt := 70) dX8_matchGreatest_26 (by decide) (fun c1 => ?_) (fun c1 => ?_)
  · have h := h.1 c1
    refine Z_iload_n dX8_matchGreatest_70 rfl ?_
    refine Z_iload_n dX8_matchGreatest_71 rfl ?_
    refine Z_icmp_le (tgt := 123) dX8_matchGreatest_72 (by decide) (fun c2 => ?_) (fun c2 => ?_)
    · have h := h.1 c2
      refine Z_goto (tgt := 6) dX8_matchGreatest_123 (by decide) ?_
      exact Z_cut h ⟨rfl, rfl, trivial, trivial, trivial⟩
    · have h := h.2 c2
      refine Z_iload_n dX8_matchGreatest_75 rfl ?_
      refine Z_istore_n (lv2 := [some (Rv G 127), some (Iv x2), some (Iv x2), some (Iv x3)]) dX8_matchGreatest_76 rfl (by decide) rfl ?_
      refine Z_iconst dX8_matchGreatest_77 ?_
      refine Z_istore_n (lv2 := [some (Rv G 127), some (Iv x2), some (Iv x2), some (Iv 0)]) dX8_matchGreatest_78 rfl (by decide) rfl ?_
      exact Z_cut h ⟨rfl, rfl, trivial, rfl, trivial⟩
  · have h := h.2 c1
    refine Z_iload_n dX8_matchGreatest_29 rfl ?_
    refine Z_aload_n dX8_matchGreatest_30 rfl ?_
    refine Z_gr (t := 150) zcX8 fl_X8_95 ⟨by decide, by omega⟩ rfl rfl rfl (by decide) (by decide) dX8_matchGreatest_31 ?_
    refine Z_iload_n dX8_matchGreatest_34 rfl ?_
    obtain ⟨b3, h⟩ := h
    refine Z_iald (zin_c (by decide) (by omega) (by decide) (by decide) b3) dX8_matchGreatest_35 ?_
    refine Z_aload_n dX8_matchGreatest_36 rfl ?_
    refine Y_gi 30 zcX8 fl_X8_77 ⟨by decide, by omega⟩ rfl rfl rfl (by decide) dX8_matchGreatest_37 rfl ?_
    refine Z_icmp_ge (tgt := 61) dX8_matchGreatest_40 (by decide) (fun c4 => ?_) (fun c4 => ?_)
    · have h := h.1 c4
      refine Z_iconst dX8_matchGreatest_61 ?_
      refine Z_iadd dX8_matchGreatest_62 ?_
      refine Z_istore_n (lv2 := [some (Rv G 127), some (Iv x1), some (Iv (x2 + 0)), some (Iv x3)]) dX8_matchGreatest_63 rfl (by decide) rfl ?_
      refine Z_iinc (lv2 := [some (Rv G 127), some (Iv x1), some (Iv (x2 + 0)), some (Iv (x3 + 1))]) dX8_matchGreatest_64 rfl rfl (by decide) rfl ?_
      refine Z_goto (tgt := 21) dX8_matchGreatest_67 (by decide) ?_
      exact Z_cut h ⟨rfl, rfl, rfl, rfl, trivial⟩
    · have h := h.2 c4
      refine Z_aload_n dX8_matchGreatest_43 rfl ?_
      refine Z_gr (t := 147) zcX8 fl_X8_86 ⟨by decide, by omega⟩ rfl rfl rfl (by decide) (by decide) dX8_matchGreatest_44 ?_
      refine Z_iconst dX8_matchGreatest_47 ?_
      refine Z_iload_n dX8_matchGreatest_48 rfl ?_
      refine Z_imul dX8_matchGreatest_49 ?_
      refine Z_aload_n dX8_matchGreatest_50 rfl ?_
      refine Z_gr (t := 150) zcX8 fl_X8_95 ⟨by decide, by omega⟩ rfl rfl rfl (by decide) (by decide) dX8_matchGreatest_51 ?_
      refine Z_iload_n dX8_matchGreatest_54 rfl ?_
      obtain ⟨b5, h⟩ := h
      refine Z_iald (zin_c (by decide) (by omega) (by decide) (by decide) b5) dX8_matchGreatest_55 ?_
      refine Z_iadd dX8_matchGreatest_56 ?_
      obtain ⟨b6, h⟩ := h
      refine Z_iald (zin_c (by decide) (by omega) (by decide) (by decide) b6) dX8_matchGreatest_57 ?_
      refine Z_goto (tgt := 62) dX8_matchGreatest_58 (by decide) ?_
      refine Z_iadd dX8_matchGreatest_62 ?_
      obtain ⟨v7, ev7⟩ : ∃ z : Int, z = x2 + (μ 147 (wr ((5 * x3) + (μ 150 (wr x3))))) := ⟨_, rfl⟩
      have h := h v7 ev7
      refine Z_nmi ev7 ?_
      refine Z_istore_n (lv2 := [some (Rv G 127), some (Iv x1), some (Iv v7), some (Iv x3)]) dX8_matchGreatest_63 rfl (by decide) rfl ?_
      refine Z_iinc (lv2 := [some (Rv G 127), some (Iv x1), some (Iv v7), some (Iv (x3 + 1))]) dX8_matchGreatest_64 rfl rfl (by decide) rfl ?_
      refine Z_goto (tgt := 21) dX8_matchGreatest_67 (by decide) ?_
      exact Z_cut h ⟨rfl, rfl, rfl, rfl, trivial⟩
theorem bX8_matchGreatest_79 {G : zG} {n : Nat} (hn : 154 ≤ n) {x1 x3 : Int} {μ : zM} {K : zM → Prop}
    (h : (((wr (μ 127 30) ≤ wr x3 → (pX8_matchGreatest G n K 6 [some (Rv G 127), some (Iv x1), none, none] [] μ)) ∧ (¬ (wr (μ 127 30) ≤ wr x3) → ((0 ≤ wr x3 ∧ wr x3 < 5) ∧ ((wr (μ 127 30) ≤ wr (μ 150 (wr x3)) → ((0 ≤ wr x3 ∧ wr x3 < 5) ∧ ∀ μ5 : zM, μ5 = zu μ 151 (wr x3) ((-9)) → pX8_matchGreatest G n K 79 [some (Rv G 127), some (Iv x1), none, some (Iv (x3 + 1))] [] μ5)) ∧ (¬ (wr (μ 127 30) ≤ wr (μ 150 (wr x3))) → ((0 ≤ wr x3 ∧ wr x3 < 5) ∧ (0 ≤ wr x3 ∧ wr x3 < 5) ∧ ∀ μ8 : zM, μ8 = zu μ 151 (wr x3) (μ 150 (wr x3)) → pX8_matchGreatest G n K 79 [some (Rv G 127), some (Iv x1), none, some (Iv (x3 + 1))] [] μ8)))))))) :
    pX8_matchGreatest G n K 79 [some (Rv G 127), some (Iv x1), none, some (Iv x3)] [] μ := by
  refine Z_iload_n dX8_matchGreatest_79 rfl ?_
  refine Z_aload_n dX8_matchGreatest_80 rfl ?_
  refine Y_gi 30 zcX8 fl_X8_77 ⟨by decide, by omega⟩ rfl rfl rfl (by decide) dX8_matchGreatest_81 rfl ?_
  refine Z_icmp_ge (tgt := 123) dX8_matchGreatest_84 (by decide) (fun c1 => ?_) (fun c1 => ?_)
  · have h := h.1 c1
    refine Z_goto (tgt := 6) dX8_matchGreatest_123 (by decide) ?_
    exact Z_cut h ⟨rfl, rfl, trivial, trivial, trivial⟩
  · have h := h.2 c1
    refine Z_aload_n dX8_matchGreatest_87 rfl ?_
    refine Z_gr (t := 151) zcX8 fl_X8_98 ⟨by decide, by omega⟩ rfl rfl rfl (by decide) (by decide) dX8_matchGreatest_88 ?_
    refine Z_iload_n dX8_matchGreatest_91 rfl ?_
    refine Z_aload_n dX8_matchGreatest_92 rfl ?_
    refine Z_gr (t := 150) zcX8 fl_X8_95 ⟨by decide, by omega⟩ rfl rfl rfl (by decide) (by decide) dX8_matchGreatest_93 ?_
    refine Z_iload_n dX8_matchGreatest_96 rfl ?_
    obtain ⟨b2, h⟩ := h
    refine Z_iald (zin_c (by decide) (by omega) (by decide) (by decide) b2) dX8_matchGreatest_97 ?_
    refine Z_aload_n dX8_matchGreatest_98 rfl ?_
    refine Y_gi 30 zcX8 fl_X8_77 ⟨by decide, by omega⟩ rfl rfl rfl (by decide) dX8_matchGreatest_99 rfl ?_
    refine Z_icmp_ge (tgt := 114) dX8_matchGreatest_102 (by decide) (fun c3 => ?_) (fun c3 => ?_)
    · have h := h.1 c3
      refine Z_bipush dX8_matchGreatest_114 (by decide) ?_
      obtain ⟨b4, h⟩ := h
      refine Z_iast (zin_c (by decide) (by omega) (by decide) (by decide) b4) dX8_matchGreatest_116 ?_
      obtain ⟨μ5, eμ5⟩ : ∃ z : zM, z = zu μ 151 (wr x3) ((-9)) := ⟨_, rfl⟩
      have h := h μ5 eμ5
      refine Z_mem eμ5 ?_
      refine Z_iinc (lv2 := [some (Rv G 127), some (Iv x1), none, some (Iv (x3 + 1))]) dX8_matchGreatest_117 rfl rfl (by decide) rfl ?_
      refine Z_goto (tgt := 79) dX8_matchGreatest_120 (by decide) ?_
      exact Z_cut h ⟨rfl, rfl, trivial, rfl, trivial⟩
    · have h := h.2 c3
      refine Z_aload_n dX8_matchGreatest_105 rfl ?_
      refine Z_gr (t := 150) zcX8 fl_X8_95 ⟨by decide, by omega⟩ rfl rfl rfl (by decide) (by decide) dX8_matchGreatest_106 ?_
      refine Z_iload_n dX8_matchGreatest_109 rfl ?_
      obtain ⟨b6, h⟩ := h
      refine Z_iald (zin_c (by decide) (by omega) (by decide) (by decide) b6) dX8_matchGreatest_110 ?_
      refine Z_goto (tgt := 116) dX8_matchGreatest_111 (by decide) ?_
      obtain ⟨b7, h⟩ := h
      refine Z_iast (zin_c (by decide) (by omega) (by decide) (by decide) b7) dX8_matchGreatest_116 ?_
      obtain ⟨μ8, eμ8⟩ : ∃ z : zM, z = zu μ 151 (wr x3) (μ 150 (wr x3)) := ⟨_, rfl⟩
      have h := h μ8 eμ8
      refine Z_mem eμ8 ?_
      refine Z_iinc (lv2 := [some (Rv G 127), some (Iv x1), none, some (Iv (x3 + 1))]) dX8_matchGreatest_117 rfl rfl (by decide) rfl ?_
      refine Z_goto (tgt := 79) dX8_matchGreatest_120 (by decide) ?_
      exact Z_cut h ⟨rfl, rfl, trivial, rfl, trivial⟩
abbrev mX8_sheet (G : zG) (n : Nat) (x1 x2 x3 : Int) (μ : zM) (K : Int → zM → Prop) : Prop := zMt G n 3 yX8_sheet cX8_sheet 5 (some .int) [Rv G 127, Iv x1, Iv x2, Iv x3] μ (zKi K)
abbrev pX8_sheet (G : zG) (n : Nat) (K : Int → zM → Prop) (pc : Nat) (lv : List (Option Value)) (st : List Value) (μ : zM) : Prop := Z G (zrm 3 0 0) RX8 "sheet" cX8_sheet 5 (some .int) (zPh G n (zKi K)) 0 0 pc lv st (zE G n μ)
theorem eX8_sheet {G : zG} {n : Nat} (hn : 154 ≤ n) {x1 x2 x3 : Int} {μ : zM} {K : Int → zM → Prop}
    (h : (∀ μ1 : zM, μ1 = zu μ 127 0 0 → mX8_isSheet G n x1 μ1 (fun r2 μ3 => ((¬ wr r2 = 0 → (mX8_isLane G n x2 μ3 (fun r5 μ6 => ((wr r5 = 0 → (K ((-2)) μ6)) ∧ (¬ (wr r5 = 0) → (((wr x3 ≤ wr 60 → (((0 ≤ wr x3 → ((0 ≤ wr x1 ∧ wr x1 < 4) ∧ ∀ μ11 : zM, μ11 = zu μ6 137 (wr x1) x2 → (0 ≤ wr x1 ∧ wr x1 < 4) ∧ ∀ μ13 : zM, μ13 = zu μ11 138 (wr x1) x3 → pX8_sheet G n K 57 [some (Rv G 127), some (Iv x1), none, none, some (Iv 0)] [] μ13)) ∧ (¬ (0 ≤ wr x3) → (mX8_fails G n 4 μ6 (fun r14 μ15 => K r14 μ15)))))) ∧ (¬ (wr x3 ≤ wr 60) → (K ((-2)) μ6))))))))) ∧ (wr r2 = 0 → (K ((-1)) μ3)))))) :
    mX8_sheet G n x1 x2 x3 μ K := by
  refine zMt_of (lv := [some (Rv G 127), some (Iv x1), some (Iv x2), some (Iv x3), none]) (by decide) rfl (Nat.le_of_ble_eq_true rfl) ?_
  show pX8_sheet G n K 0 [some (Rv G 127), some (Iv x1), some (Iv x2), some (Iv x3), none] [] μ
  refine Z_aload_n dX8_sheet_0 rfl ?_
  refine Z_iconst dX8_sheet_1 ?_
  refine Y_pi 0 zcX8 fk_X8_107 ⟨by decide, by omega⟩ rfl rfl rfl (by decide) rfl (tyX8_ok 0 (by decide)) dX8_sheet_2 rfl ?_
  obtain ⟨μ1, eμ1⟩ : ∃ z : zM, z = zu μ 127 0 0 := ⟨_, rfl⟩
  have h := h μ1 eμ1
  refine Z_mem eμ1 ?_
  refine Z_iload_n dX8_sheet_5 rfl ?_
  refine Z_callSi h md_X8_isSheet sv_X8_isSheet lk_X8_191 rfl rfl (Nat.le_of_ble_eq_true rfl) dX8_sheet_6 ⟨by decide, Nat.le_of_ble_eq_true rfl⟩ ⟨Nat.zero_le _, Nat.zero_le _⟩ ?_
  intro r2 μ3 h
  refine Z_if_ne (tgt := 14) dX8_sheet_9 (by decide) (fun c4 => ?_) (fun c4 => ?_)
  · have h := h.1 c4
    refine Z_iload_n dX8_sheet_14 rfl ?_
    refine Z_callSi h md_X8_isLane sv_X8_isLane lk_X8_194 rfl rfl (Nat.le_of_ble_eq_true rfl) dX8_sheet_15 ⟨by decide, Nat.le_of_ble_eq_true rfl⟩ ⟨Nat.zero_le _, Nat.zero_le _⟩ ?_
    intro r5 μ6 h
    refine Z_if_eq (tgt := 27) dX8_sheet_18 (by decide) (fun c7 => ?_) (fun c7 => ?_)
    · have h := h.1 c7
      refine Z_bipush dX8_sheet_27 (by decide) ?_
      exact Z_ireturn dX8_sheet_29 ⟨_, rfl, h⟩
    · have h := h.2 c7
      refine Z_iload_n dX8_sheet_21 rfl ?_
      refine Z_bipush dX8_sheet_22 (by decide) ?_
      refine Z_icmp_le (tgt := 30) dX8_sheet_24 (by decide) (fun c8 => ?_) (fun c8 => ?_)
      · have h := h.1 c8
        refine Z_iload_n dX8_sheet_30 rfl ?_
        refine Z_if_ge (tgt := 40) dX8_sheet_31 (by decide) (fun c9 => ?_) (fun c9 => ?_)
        · have h := h.1 c9
          refine Z_aload_n dX8_sheet_40 rfl ?_
          refine Z_gr (t := 137) zcX8 fl_X8_50 ⟨by decide, by omega⟩ rfl rfl rfl (by decide) (by decide) dX8_sheet_41 ?_
          refine Z_iload_n dX8_sheet_44 rfl ?_
          refine Z_iload_n dX8_sheet_45 rfl ?_
          obtain ⟨b10, h⟩ := h
          refine Z_iast (zin_c (by decide) (by omega) (by decide) (by decide) b10) dX8_sheet_46 ?_
          obtain ⟨μ11, eμ11⟩ : ∃ z : zM, z = zu μ6 137 (wr x1) x2 := ⟨_, rfl⟩
          have h := h μ11 eμ11
          refine Z_mem eμ11 ?_
          refine Z_aload_n dX8_sheet_47 rfl ?_
          refine Z_gr (t := 138) zcX8 fl_X8_53 ⟨by decide, by omega⟩ rfl rfl rfl (by decide) (by decide) dX8_sheet_48 ?_
          refine Z_iload_n dX8_sheet_51 rfl ?_
          refine Z_iload_n dX8_sheet_52 rfl ?_
          obtain ⟨b12, h⟩ := h
          refine Z_iast (zin_c (by decide) (by omega) (by decide) (by decide) b12) dX8_sheet_53 ?_
          obtain ⟨μ13, eμ13⟩ : ∃ z : zM, z = zu μ11 138 (wr x1) x3 := ⟨_, rfl⟩
          have h := h μ13 eμ13
          refine Z_mem eμ13 ?_
          refine Z_iconst dX8_sheet_54 ?_
          refine Z_istore (lv2 := [some (Rv G 127), some (Iv x1), some (Iv x2), some (Iv x3), some (Iv 0)]) dX8_sheet_55 rfl (by decide) rfl ?_
          exact Z_cut h ⟨rfl, rfl, trivial, trivial, rfl, trivial⟩
        · have h := h.2 c9
          refine Z_aload_n dX8_sheet_34 rfl ?_
          refine Z_iconst dX8_sheet_35 ?_
          refine Z_callVi h md_X8_fails sv_X8_fails lk_X8_187 zcX8 rfl ⟨by decide, by omega⟩ rfl rfl rfl rfl (Nat.le_of_ble_eq_true rfl) dX8_sheet_36 ⟨by decide, Nat.le_of_ble_eq_true rfl⟩ ⟨Nat.zero_le _, Nat.zero_le _⟩ ?_
          intro r14 μ15 h
          exact Z_ireturn dX8_sheet_39 ⟨_, rfl, h⟩
      · have h := h.2 c8
        refine Z_bipush dX8_sheet_27 (by decide) ?_
        exact Z_ireturn dX8_sheet_29 ⟨_, rfl, h⟩
  · have h := h.2 c4
    refine Z_iconst dX8_sheet_12 ?_
    exact Z_ireturn dX8_sheet_13 ⟨_, rfl, h⟩
theorem bX8_sheet_57 {G : zG} {n : Nat} (hn : 154 ≤ n) {x1 x4 : Int} {μ : zM} {K : Int → zM → Prop}
    (h : (((wr 60 ≤ wr x4 → (K 1 μ)) ∧ (¬ (wr 60 ≤ wr x4) → ((0 ≤ wr ((60 * x1) + x4) ∧ wr ((60 * x1) + x4) < 240) ∧ ∀ μ3 : zM, μ3 = zu μ 139 (wr ((60 * x1) + x4)) 0 → pX8_sheet G n K 57 [some (Rv G 127), some (Iv x1), none, none, some (Iv (x4 + 1))] [] μ3))))) :
    pX8_sheet G n K 57 [some (Rv G 127), some (Iv x1), none, none, some (Iv x4)] [] μ := by
  refine Z_iload dX8_sheet_57 rfl ?_
  refine Z_bipush dX8_sheet_59 (by decide) ?_
  refine Z_icmp_ge (tgt := 83) dX8_sheet_61 (by decide) (fun c1 => ?_) (fun c1 => ?_)
  · have h := h.1 c1
    refine Z_iconst dX8_sheet_83 ?_
    exact Z_ireturn dX8_sheet_84 ⟨_, rfl, h⟩
  · have h := h.2 c1
    refine Z_aload_n dX8_sheet_64 rfl ?_
    refine Z_gr (t := 139) zcX8 fl_X8_56 ⟨by decide, by omega⟩ rfl rfl rfl (by decide) (by decide) dX8_sheet_65 ?_
    refine Z_bipush dX8_sheet_68 (by decide) ?_
    refine Z_iload_n dX8_sheet_70 rfl ?_
    refine Z_imul dX8_sheet_71 ?_
    refine Z_iload dX8_sheet_72 rfl ?_
    refine Z_iadd dX8_sheet_74 ?_
    refine Z_iconst dX8_sheet_75 ?_
    obtain ⟨b2, h⟩ := h
    refine Z_iast (zin_c (by decide) (by omega) (by decide) (by decide) b2) dX8_sheet_76 ?_
    obtain ⟨μ3, eμ3⟩ : ∃ z : zM, z = zu μ 139 (wr ((60 * x1) + x4)) 0 := ⟨_, rfl⟩
    have h := h μ3 eμ3
    refine Z_mem eμ3 ?_
    refine Z_iinc (lv2 := [some (Rv G 127), some (Iv x1), none, none, some (Iv (x4 + 1))]) dX8_sheet_77 rfl rfl (by decide) rfl ?_
    refine Z_goto (tgt := 57) dX8_sheet_80 (by decide) ?_
    exact Z_cut h ⟨rfl, rfl, trivial, trivial, rfl, trivial⟩
abbrev mX8_lose (G : zG) (n : Nat) (x1 : Int) (μ : zM) (K : Int → zM → Prop) : Prop := zMt G n 3 yX8_lose cX8_lose 3 (some .int) [Rv G 127, Iv x1] μ (zKi K)
abbrev pX8_lose (G : zG) (n : Nat) (K : Int → zM → Prop) (pc : Nat) (lv : List (Option Value)) (st : List Value) (μ : zM) : Prop := Z G (zrm 3 0 0) RX8 "lose" cX8_lose 3 (some .int) (zPh G n (zKi K)) 0 0 pc lv st (zE G n μ)
theorem eX8_lose {G : zG} {n : Nat} (hn : 154 ≤ n) {x1 : Int} {μ : zM} {K : Int → zM → Prop}
    (h : (mX8_isSheet G n x1 μ (fun r1 μ2 => ((¬ wr r1 = 0 → ((0 ≤ wr x1 ∧ wr x1 < 4) ∧ ((¬ wr (μ2 137 (wr x1)) = wr ((-9)) → ((0 ≤ wr x1 ∧ wr x1 < 4) ∧ ∀ μ7 : zM, μ7 = zu μ2 137 (wr x1) ((-9)) → K 1 μ7)) ∧ (wr (μ2 137 (wr x1)) = wr ((-9)) → ((0 ≤ wr x1 ∧ wr x1 < 4) ∧ ∀ μ9 : zM, μ9 = zu μ2 137 (wr x1) ((-9)) → K 0 μ9))))) ∧ (wr r1 = 0 → (K ((-1)) μ2)))))) :
    mX8_lose G n x1 μ K := by
  refine zMt_of (lv := [some (Rv G 127), some (Iv x1), none]) (by decide) rfl (Nat.le_of_ble_eq_true rfl) ?_
  show pX8_lose G n K 0 [some (Rv G 127), some (Iv x1), none] [] μ
  refine Z_iload_n dX8_lose_0 rfl ?_
  refine Z_callSi h md_X8_isSheet sv_X8_isSheet lk_X8_191 rfl rfl (Nat.le_of_ble_eq_true rfl) dX8_lose_1 ⟨by decide, Nat.le_of_ble_eq_true rfl⟩ ⟨Nat.zero_le _, Nat.zero_le _⟩ ?_
  intro r1 μ2 h
  refine Z_if_ne (tgt := 9) dX8_lose_4 (by decide) (fun c3 => ?_) (fun c3 => ?_)
  · have h := h.1 c3
    refine Z_aload_n dX8_lose_9 rfl ?_
    refine Z_gr (t := 137) zcX8 fl_X8_50 ⟨by decide, by omega⟩ rfl rfl rfl (by decide) (by decide) dX8_lose_10 ?_
    refine Z_iload_n dX8_lose_13 rfl ?_
    obtain ⟨b4, h⟩ := h
    refine Z_iald (zin_c (by decide) (by omega) (by decide) (by decide) b4) dX8_lose_14 ?_
    refine Z_bipush dX8_lose_15 (by decide) ?_
    refine Z_icmp_ne (tgt := 24) dX8_lose_17 (by decide) (fun c5 => ?_) (fun c5 => ?_)
    · have h := h.1 c5
      refine Z_iconst dX8_lose_24 ?_
      refine Z_istore_n (lv2 := [some (Rv G 127), some (Iv x1), some (Iv 1)]) dX8_lose_25 rfl (by decide) rfl ?_
      refine Z_aload_n dX8_lose_26 rfl ?_
      refine Z_gr (t := 137) zcX8 fl_X8_50 ⟨by decide, by omega⟩ rfl rfl rfl (by decide) (by decide) dX8_lose_27 ?_
      refine Z_iload_n dX8_lose_30 rfl ?_
      refine Z_bipush dX8_lose_31 (by decide) ?_
      obtain ⟨b6, h⟩ := h
      refine Z_iast (zin_c (by decide) (by omega) (by decide) (by decide) b6) dX8_lose_33 ?_
      obtain ⟨μ7, eμ7⟩ : ∃ z : zM, z = zu μ2 137 (wr x1) ((-9)) := ⟨_, rfl⟩
      have h := h μ7 eμ7
      refine Z_mem eμ7 ?_
      refine Z_iload_n dX8_lose_34 rfl ?_
      exact Z_ireturn dX8_lose_35 ⟨_, rfl, h⟩
    · have h := h.2 c5
      refine Z_iconst dX8_lose_20 ?_
      refine Z_goto (tgt := 25) dX8_lose_21 (by decide) ?_
      refine Z_istore_n (lv2 := [some (Rv G 127), some (Iv x1), some (Iv 0)]) dX8_lose_25 rfl (by decide) rfl ?_
      refine Z_aload_n dX8_lose_26 rfl ?_
      refine Z_gr (t := 137) zcX8 fl_X8_50 ⟨by decide, by omega⟩ rfl rfl rfl (by decide) (by decide) dX8_lose_27 ?_
      refine Z_iload_n dX8_lose_30 rfl ?_
      refine Z_bipush dX8_lose_31 (by decide) ?_
      obtain ⟨b8, h⟩ := h
      refine Z_iast (zin_c (by decide) (by omega) (by decide) (by decide) b8) dX8_lose_33 ?_
      obtain ⟨μ9, eμ9⟩ : ∃ z : zM, z = zu μ2 137 (wr x1) ((-9)) := ⟨_, rfl⟩
      have h := h μ9 eμ9
      refine Z_mem eμ9 ?_
      refine Z_iload_n dX8_lose_34 rfl ?_
      exact Z_ireturn dX8_lose_35 ⟨_, rfl, h⟩
  · have h := h.2 c3
    refine Z_iconst dX8_lose_7 ?_
    exact Z_ireturn dX8_lose_8 ⟨_, rfl, h⟩
abbrev mX8_put (G : zG) (n : Nat) (x1 x2 x3 : Int) (μ : zM) (K : Int → zM → Prop) : Prop := zMt G n 3 yX8_put cX8_put 4 (some .int) [Rv G 127, Iv x1, Iv x2, Iv x3] μ (zKi K)
abbrev pX8_put (G : zG) (n : Nat) (K : Int → zM → Prop) (pc : Nat) (lv : List (Option Value)) (st : List Value) (μ : zM) : Prop := Z G (zrm 3 0 0) RX8 "put" cX8_put 4 (some .int) (zPh G n (zKi K)) 0 0 pc lv st (zE G n μ)
theorem eX8_put {G : zG} {n : Nat} (hn : 154 ≤ n) {x1 x2 x3 : Int} {μ : zM} {K : Int → zM → Prop}
    (h : (∀ μ1 : zM, μ1 = zu μ 127 0 0 → mX8_isSheet G n x1 μ1 (fun r2 μ3 => ((¬ wr r2 = 0 → ((0 ≤ wr x1 ∧ wr x1 < 4) ∧ ((¬ wr (μ3 137 (wr x1)) = wr ((-9)) → ((0 ≤ wr x1 ∧ wr x1 < 4) ∧ mX8_within G n x2 0 ((μ3 138 (wr x1)) - 1) μ3 (fun r8 μ9 => ((¬ wr r8 = 0 → ((0 ≤ wr x1 ∧ wr x1 < 4) ∧ ((¬ wr (μ9 137 (wr x1)) = 0 → ((0 ≤ wr x1 ∧ wr x1 < 4) ∧ ((¬ wr (μ9 137 (wr x1)) = wr 1 → ((0 ≤ wr ((60 * x1) + x2) ∧ wr ((60 * x1) + x2) < 240) ∧ ∀ μ16 : zM, μ16 = zu μ9 139 (wr ((60 * x1) + x2)) x3 → K 1 μ16)) ∧ (wr (μ9 137 (wr x1)) = wr 1 → ((0 ≤ wr ((60 * x1) + x2) ∧ wr ((60 * x1) + x2) < 240) ∧ ∀ μ18 : zM, μ18 = zu μ9 139 (wr ((60 * x1) + x2)) (zi2s x3) → K 1 μ18))))) ∧ (wr (μ9 137 (wr x1)) = 0 → ((0 ≤ wr ((60 * x1) + x2) ∧ wr ((60 * x1) + x2) < 240) ∧ ∀ μ20 : zM, μ20 = zu μ9 139 (wr ((60 * x1) + x2)) (zi2b x3) → K 1 μ20))))) ∧ (wr r8 = 0 → (mX8_fails G n 3 μ9 (fun r21 μ22 => K r21 μ22))))))) ∧ (wr (μ3 137 (wr x1)) = wr ((-9)) → (mX8_fails G n 1 μ3 (fun r23 μ24 => K r23 μ24)))))) ∧ (wr r2 = 0 → (K ((-1)) μ3)))))) :
    mX8_put G n x1 x2 x3 μ K := by
  refine zMt_of (lv := [some (Rv G 127), some (Iv x1), some (Iv x2), some (Iv x3)]) (by decide) rfl (Nat.le_of_ble_eq_true rfl) ?_
  show pX8_put G n K 0 [some (Rv G 127), some (Iv x1), some (Iv x2), some (Iv x3)] [] μ
  refine Z_aload_n dX8_put_0 rfl ?_
  refine Z_iconst dX8_put_1 ?_
  refine Y_pi 0 zcX8 fk_X8_107 ⟨by decide, by omega⟩ rfl rfl rfl (by decide) rfl (tyX8_ok 0 (by decide)) dX8_put_2 rfl ?_
  obtain ⟨μ1, eμ1⟩ : ∃ z : zM, z = zu μ 127 0 0 := ⟨_, rfl⟩
  have h := h μ1 eμ1
  refine Z_mem eμ1 ?_
  refine Z_iload_n dX8_put_5 rfl ?_
  refine Z_callSi h md_X8_isSheet sv_X8_isSheet lk_X8_191 rfl rfl (Nat.le_of_ble_eq_true rfl) dX8_put_6 ⟨by decide, Nat.le_of_ble_eq_true rfl⟩ ⟨Nat.zero_le _, Nat.zero_le _⟩ ?_
  intro r2 μ3 h
  refine Z_if_ne (tgt := 14) dX8_put_9 (by decide) (fun c4 => ?_) (fun c4 => ?_)
  · have h := h.1 c4
    refine Z_aload_n dX8_put_14 rfl ?_
    refine Z_gr (t := 137) zcX8 fl_X8_50 ⟨by decide, by omega⟩ rfl rfl rfl (by decide) (by decide) dX8_put_15 ?_
    refine Z_iload_n dX8_put_18 rfl ?_
    obtain ⟨b5, h⟩ := h
    refine Z_iald (zin_c (by decide) (by omega) (by decide) (by decide) b5) dX8_put_19 ?_
    refine Z_bipush dX8_put_20 (by decide) ?_
    refine Z_icmp_ne (tgt := 31) dX8_put_22 (by decide) (fun c6 => ?_) (fun c6 => ?_)
    · have h := h.1 c6
      refine Z_iload_n dX8_put_31 rfl ?_
      refine Z_iconst dX8_put_32 ?_
      refine Z_aload_n dX8_put_33 rfl ?_
      refine Z_gr (t := 138) zcX8 fl_X8_53 ⟨by decide, by omega⟩ rfl rfl rfl (by decide) (by decide) dX8_put_34 ?_
      refine Z_iload_n dX8_put_37 rfl ?_
      obtain ⟨b7, h⟩ := h
      refine Z_iald (zin_c (by decide) (by omega) (by decide) (by decide) b7) dX8_put_38 ?_
      refine Z_iconst dX8_put_39 ?_
      refine Z_isub dX8_put_40 ?_
      refine Z_callSi h md_X8_within sv_X8_within lk_X8_116 rfl rfl (Nat.le_of_ble_eq_true rfl) dX8_put_41 ⟨by decide, Nat.le_of_ble_eq_true rfl⟩ ⟨Nat.zero_le _, Nat.zero_le _⟩ ?_
      intro r8 μ9 h
      refine Z_if_ne (tgt := 53) dX8_put_44 (by decide) (fun c10 => ?_) (fun c10 => ?_)
      · have h := h.1 c10
        refine Z_aload_n dX8_put_53 rfl ?_
        refine Z_gr (t := 139) zcX8 fl_X8_56 ⟨by decide, by omega⟩ rfl rfl rfl (by decide) (by decide) dX8_put_54 ?_
        refine Z_bipush dX8_put_57 (by decide) ?_
        refine Z_iload_n dX8_put_59 rfl ?_
        refine Z_imul dX8_put_60 ?_
        refine Z_iload_n dX8_put_61 rfl ?_
        refine Z_iadd dX8_put_62 ?_
        refine Z_aload_n dX8_put_63 rfl ?_
        refine Z_gr (t := 137) zcX8 fl_X8_50 ⟨by decide, by omega⟩ rfl rfl rfl (by decide) (by decide) dX8_put_64 ?_
        refine Z_iload_n dX8_put_67 rfl ?_
        obtain ⟨b11, h⟩ := h
        refine Z_iald (zin_c (by decide) (by omega) (by decide) (by decide) b11) dX8_put_68 ?_
        refine Z_if_ne (tgt := 77) dX8_put_69 (by decide) (fun c12 => ?_) (fun c12 => ?_)
        · have h := h.1 c12
          refine Z_aload_n dX8_put_77 rfl ?_
          refine Z_gr (t := 137) zcX8 fl_X8_50 ⟨by decide, by omega⟩ rfl rfl rfl (by decide) (by decide) dX8_put_78 ?_
          refine Z_iload_n dX8_put_81 rfl ?_
          obtain ⟨b13, h⟩ := h
          refine Z_iald (zin_c (by decide) (by omega) (by decide) (by decide) b13) dX8_put_82 ?_
          refine Z_iconst dX8_put_83 ?_
          refine Z_icmp_ne (tgt := 92) dX8_put_84 (by decide) (fun c14 => ?_) (fun c14 => ?_)
          · have h := h.1 c14
            refine Z_iload_n dX8_put_92 rfl ?_
            obtain ⟨b15, h⟩ := h
            refine Z_iast (zin_c (by decide) (by omega) (by decide) (by decide) b15) dX8_put_93 ?_
            obtain ⟨μ16, eμ16⟩ : ∃ z : zM, z = zu μ9 139 (wr ((60 * x1) + x2)) x3 := ⟨_, rfl⟩
            have h := h μ16 eμ16
            refine Z_mem eμ16 ?_
            refine Z_iconst dX8_put_94 ?_
            exact Z_ireturn dX8_put_95 ⟨_, rfl, h⟩
          · have h := h.2 c14
            refine Z_iload_n dX8_put_87 rfl ?_
            refine Z_i2s dX8_put_88 ?_
            refine Z_goto (tgt := 93) dX8_put_89 (by decide) ?_
            obtain ⟨b17, h⟩ := h
            refine Z_iast (zin_c (by decide) (by omega) (by decide) (by decide) b17) dX8_put_93 ?_
            obtain ⟨μ18, eμ18⟩ : ∃ z : zM, z = zu μ9 139 (wr ((60 * x1) + x2)) (zi2s x3) := ⟨_, rfl⟩
            have h := h μ18 eμ18
            refine Z_mem eμ18 ?_
            refine Z_iconst dX8_put_94 ?_
            exact Z_ireturn dX8_put_95 ⟨_, rfl, h⟩
        · have h := h.2 c12
          refine Z_iload_n dX8_put_72 rfl ?_
          refine Z_i2b dX8_put_73 ?_
          refine Z_goto (tgt := 93) dX8_put_74 (by decide) ?_
          obtain ⟨b19, h⟩ := h
          refine Z_iast (zin_c (by decide) (by omega) (by decide) (by decide) b19) dX8_put_93 ?_
          obtain ⟨μ20, eμ20⟩ : ∃ z : zM, z = zu μ9 139 (wr ((60 * x1) + x2)) (zi2b x3) := ⟨_, rfl⟩
          have h := h μ20 eμ20
          refine Z_mem eμ20 ?_
          refine Z_iconst dX8_put_94 ?_
          exact Z_ireturn dX8_put_95 ⟨_, rfl, h⟩
      · have h := h.2 c10
        refine Z_aload_n dX8_put_47 rfl ?_
        refine Z_iconst dX8_put_48 ?_
        refine Z_callVi h md_X8_fails sv_X8_fails lk_X8_187 zcX8 rfl ⟨by decide, by omega⟩ rfl rfl rfl rfl (Nat.le_of_ble_eq_true rfl) dX8_put_49 ⟨by decide, Nat.le_of_ble_eq_true rfl⟩ ⟨Nat.zero_le _, Nat.zero_le _⟩ ?_
        intro r21 μ22 h
        exact Z_ireturn dX8_put_52 ⟨_, rfl, h⟩
    · have h := h.2 c6
      refine Z_aload_n dX8_put_25 rfl ?_
      refine Z_iconst dX8_put_26 ?_
      refine Z_callVi h md_X8_fails sv_X8_fails lk_X8_187 zcX8 rfl ⟨by decide, by omega⟩ rfl rfl rfl rfl (Nat.le_of_ble_eq_true rfl) dX8_put_27 ⟨by decide, Nat.le_of_ble_eq_true rfl⟩ ⟨Nat.zero_le _, Nat.zero_le _⟩ ?_
      intro r23 μ24 h
      exact Z_ireturn dX8_put_30 ⟨_, rfl, h⟩
  · have h := h.2 c4
    refine Z_iconst dX8_put_12 ?_
    exact Z_ireturn dX8_put_13 ⟨_, rfl, h⟩
abbrev mX8_cell (G : zG) (n : Nat) (x1 x2 x3 : Int) (μ : zM) (K : Int → zM → Prop) : Prop := zMt G n 3 yX8_cell cX8_cell 4 (some .long) [Rv G 127, Iv x1, Iv x2, Iv x3] μ (zKl K)
abbrev pX8_cell (G : zG) (n : Nat) (K : Int → zM → Prop) (pc : Nat) (lv : List (Option Value)) (st : List Value) (μ : zM) : Prop := Z G (zrm 3 0 0) RX8 "cell" cX8_cell 4 (some .long) (zPh G n (zKl K)) 0 0 pc lv st (zE G n μ)
theorem eX8_cell {G : zG} {n : Nat} (hn : 154 ≤ n) {x1 x2 x3 : Int} {μ : zM} {K : Int → zM → Prop}
    (h : (∀ μ1 : zM, μ1 = zu μ 127 0 0 → mX8_isSheet G n x1 μ1 (fun r2 μ3 => ((wr r2 = 0 → (K ((-9223372036854775808)) μ3)) ∧ (¬ (wr r2 = 0) → (mX8_isLane G n x3 μ3 (fun r5 μ6 => ((¬ wr r5 = 0 → ((0 ≤ wr x1 ∧ wr x1 < 4) ∧ ((wr (μ6 137 (wr x1)) = wr ((-9)) → ((0 ≤ wr x1 ∧ wr x1 < 4) ∧ ((¬ wr (μ6 137 (wr x1)) = wr ((-9)) → ((0 ≤ wr x1 ∧ wr x1 < 4) ∧ mX8_within G n x2 0 ((μ6 138 (wr x1)) - 1) μ6 (fun r13 μ14 => ((¬ wr r13 = 0 → ((0 ≤ wr ((60 * x1) + x2) ∧ wr ((60 * x1) + x2) < 240) ∧ K (wr (μ14 139 (wr ((60 * x1) + x2)))) μ14)) ∧ (wr r13 = 0 → (mX8_fallsOut G n 3 μ14 (fun r17 μ18 => K r17 μ18))))))) ∧ (wr (μ6 137 (wr x1)) = wr ((-9)) → (mX8_fallsOut G n 1 μ6 (fun r19 μ20 => K r19 μ20)))))) ∧ (¬ (wr (μ6 137 (wr x1)) = wr ((-9))) → ((0 ≤ wr x1 ∧ wr x1 < 4) ∧ ((wr (μ6 137 (wr x1)) = wr x3 → ((0 ≤ wr x1 ∧ wr x1 < 4) ∧ ((¬ wr (μ6 137 (wr x1)) = wr ((-9)) → ((0 ≤ wr x1 ∧ wr x1 < 4) ∧ mX8_within G n x2 0 ((μ6 138 (wr x1)) - 1) μ6 (fun r26 μ27 => ((¬ wr r26 = 0 → ((0 ≤ wr ((60 * x1) + x2) ∧ wr ((60 * x1) + x2) < 240) ∧ K (wr (μ27 139 (wr ((60 * x1) + x2)))) μ27)) ∧ (wr r26 = 0 → (mX8_fallsOut G n 3 μ27 (fun r30 μ31 => K r30 μ31))))))) ∧ (wr (μ6 137 (wr x1)) = wr ((-9)) → (mX8_fallsOut G n 1 μ6 (fun r32 μ33 => K r32 μ33)))))) ∧ (¬ (wr (μ6 137 (wr x1)) = wr x3) → (mX8_fallsOut G n 2 μ6 (fun r34 μ35 => K r34 μ35))))))))) ∧ (wr r5 = 0 → (K ((-9223372036854775808)) μ6)))))))))) :
    mX8_cell G n x1 x2 x3 μ K := by
  refine zMt_of (lv := [some (Rv G 127), some (Iv x1), some (Iv x2), some (Iv x3)]) (by decide) rfl (Nat.le_of_ble_eq_true rfl) ?_
  show pX8_cell G n K 0 [some (Rv G 127), some (Iv x1), some (Iv x2), some (Iv x3)] [] μ
  refine Z_aload_n dX8_cell_0 rfl ?_
  refine Z_iconst dX8_cell_1 ?_
  refine Y_pi 0 zcX8 fk_X8_107 ⟨by decide, by omega⟩ rfl rfl rfl (by decide) rfl (tyX8_ok 0 (by decide)) dX8_cell_2 rfl ?_
  obtain ⟨μ1, eμ1⟩ : ∃ z : zM, z = zu μ 127 0 0 := ⟨_, rfl⟩
  have h := h μ1 eμ1
  refine Z_mem eμ1 ?_
  refine Z_iload_n dX8_cell_5 rfl ?_
  refine Z_callSi h md_X8_isSheet sv_X8_isSheet lk_X8_191 rfl rfl (Nat.le_of_ble_eq_true rfl) dX8_cell_6 ⟨by decide, Nat.le_of_ble_eq_true rfl⟩ ⟨Nat.zero_le _, Nat.zero_le _⟩ ?_
  intro r2 μ3 h
  refine Z_if_eq (tgt := 19) dX8_cell_9 (by decide) (fun c4 => ?_) (fun c4 => ?_)
  · have h := h.1 c4
    refine Z_ldc2 (a := -9223372036854775808) dX8_cell_19 cl_X8_110 (by decide) ?_
    exact Z_lreturn dX8_cell_22 ⟨_, rfl, h⟩
  · have h := h.2 c4
    refine Z_iload_n dX8_cell_12 rfl ?_
    refine Z_callSi h md_X8_isLane sv_X8_isLane lk_X8_194 rfl rfl (Nat.le_of_ble_eq_true rfl) dX8_cell_13 ⟨by decide, Nat.le_of_ble_eq_true rfl⟩ ⟨Nat.zero_le _, Nat.zero_le _⟩ ?_
    intro r5 μ6 h
    refine Z_if_ne (tgt := 23) dX8_cell_16 (by decide) (fun c7 => ?_) (fun c7 => ?_)
    · have h := h.1 c7
      refine Z_aload_n dX8_cell_23 rfl ?_
      refine Z_gr (t := 137) zcX8 fl_X8_50 ⟨by decide, by omega⟩ rfl rfl rfl (by decide) (by decide) dX8_cell_24 ?_
      refine Z_iload_n dX8_cell_27 rfl ?_
      obtain ⟨b8, h⟩ := h
      refine Z_iald (zin_c (by decide) (by omega) (by decide) (by decide) b8) dX8_cell_28 ?_
      refine Z_bipush dX8_cell_29 (by decide) ?_
      refine Z_icmp_eq (tgt := 50) dX8_cell_31 (by decide) (fun c9 => ?_) (fun c9 => ?_)
      · have h := h.1 c9
        refine Z_aload_n dX8_cell_50 rfl ?_
        refine Z_gr (t := 137) zcX8 fl_X8_50 ⟨by decide, by omega⟩ rfl rfl rfl (by decide) (by decide) dX8_cell_51 ?_
        refine Z_iload_n dX8_cell_54 rfl ?_
        obtain ⟨b10, h⟩ := h
        refine Z_iald (zin_c (by decide) (by omega) (by decide) (by decide) b10) dX8_cell_55 ?_
        refine Z_bipush dX8_cell_56 (by decide) ?_
        refine Z_icmp_ne (tgt := 67) dX8_cell_58 (by decide) (fun c11 => ?_) (fun c11 => ?_)
        · have h := h.1 c11
          refine Z_iload_n dX8_cell_67 rfl ?_
          refine Z_iconst dX8_cell_68 ?_
          refine Z_aload_n dX8_cell_69 rfl ?_
          refine Z_gr (t := 138) zcX8 fl_X8_53 ⟨by decide, by omega⟩ rfl rfl rfl (by decide) (by decide) dX8_cell_70 ?_
          refine Z_iload_n dX8_cell_73 rfl ?_
          obtain ⟨b12, h⟩ := h
          refine Z_iald (zin_c (by decide) (by omega) (by decide) (by decide) b12) dX8_cell_74 ?_
          refine Z_iconst dX8_cell_75 ?_
          refine Z_isub dX8_cell_76 ?_
          refine Z_callSi h md_X8_within sv_X8_within lk_X8_116 rfl rfl (Nat.le_of_ble_eq_true rfl) dX8_cell_77 ⟨by decide, Nat.le_of_ble_eq_true rfl⟩ ⟨Nat.zero_le _, Nat.zero_le _⟩ ?_
          intro r13 μ14 h
          refine Z_if_ne (tgt := 89) dX8_cell_80 (by decide) (fun c15 => ?_) (fun c15 => ?_)
          · have h := h.1 c15
            refine Z_aload_n dX8_cell_89 rfl ?_
            refine Z_gr (t := 139) zcX8 fl_X8_56 ⟨by decide, by omega⟩ rfl rfl rfl (by decide) (by decide) dX8_cell_90 ?_
            refine Z_bipush dX8_cell_93 (by decide) ?_
            refine Z_iload_n dX8_cell_95 rfl ?_
            refine Z_imul dX8_cell_96 ?_
            refine Z_iload_n dX8_cell_97 rfl ?_
            refine Z_iadd dX8_cell_98 ?_
            obtain ⟨b16, h⟩ := h
            refine Z_iald (zin_c (by decide) (by omega) (by decide) (by decide) b16) dX8_cell_99 ?_
            refine Z_i2l dX8_cell_100 ?_
            exact Z_lreturn dX8_cell_101 ⟨_, rfl, h⟩
          · have h := h.2 c15
            refine Z_aload_n dX8_cell_83 rfl ?_
            refine Z_iconst dX8_cell_84 ?_
            refine Z_callVl h md_X8_fallsOut sv_X8_fallsOut lk_X8_308 zcX8 rfl ⟨by decide, by omega⟩ rfl rfl rfl rfl (Nat.le_of_ble_eq_true rfl) dX8_cell_85 ⟨by decide, Nat.le_of_ble_eq_true rfl⟩ ⟨Nat.zero_le _, Nat.zero_le _⟩ ?_
            intro r17 μ18 h
            exact Z_lreturn dX8_cell_88 ⟨_, rfl, h⟩
        · have h := h.2 c11
          refine Z_aload_n dX8_cell_61 rfl ?_
          refine Z_iconst dX8_cell_62 ?_
          refine Z_callVl h md_X8_fallsOut sv_X8_fallsOut lk_X8_308 zcX8 rfl ⟨by decide, by omega⟩ rfl rfl rfl rfl (Nat.le_of_ble_eq_true rfl) dX8_cell_63 ⟨by decide, Nat.le_of_ble_eq_true rfl⟩ ⟨Nat.zero_le _, Nat.zero_le _⟩ ?_
          intro r19 μ20 h
          exact Z_lreturn dX8_cell_66 ⟨_, rfl, h⟩
      · have h := h.2 c9
        refine Z_aload_n dX8_cell_34 rfl ?_
        refine Z_gr (t := 137) zcX8 fl_X8_50 ⟨by decide, by omega⟩ rfl rfl rfl (by decide) (by decide) dX8_cell_35 ?_
        refine Z_iload_n dX8_cell_38 rfl ?_
        obtain ⟨b21, h⟩ := h
        refine Z_iald (zin_c (by decide) (by omega) (by decide) (by decide) b21) dX8_cell_39 ?_
        refine Z_iload_n dX8_cell_40 rfl ?_
        refine Z_icmp_eq (tgt := 50) dX8_cell_41 (by decide) (fun c22 => ?_) (fun c22 => ?_)
        · have h := h.1 c22
          refine Z_aload_n dX8_cell_50 rfl ?_
          refine Z_gr (t := 137) zcX8 fl_X8_50 ⟨by decide, by omega⟩ rfl rfl rfl (by decide) (by decide) dX8_cell_51 ?_
          refine Z_iload_n dX8_cell_54 rfl ?_
          obtain ⟨b23, h⟩ := h
          refine Z_iald (zin_c (by decide) (by omega) (by decide) (by decide) b23) dX8_cell_55 ?_
          refine Z_bipush dX8_cell_56 (by decide) ?_
          refine Z_icmp_ne (tgt := 67) dX8_cell_58 (by decide) (fun c24 => ?_) (fun c24 => ?_)
          · have h := h.1 c24
            refine Z_iload_n dX8_cell_67 rfl ?_
            refine Z_iconst dX8_cell_68 ?_
            refine Z_aload_n dX8_cell_69 rfl ?_
            refine Z_gr (t := 138) zcX8 fl_X8_53 ⟨by decide, by omega⟩ rfl rfl rfl (by decide) (by decide) dX8_cell_70 ?_
            refine Z_iload_n dX8_cell_73 rfl ?_
            obtain ⟨b25, h⟩ := h
            refine Z_iald (zin_c (by decide) (by omega) (by decide) (by decide) b25) dX8_cell_74 ?_
            refine Z_iconst dX8_cell_75 ?_
            refine Z_isub dX8_cell_76 ?_
            refine Z_callSi h md_X8_within sv_X8_within lk_X8_116 rfl rfl (Nat.le_of_ble_eq_true rfl) dX8_cell_77 ⟨by decide, Nat.le_of_ble_eq_true rfl⟩ ⟨Nat.zero_le _, Nat.zero_le _⟩ ?_
            intro r26 μ27 h
            refine Z_if_ne (tgt := 89) dX8_cell_80 (by decide) (fun c28 => ?_) (fun c28 => ?_)
            · have h := h.1 c28
              refine Z_aload_n dX8_cell_89 rfl ?_
              refine Z_gr (t := 139) zcX8 fl_X8_56 ⟨by decide, by omega⟩ rfl rfl rfl (by decide) (by decide) dX8_cell_90 ?_
              refine Z_bipush dX8_cell_93 (by decide) ?_
              refine Z_iload_n dX8_cell_95 rfl ?_
              refine Z_imul dX8_cell_96 ?_
              refine Z_iload_n dX8_cell_97 rfl ?_
              refine Z_iadd dX8_cell_98 ?_
              obtain ⟨b29, h⟩ := h
              refine Z_iald (zin_c (by decide) (by omega) (by decide) (by decide) b29) dX8_cell_99 ?_
              refine Z_i2l dX8_cell_100 ?_
              exact Z_lreturn dX8_cell_101 ⟨_, rfl, h⟩
            · have h := h.2 c28
              refine Z_aload_n dX8_cell_83 rfl ?_
              refine Z_iconst dX8_cell_84 ?_
              refine Z_callVl h md_X8_fallsOut sv_X8_fallsOut lk_X8_308 zcX8 rfl ⟨by decide, by omega⟩ rfl rfl rfl rfl (Nat.le_of_ble_eq_true rfl) dX8_cell_85 ⟨by decide, Nat.le_of_ble_eq_true rfl⟩ ⟨Nat.zero_le _, Nat.zero_le _⟩ ?_
              intro r30 μ31 h
              exact Z_lreturn dX8_cell_88 ⟨_, rfl, h⟩
          · have h := h.2 c24
            refine Z_aload_n dX8_cell_61 rfl ?_
            refine Z_iconst dX8_cell_62 ?_
            refine Z_callVl h md_X8_fallsOut sv_X8_fallsOut lk_X8_308 zcX8 rfl ⟨by decide, by omega⟩ rfl rfl rfl rfl (Nat.le_of_ble_eq_true rfl) dX8_cell_63 ⟨by decide, Nat.le_of_ble_eq_true rfl⟩ ⟨Nat.zero_le _, Nat.zero_le _⟩ ?_
            intro r32 μ33 h
            exact Z_lreturn dX8_cell_66 ⟨_, rfl, h⟩
        · have h := h.2 c22
          refine Z_aload_n dX8_cell_44 rfl ?_
          refine Z_iconst dX8_cell_45 ?_
          refine Z_callVl h md_X8_fallsOut sv_X8_fallsOut lk_X8_308 zcX8 rfl ⟨by decide, by omega⟩ rfl rfl rfl rfl (Nat.le_of_ble_eq_true rfl) dX8_cell_46 ⟨by decide, Nat.le_of_ble_eq_true rfl⟩ ⟨Nat.zero_le _, Nat.zero_le _⟩ ?_
          intro r34 μ35 h
          exact Z_lreturn dX8_cell_49 ⟨_, rfl, h⟩
    · have h := h.2 c7
      refine Z_ldc2 (a := -9223372036854775808) dX8_cell_19 cl_X8_110 (by decide) ?_
      exact Z_lreturn dX8_cell_22 ⟨_, rfl, h⟩
abbrev mX8_fewest (G : zG) (n : Nat) (x1 x2 : Int) (μ : zM) (K : Int → zM → Prop) : Prop := zMt G n 4 yX8_fewest cX8_fewest 7 (some .int) [Rv G 127, Iv x1, Iv x2] μ (zKi K)
abbrev pX8_fewest (G : zG) (n : Nat) (K : Int → zM → Prop) (pc : Nat) (lv : List (Option Value)) (st : List Value) (μ : zM) : Prop := Z G (zrm 4 0 0) RX8 "fewest" cX8_fewest 7 (some .int) (zPh G n (zKi K)) 0 0 pc lv st (zE G n μ)
theorem eX8_fewest {G : zG} {n : Nat} (hn : 154 ≤ n) {x1 x2 : Int} {μ : zM} {K : Int → zM → Prop}
    (h : (∀ v1 : Int, v1 = (-9) → pX8_fewest G n K 6 [some (Rv G 127), some (Iv x1), some (Iv x2), some (Iv v1), some (Iv 0), none, none] [] μ)) :
    mX8_fewest G n x1 x2 μ K := by
  refine zMt_of (lv := [some (Rv G 127), some (Iv x1), some (Iv x2), none, none, none, none]) (by decide) rfl (Nat.le_of_ble_eq_true rfl) ?_
  show pX8_fewest G n K 0 [some (Rv G 127), some (Iv x1), some (Iv x2), none, none, none, none] [] μ
  refine Z_bipush dX8_fewest_0 (by decide) ?_
  obtain ⟨v1, ev1⟩ : ∃ z : Int, z = (-9) := ⟨_, rfl⟩
  have h := h v1 ev1
  refine Z_nmi ev1 ?_
  refine Z_istore_n (lv2 := [some (Rv G 127), some (Iv x1), some (Iv x2), some (Iv v1), none, none, none]) dX8_fewest_2 rfl (by decide) rfl ?_
  refine Z_iconst dX8_fewest_3 ?_
  refine Z_istore (lv2 := [some (Rv G 127), some (Iv x1), some (Iv x2), some (Iv v1), some (Iv 0), none, none]) dX8_fewest_4 rfl (by decide) rfl ?_
  exact Z_cut h ⟨rfl, rfl, rfl, rfl, rfl, trivial, trivial, trivial⟩
theorem bX8_fewest_6 {G : zG} {n : Nat} (hn : 154 ≤ n) {x1 x2 x3 x4 : Int} {μ : zM} {K : Int → zM → Prop}
    (h : (((wr (μ 127 4) ≤ wr x4 → (K x3 μ)) ∧ (¬ (wr (μ 127 4) ≤ wr x4) → (wr (μ 127 3) ≠ 0 ∧ mX8_atLeft G n (zdiv x1 (μ 127 3)) x4 μ (fun r3 μ4 => ((wr r3 = wr ((-9)) → (pX8_fewest G n K 38 [some (Rv G 127), some (Iv x1), some (Iv x2), some (Iv x3), some (Iv x4), some (Iv 0), none] [] μ4)) ∧ (¬ (wr r3 = wr ((-9))) → (pX8_fewest G n K 6 [some (Rv G 127), some (Iv x1), some (Iv x2), some (Iv x3), some (Iv (x4 + 1)), none, none] [] μ4))))))))) :
    pX8_fewest G n K 6 [some (Rv G 127), some (Iv x1), some (Iv x2), some (Iv x3), some (Iv x4), none, none] [] μ := by
  refine Z_iload dX8_fewest_6 rfl ?_
  refine Z_aload_n dX8_fewest_8 rfl ?_
  refine Y_gi 4 zcX8 fl_X8_16 ⟨by decide, by omega⟩ rfl rfl rfl (by decide) dX8_fewest_9 rfl ?_
  refine Z_icmp_ge (tgt := 122) dX8_fewest_12 (by decide) (fun c1 => ?_) (fun c1 => ?_)
  · have h := h.1 c1
    refine Z_iload_n dX8_fewest_122 rfl ?_
    exact Z_ireturn dX8_fewest_123 ⟨_, rfl, h⟩
  · have h := h.2 c1
    refine Z_aload_n dX8_fewest_15 rfl ?_
    refine Z_iload_n dX8_fewest_16 rfl ?_
    refine Z_aload_n dX8_fewest_17 rfl ?_
    refine Y_gi 3 zcX8 fl_X8_13 ⟨by decide, by omega⟩ rfl rfl rfl (by decide) dX8_fewest_18 rfl ?_
    obtain ⟨b2, h⟩ := h
    refine Z_idiv dX8_fewest_21 b2 ?_
    refine Z_iload dX8_fewest_22 rfl ?_
    refine Z_callVi h md_X8_atLeft sv_X8_atLeft lk_X8_131 zcX8 rfl ⟨by decide, by omega⟩ rfl rfl rfl rfl (Nat.le_of_ble_eq_true rfl) dX8_fewest_24 ⟨by decide, Nat.le_of_ble_eq_true rfl⟩ ⟨Nat.zero_le _, Nat.zero_le _⟩ ?_
    intro r3 μ4 h
    refine Z_bipush dX8_fewest_27 (by decide) ?_
    refine Z_icmp_eq (tgt := 35) dX8_fewest_29 (by decide) (fun c5 => ?_) (fun c5 => ?_)
    · have h := h.1 c5
      refine Z_iconst dX8_fewest_35 ?_
      refine Z_istore (lv2 := [some (Rv G 127), some (Iv x1), some (Iv x2), some (Iv x3), some (Iv x4), some (Iv 0), none]) dX8_fewest_36 rfl (by decide) rfl ?_
      exact Z_cut h ⟨rfl, rfl, rfl, rfl, rfl, rfl, trivial, trivial⟩
    · have h := h.2 c5
      refine Z_goto (tgt := 116) dX8_fewest_32 (by decide) ?_
      refine Z_iinc (lv2 := [some (Rv G 127), some (Iv x1), some (Iv x2), some (Iv x3), some (Iv (x4 + 1)), none, none]) dX8_fewest_116 rfl rfl (by decide) rfl ?_
      refine Z_goto (tgt := 6) dX8_fewest_119 (by decide) ?_
      exact Z_cut h ⟨rfl, rfl, rfl, rfl, rfl, trivial, trivial, trivial⟩
theorem bX8_fewest_38 {G : zG} {n : Nat} (hn : 154 ≤ n) {x1 x2 x3 x4 x5 : Int} {μ : zM} {K : Int → zM → Prop}
    (h : (((wr (μ 127 4) ≤ wr x5 → (pX8_fewest G n K 6 [some (Rv G 127), some (Iv x1), some (Iv x2), some (Iv x3), some (Iv (x4 + 1)), none, none] [] μ)) ∧ (¬ (wr (μ 127 4) ≤ wr x5) → (wr (μ 127 3) ≠ 0 ∧ mX8_atRight G n (zdiv x2 (μ 127 3)) x5 μ (fun r3 μ4 => ((wr r3 = wr ((-9)) → (wr (μ4 127 3) ≠ 0 ∧ mX8_chainOf G n (zdiv x2 (μ4 127 3)) x4 x5 μ4 (fun r7 μ8 => ((wr x3 = wr ((-9)) → (∀ μ10 : zM, μ10 = zu μ8 127 8 x4 → ∀ μ11 : zM, μ11 = zu μ10 127 9 x5 → pX8_fewest G n K 38 [some (Rv G 127), some (Iv x1), some (Iv x2), some (Iv r7), some (Iv x4), some (Iv (x5 + 1)), none] [] μ11)) ∧ (¬ (wr x3 = wr ((-9))) → (((wr x3 ≤ wr r7 → (pX8_fewest G n K 38 [some (Rv G 127), some (Iv x1), some (Iv x2), some (Iv x3), some (Iv x4), some (Iv (x5 + 1)), none] [] μ8)) ∧ (¬ (wr x3 ≤ wr r7) → (∀ μ13 : zM, μ13 = zu μ8 127 8 x4 → ∀ μ14 : zM, μ14 = zu μ13 127 9 x5 → pX8_fewest G n K 38 [some (Rv G 127), some (Iv x1), some (Iv x2), some (Iv r7), some (Iv x4), some (Iv (x5 + 1)), none] [] μ14))))))))) ∧ (¬ (wr r3 = wr ((-9))) → (pX8_fewest G n K 38 [some (Rv G 127), some (Iv x1), some (Iv x2), some (Iv x3), some (Iv x4), some (Iv (x5 + 1)), none] [] μ4))))))))) :
    pX8_fewest G n K 38 [some (Rv G 127), some (Iv x1), some (Iv x2), some (Iv x3), some (Iv x4), some (Iv x5), none] [] μ := by
  refine Z_iload dX8_fewest_38 rfl ?_
  refine Z_aload_n dX8_fewest_40 rfl ?_
  refine Y_gi 4 zcX8 fl_X8_16 ⟨by decide, by omega⟩ rfl rfl rfl (by decide) dX8_fewest_41 rfl ?_
  refine Z_icmp_ge (tgt := 116) dX8_fewest_44 (by decide) (fun c1 => ?_) (fun c1 => ?_)
  · have h := h.1 c1
    refine Z_iinc (lv2 := [some (Rv G 127), some (Iv x1), some (Iv x2), some (Iv x3), some (Iv (x4 + 1)), some (Iv x5), none]) dX8_fewest_116 rfl rfl (by decide) rfl ?_
    refine Z_goto (tgt := 6) dX8_fewest_119 (by decide) ?_
    exact Z_cut h ⟨rfl, rfl, rfl, rfl, rfl, trivial, trivial, trivial⟩
  · have h := h.2 c1
    refine Z_aload_n dX8_fewest_47 rfl ?_
    refine Z_iload_n dX8_fewest_48 rfl ?_
    refine Z_aload_n dX8_fewest_49 rfl ?_
    refine Y_gi 3 zcX8 fl_X8_13 ⟨by decide, by omega⟩ rfl rfl rfl (by decide) dX8_fewest_50 rfl ?_
    obtain ⟨b2, h⟩ := h
    refine Z_idiv dX8_fewest_53 b2 ?_
    refine Z_iload dX8_fewest_54 rfl ?_
    refine Z_callVi h md_X8_atRight sv_X8_atRight lk_X8_135 zcX8 rfl ⟨by decide, by omega⟩ rfl rfl rfl rfl (Nat.le_of_ble_eq_true rfl) dX8_fewest_56 ⟨by decide, Nat.le_of_ble_eq_true rfl⟩ ⟨Nat.zero_le _, Nat.zero_le _⟩ ?_
    intro r3 μ4 h
    refine Z_bipush dX8_fewest_59 (by decide) ?_
    refine Z_icmp_eq (tgt := 67) dX8_fewest_61 (by decide) (fun c5 => ?_) (fun c5 => ?_)
    · have h := h.1 c5
      refine Z_aload_n dX8_fewest_67 rfl ?_
      refine Z_iload_n dX8_fewest_68 rfl ?_
      refine Z_aload_n dX8_fewest_69 rfl ?_
      refine Y_gi 3 zcX8 fl_X8_13 ⟨by decide, by omega⟩ rfl rfl rfl (by decide) dX8_fewest_70 rfl ?_
      obtain ⟨b6, h⟩ := h
      refine Z_idiv dX8_fewest_73 b6 ?_
      refine Z_iload dX8_fewest_74 rfl ?_
      refine Z_iload dX8_fewest_76 rfl ?_
      refine Z_callVi h md_X8_chainOf sv_X8_chainOf lk_X8_142 zcX8 rfl ⟨by decide, by omega⟩ rfl rfl rfl rfl (Nat.le_of_ble_eq_true rfl) dX8_fewest_78 ⟨by decide, Nat.le_of_ble_eq_true rfl⟩ ⟨Nat.zero_le _, Nat.zero_le _⟩ ?_
      intro r7 μ8 h
      refine Z_istore (lv2 := [some (Rv G 127), some (Iv x1), some (Iv x2), some (Iv x3), some (Iv x4), some (Iv x5), some (Iv r7)]) dX8_fewest_81 rfl (by decide) rfl ?_
      refine Z_iload_n dX8_fewest_83 rfl ?_
      refine Z_bipush dX8_fewest_84 (by decide) ?_
      refine Z_icmp_eq (tgt := 95) dX8_fewest_86 (by decide) (fun c9 => ?_) (fun c9 => ?_)
      · have h := h.1 c9
        refine Z_iload dX8_fewest_95 rfl ?_
        refine Z_istore_n (lv2 := [some (Rv G 127), some (Iv x1), some (Iv x2), some (Iv r7), some (Iv x4), some (Iv x5), some (Iv r7)]) dX8_fewest_97 rfl (by decide) rfl ?_
        refine Z_aload_n dX8_fewest_98 rfl ?_
        refine Z_iload dX8_fewest_99 rfl ?_
        refine Y_pi 8 zcX8 fk_X8_145 ⟨by decide, by omega⟩ rfl rfl rfl (by decide) rfl (tyX8_ok 8 (by decide)) dX8_fewest_101 rfl ?_
        obtain ⟨μ10, eμ10⟩ : ∃ z : zM, z = zu μ8 127 8 x4 := ⟨_, rfl⟩
        have h := h μ10 eμ10
        refine Z_mem eμ10 ?_
        refine Z_aload_n dX8_fewest_104 rfl ?_
        refine Z_iload dX8_fewest_105 rfl ?_
        refine Y_pi 9 zcX8 fk_X8_148 ⟨by decide, by omega⟩ rfl rfl rfl (by decide) rfl (tyX8_ok 9 (by decide)) dX8_fewest_107 rfl ?_
        obtain ⟨μ11, eμ11⟩ : ∃ z : zM, z = zu μ10 127 9 x5 := ⟨_, rfl⟩
        have h := h μ11 eμ11
        refine Z_mem eμ11 ?_
        refine Z_iinc (lv2 := [some (Rv G 127), some (Iv x1), some (Iv x2), some (Iv r7), some (Iv x4), some (Iv (x5 + 1)), some (Iv r7)]) dX8_fewest_110 rfl rfl (by decide) rfl ?_
        refine Z_goto (tgt := 38) dX8_fewest_113 (by decide) ?_
        exact Z_cut h ⟨rfl, rfl, rfl, rfl, rfl, rfl, trivial, trivial⟩
      · have h := h.2 c9
        refine Z_iload dX8_fewest_89 rfl ?_
        refine Z_iload_n dX8_fewest_91 rfl ?_
        refine Z_icmp_ge (tgt := 110) dX8_fewest_92 (by decide) (fun c12 => ?_) (fun c12 => ?_)
        · have h := h.1 c12
          refine Z_iinc (lv2 := [some (Rv G 127), some (Iv x1), some (Iv x2), some (Iv x3), some (Iv x4), some (Iv (x5 + 1)), some (Iv r7)]) dX8_fewest_110 rfl rfl (by decide) rfl ?_
          refine Z_goto (tgt := 38) dX8_fewest_113 (by decide) ?_
          exact Z_cut h ⟨rfl, rfl, rfl, rfl, rfl, rfl, trivial, trivial⟩
        · have h := h.2 c12
          refine Z_iload dX8_fewest_95 rfl ?_
          refine Z_istore_n (lv2 := [some (Rv G 127), some (Iv x1), some (Iv x2), some (Iv r7), some (Iv x4), some (Iv x5), some (Iv r7)]) dX8_fewest_97 rfl (by decide) rfl ?_
          refine Z_aload_n dX8_fewest_98 rfl ?_
          refine Z_iload dX8_fewest_99 rfl ?_
          refine Y_pi 8 zcX8 fk_X8_145 ⟨by decide, by omega⟩ rfl rfl rfl (by decide) rfl (tyX8_ok 8 (by decide)) dX8_fewest_101 rfl ?_
          obtain ⟨μ13, eμ13⟩ : ∃ z : zM, z = zu μ8 127 8 x4 := ⟨_, rfl⟩
          have h := h μ13 eμ13
          refine Z_mem eμ13 ?_
          refine Z_aload_n dX8_fewest_104 rfl ?_
          refine Z_iload dX8_fewest_105 rfl ?_
          refine Y_pi 9 zcX8 fk_X8_148 ⟨by decide, by omega⟩ rfl rfl rfl (by decide) rfl (tyX8_ok 9 (by decide)) dX8_fewest_107 rfl ?_
          obtain ⟨μ14, eμ14⟩ : ∃ z : zM, z = zu μ13 127 9 x5 := ⟨_, rfl⟩
          have h := h μ14 eμ14
          refine Z_mem eμ14 ?_
          refine Z_iinc (lv2 := [some (Rv G 127), some (Iv x1), some (Iv x2), some (Iv r7), some (Iv x4), some (Iv (x5 + 1)), some (Iv r7)]) dX8_fewest_110 rfl rfl (by decide) rfl ?_
          refine Z_goto (tgt := 38) dX8_fewest_113 (by decide) ?_
          exact Z_cut h ⟨rfl, rfl, rfl, rfl, rfl, rfl, trivial, trivial⟩
    · have h := h.2 c5
      refine Z_goto (tgt := 110) dX8_fewest_64 (by decide) ?_
      refine Z_iinc (lv2 := [some (Rv G 127), some (Iv x1), some (Iv x2), some (Iv x3), some (Iv x4), some (Iv (x5 + 1)), none]) dX8_fewest_110 rfl rfl (by decide) rfl ?_
      refine Z_goto (tgt := 38) dX8_fewest_113 (by decide) ?_
      exact Z_cut h ⟨rfl, rfl, rfl, rfl, rfl, rfl, trivial, trivial⟩
abbrev mX8_find (G : zG) (n : Nat) (μ : zM) (K : zM → Prop) : Prop := zMt G n 4 yX8_find cX8_find 1 none [Rv G 127] μ (zKv K)
abbrev pX8_find (G : zG) (n : Nat) (K : zM → Prop) (pc : Nat) (lv : List (Option Value)) (st : List Value) (μ : zM) : Prop := Z G (zrm 4 0 0) RX8 "find" cX8_find 1 none (zPh G n (zKv K)) 0 0 pc lv st (zE G n μ)
theorem eX8_find {G : zG} {n : Nat} (hn : 154 ≤ n) {μ : zM} {K : zM → Prop}
    (h : (((¬ wr (μ 127 12) = wr 1 → (((¬ wr (μ 127 12) = wr 2 → (mX8_findEight G n  μ (fun μ4 => K μ4))) ∧ (wr (μ 127 12) = wr 2 → (mX8_findFour G n 133 0 μ (fun μ6 => K μ6)))))) ∧ (wr (μ 127 12) = wr 1 → (∀ μ7 : zM, μ7 = zu μ 127 18 1 → mX8_firstOfTwo G n 133 0 μ7 (fun r8 μ9 => ∀ μ10 : zM, μ10 = zu μ9 127 19 r8 → K μ10)))))) :
    mX8_find G n  μ K := by
  refine zMt_of (lv := [some (Rv G 127)]) (by decide) rfl (Nat.le_of_ble_eq_true rfl) ?_
  show pX8_find G n K 0 [some (Rv G 127)] [] μ
  refine Z_aload_n dX8_find_0 rfl ?_
  refine Y_gi 12 zcX8 fl_X8_35 ⟨by decide, by omega⟩ rfl rfl rfl (by decide) dX8_find_1 rfl ?_
  refine Z_iconst dX8_find_4 ?_
  refine Z_icmp_ne (tgt := 28) dX8_find_5 (by decide) (fun c1 => ?_) (fun c1 => ?_)
  · have h := h.1 c1
    refine Z_aload_n dX8_find_28 rfl ?_
    refine Y_gi 12 zcX8 fl_X8_35 ⟨by decide, by omega⟩ rfl rfl rfl (by decide) dX8_find_29 rfl ?_
    refine Z_iconst dX8_find_32 ?_
    refine Z_icmp_ne (tgt := 48) dX8_find_33 (by decide) (fun c2 => ?_) (fun c2 => ?_)
    · have h := h.1 c2
      refine Z_aload_n dX8_find_48 rfl ?_
      refine Z_callVv h md_X8_findEight sv_X8_findEight lk_X8_181 zcX8 rfl ⟨by decide, by omega⟩ rfl rfl rfl rfl (Nat.le_of_ble_eq_true rfl) dX8_find_49 ⟨by decide, Nat.le_of_ble_eq_true rfl⟩ ⟨Nat.zero_le _, Nat.zero_le _⟩ ?_
      intro μ4 h
      exact Z_return dX8_find_52 ⟨rfl, h⟩
    · have h := h.2 c2
      refine Z_aload_n dX8_find_36 rfl ?_
      refine Z_aload_n dX8_find_37 rfl ?_
      refine Z_gr (t := 133) zcX8 fl_X8_38 ⟨by decide, by omega⟩ rfl rfl rfl (by decide) (by decide) dX8_find_38 ?_
      refine Z_iconst dX8_find_41 ?_
      refine Z_callVv h md_X8_findFour sv_X8_findFour lk_X8_177 zcX8 rfl ⟨by decide, by omega⟩ rfl rfl rfl rfl (Nat.le_of_ble_eq_true rfl) dX8_find_42 ⟨by decide, Nat.le_of_ble_eq_true rfl⟩ ⟨Nat.zero_le _, Nat.zero_le _⟩ ?_
      intro μ6 h
      refine Z_goto (tgt := 52) dX8_find_45 (by decide) ?_
      exact Z_return dX8_find_52 ⟨rfl, h⟩
  · have h := h.2 c1
    refine Z_aload_n dX8_find_8 rfl ?_
    refine Z_lconst (a := 1) dX8_find_9 (by decide) ?_
    refine Y_pl 18 zcX8 fk_X8_160 ⟨by decide, by omega⟩ rfl rfl rfl (by decide) rfl (tyX8_ok 18 (by decide)) dX8_find_10 rfl ?_
    obtain ⟨μ7, eμ7⟩ : ∃ z : zM, z = zu μ 127 18 1 := ⟨_, rfl⟩
    have h := h μ7 eμ7
    refine Z_mem eμ7 ?_
    refine Z_aload_n dX8_find_13 rfl ?_
    refine Z_aload_n dX8_find_14 rfl ?_
    refine Z_gr (t := 133) zcX8 fl_X8_38 ⟨by decide, by omega⟩ rfl rfl rfl (by decide) (by decide) dX8_find_15 ?_
    refine Z_iconst dX8_find_18 ?_
    refine Z_callSl h md_X8_firstOfTwo sv_X8_firstOfTwo lk_X8_173 rfl rfl (Nat.le_of_ble_eq_true rfl) dX8_find_19 ⟨by decide, Nat.le_of_ble_eq_true rfl⟩ ⟨Nat.zero_le _, Nat.zero_le _⟩ ?_
    intro r8 μ9 h
    refine Y_pl 19 zcX8 fk_X8_166 ⟨by decide, by omega⟩ rfl rfl rfl (by decide) rfl (tyX8_ok 19 (by decide)) dX8_find_22 rfl ?_
    obtain ⟨μ10, eμ10⟩ : ∃ z : zM, z = zu μ9 127 19 r8 := ⟨_, rfl⟩
    have h := h μ10 eμ10
    refine Z_mem eμ10 ?_
    refine Z_goto (tgt := 52) dX8_find_25 (by decide) ?_
    exact Z_return dX8_find_52 ⟨rfl, h⟩
abbrev mX8_carry (G : zG) (n : Nat) (x1 x2 : Int) (μ : zM) (K : Int → zM → Prop) : Prop := zMt G n 4 yX8_carry cX8_carry 6 (some .int) [Rv G 127, Iv x1, Lv x2] μ (zKi K)
abbrev pX8_carry (G : zG) (n : Nat) (K : Int → zM → Prop) (pc : Nat) (lv : List (Option Value)) (st : List Value) (μ : zM) : Prop := Z G (zrm 4 0 0) RX8 "carry" cX8_carry 6 (some .int) (zPh G n (zKi K)) 0 0 pc lv st (zE G n μ)
theorem eX8_carry {G : zG} {n : Nat} (hn : 154 ≤ n) {x1 x2 : Int} {μ : zM} {K : Int → zM → Prop}
    (h : (mX8_within G n x1 1 3 μ (fun r1 μ2 => ((wr r1 = 0 → (K ((-2)) μ2)) ∧ (¬ (wr r1 = 0) → (((wr (zlcmp x2 0) < 0 → (K ((-2)) μ2)) ∧ (¬ (wr (zlcmp x2 0) < 0) → (((¬ wr x1 = wr 1 → (((¬ wr x1 = wr 2 → (((wr (zlcmp x2 (zlshl 1 20)) < 0 → (∀ μ8 : zM, μ8 = zu μ2 127 12 x1 → ∀ v9 : Int, v9 = zl2i x2 → pX8_carry G n K 58 [some (Rv G 127), some (Iv x1), none, none, some (Iv v9), some (Iv 0)] [] μ8)) ∧ (¬ (wr (zlcmp x2 (zlshl 1 20)) < 0) → (K ((-2)) μ2))))) ∧ (wr x1 = wr 2 → (((wr (zlcmp x2 (zlshl 1 6)) < 0 → (∀ μ11 : zM, μ11 = zu μ2 127 12 x1 → ∀ v12 : Int, v12 = zl2i x2 → pX8_carry G n K 58 [some (Rv G 127), some (Iv x1), none, none, some (Iv v12), some (Iv 0)] [] μ11)) ∧ (¬ (wr (zlcmp x2 (zlshl 1 6)) < 0) → (K ((-2)) μ2)))))))) ∧ (wr x1 = wr 1 → (((wr (zlcmp x2 (zlshl 1 1)) < 0 → (∀ μ14 : zM, μ14 = zu μ2 127 12 x1 → ∀ v15 : Int, v15 = zl2i x2 → pX8_carry G n K 58 [some (Rv G 127), some (Iv x1), none, none, some (Iv v15), some (Iv 0)] [] μ14)) ∧ (¬ (wr (zlcmp x2 (zlshl 1 1)) < 0) → (K ((-2)) μ2))))))))))))))) :
    mX8_carry G n x1 x2 μ K := by
  refine zMt_of (lv := [some (Rv G 127), some (Iv x1), some (Lv x2), none, none, none]) (by decide) rfl (Nat.le_of_ble_eq_true rfl) ?_
  show pX8_carry G n K 0 [some (Rv G 127), some (Iv x1), some (Lv x2), none, none, none] [] μ
  refine Z_iload_n dX8_carry_0 rfl ?_
  refine Z_iconst dX8_carry_1 ?_
  refine Z_iconst dX8_carry_2 ?_
  refine Z_callSi h md_X8_within sv_X8_within lk_X8_116 rfl rfl (Nat.le_of_ble_eq_true rfl) dX8_carry_3 ⟨by decide, Nat.le_of_ble_eq_true rfl⟩ ⟨Nat.zero_le _, Nat.zero_le _⟩ ?_
  intro r1 μ2 h
  refine Z_if_eq (tgt := 43) dX8_carry_6 (by decide) (fun c3 => ?_) (fun c3 => ?_)
  · have h := h.1 c3
    refine Z_bipush dX8_carry_43 (by decide) ?_
    exact Z_ireturn dX8_carry_45 ⟨_, rfl, h⟩
  · have h := h.2 c3
    refine Z_lload_n dX8_carry_9 rfl ?_
    refine Z_lconst (a := 0) dX8_carry_10 (by decide) ?_
    refine Z_lcmp dX8_carry_11 ?_
    refine Z_if_lt (tgt := 43) dX8_carry_12 (by decide) (fun c4 => ?_) (fun c4 => ?_)
    · have h := h.1 c4
      refine Z_bipush dX8_carry_43 (by decide) ?_
      exact Z_ireturn dX8_carry_45 ⟨_, rfl, h⟩
    · have h := h.2 c4
      refine Z_lload_n dX8_carry_15 rfl ?_
      refine Z_lconst (a := 1) dX8_carry_16 (by decide) ?_
      refine Z_iload_n dX8_carry_17 rfl ?_
      refine Z_iconst dX8_carry_18 ?_
      refine Z_icmp_ne (tgt := 26) dX8_carry_19 (by decide) (fun c5 => ?_) (fun c5 => ?_)
      · have h := h.1 c5
        refine Z_iload_n dX8_carry_26 rfl ?_
        refine Z_iconst dX8_carry_27 ?_
        refine Z_icmp_ne (tgt := 36) dX8_carry_28 (by decide) (fun c6 => ?_) (fun c6 => ?_)
        · have h := h.1 c6
          refine Z_bipush dX8_carry_36 (by decide) ?_
          refine Z_lshl dX8_carry_38 ?_
          refine Z_lcmp dX8_carry_39 ?_
          refine Z_if_lt (tgt := 46) dX8_carry_40 (by decide) (fun c7 => ?_) (fun c7 => ?_)
          · have h := h.1 c7
            refine Z_aload_n dX8_carry_46 rfl ?_
            refine Z_iload_n dX8_carry_47 rfl ?_
            refine Y_pi 12 zcX8 fk_X8_35 ⟨by decide, by omega⟩ rfl rfl rfl (by decide) rfl (tyX8_ok 12 (by decide)) dX8_carry_48 rfl ?_
            obtain ⟨μ8, eμ8⟩ : ∃ z : zM, z = zu μ2 127 12 x1 := ⟨_, rfl⟩
            have h := h μ8 eμ8
            refine Z_mem eμ8 ?_
            refine Z_lload_n dX8_carry_51 rfl ?_
            refine Z_l2i dX8_carry_52 ?_
            obtain ⟨v9, ev9⟩ : ∃ z : Int, z = zl2i x2 := ⟨_, rfl⟩
            have h := h v9 ev9
            refine Z_nmi ev9 ?_
            refine Z_istore (lv2 := [some (Rv G 127), some (Iv x1), some (Lv x2), none, some (Iv v9), none]) dX8_carry_53 rfl (by decide) rfl ?_
            refine Z_iconst dX8_carry_55 ?_
            refine Z_istore (lv2 := [some (Rv G 127), some (Iv x1), some (Lv x2), none, some (Iv v9), some (Iv 0)]) dX8_carry_56 rfl (by decide) rfl ?_
            exact Z_cut h ⟨rfl, rfl, trivial, trivial, rfl, rfl, trivial⟩
          · have h := h.2 c7
            refine Z_bipush dX8_carry_43 (by decide) ?_
            exact Z_ireturn dX8_carry_45 ⟨_, rfl, h⟩
        · have h := h.2 c6
          refine Z_bipush dX8_carry_31 (by decide) ?_
          refine Z_goto (tgt := 38) dX8_carry_33 (by decide) ?_
          refine Z_lshl dX8_carry_38 ?_
          refine Z_lcmp dX8_carry_39 ?_
          refine Z_if_lt (tgt := 46) dX8_carry_40 (by decide) (fun c10 => ?_) (fun c10 => ?_)
          · have h := h.1 c10
            refine Z_aload_n dX8_carry_46 rfl ?_
            refine Z_iload_n dX8_carry_47 rfl ?_
            refine Y_pi 12 zcX8 fk_X8_35 ⟨by decide, by omega⟩ rfl rfl rfl (by decide) rfl (tyX8_ok 12 (by decide)) dX8_carry_48 rfl ?_
            obtain ⟨μ11, eμ11⟩ : ∃ z : zM, z = zu μ2 127 12 x1 := ⟨_, rfl⟩
            have h := h μ11 eμ11
            refine Z_mem eμ11 ?_
            refine Z_lload_n dX8_carry_51 rfl ?_
            refine Z_l2i dX8_carry_52 ?_
            obtain ⟨v12, ev12⟩ : ∃ z : Int, z = zl2i x2 := ⟨_, rfl⟩
            have h := h v12 ev12
            refine Z_nmi ev12 ?_
            refine Z_istore (lv2 := [some (Rv G 127), some (Iv x1), some (Lv x2), none, some (Iv v12), none]) dX8_carry_53 rfl (by decide) rfl ?_
            refine Z_iconst dX8_carry_55 ?_
            refine Z_istore (lv2 := [some (Rv G 127), some (Iv x1), some (Lv x2), none, some (Iv v12), some (Iv 0)]) dX8_carry_56 rfl (by decide) rfl ?_
            exact Z_cut h ⟨rfl, rfl, trivial, trivial, rfl, rfl, trivial⟩
          · have h := h.2 c10
            refine Z_bipush dX8_carry_43 (by decide) ?_
            exact Z_ireturn dX8_carry_45 ⟨_, rfl, h⟩
      · have h := h.2 c5
        refine Z_iconst dX8_carry_22 ?_
        refine Z_goto (tgt := 38) dX8_carry_23 (by decide) ?_
        refine Z_lshl dX8_carry_38 ?_
        refine Z_lcmp dX8_carry_39 ?_
        refine Z_if_lt (tgt := 46) dX8_carry_40 (by decide) (fun c13 => ?_) (fun c13 => ?_)
        · have h := h.1 c13
          refine Z_aload_n dX8_carry_46 rfl ?_
          refine Z_iload_n dX8_carry_47 rfl ?_
          refine Y_pi 12 zcX8 fk_X8_35 ⟨by decide, by omega⟩ rfl rfl rfl (by decide) rfl (tyX8_ok 12 (by decide)) dX8_carry_48 rfl ?_
          obtain ⟨μ14, eμ14⟩ : ∃ z : zM, z = zu μ2 127 12 x1 := ⟨_, rfl⟩
          have h := h μ14 eμ14
          refine Z_mem eμ14 ?_
          refine Z_lload_n dX8_carry_51 rfl ?_
          refine Z_l2i dX8_carry_52 ?_
          obtain ⟨v15, ev15⟩ : ∃ z : Int, z = zl2i x2 := ⟨_, rfl⟩
          have h := h v15 ev15
          refine Z_nmi ev15 ?_
          refine Z_istore (lv2 := [some (Rv G 127), some (Iv x1), some (Lv x2), none, some (Iv v15), none]) dX8_carry_53 rfl (by decide) rfl ?_
          refine Z_iconst dX8_carry_55 ?_
          refine Z_istore (lv2 := [some (Rv G 127), some (Iv x1), some (Lv x2), none, some (Iv v15), some (Iv 0)]) dX8_carry_56 rfl (by decide) rfl ?_
          exact Z_cut h ⟨rfl, rfl, trivial, trivial, rfl, rfl, trivial⟩
        · have h := h.2 c13
          refine Z_bipush dX8_carry_43 (by decide) ?_
          exact Z_ireturn dX8_carry_45 ⟨_, rfl, h⟩
theorem bX8_carry_58 {G : zG} {n : Nat} (hn : 154 ≤ n) {x1 x4 x5 : Int} {μ : zM} {K : Int → zM → Prop}
    (h : (mX8_wide G n  μ (fun r1 μ2 => ((wr r1 ≤ wr x5 → (mX8_wide G n  μ2 (fun r4 μ5 => K r4 μ5))) ∧ (¬ (wr r1 ≤ wr x5) → (((¬ wr x1 = wr 1 → (((¬ wr x1 = wr 2 → (mX8_carriedEight G n x5 x4 μ2 (fun r8 μ9 => (0 ≤ wr x5 ∧ wr x5 < 8) ∧ ∀ μ11 : zM, μ11 = zu μ9 133 (wr x5) r8 → pX8_carry G n K 58 [some (Rv G 127), some (Iv x1), none, none, some (Iv x4), some (Iv (x5 + 1))] [] μ11))) ∧ (wr x1 = wr 2 → (mX8_carriedFour G n x5 x4 μ2 (fun r12 μ13 => (0 ≤ wr x5 ∧ wr x5 < 8) ∧ ∀ μ15 : zM, μ15 = zu μ13 133 (wr x5) r12 → pX8_carry G n K 58 [some (Rv G 127), some (Iv x1), none, none, some (Iv x4), some (Iv (x5 + 1))] [] μ15)))))) ∧ (wr x1 = wr 1 → (mX8_carriedTwo G n x5 x4 μ2 (fun r16 μ17 => (0 ≤ wr x5 ∧ wr x5 < 8) ∧ ∀ μ19 : zM, μ19 = zu μ17 133 (wr x5) r16 → pX8_carry G n K 58 [some (Rv G 127), some (Iv x1), none, none, some (Iv x4), some (Iv (x5 + 1))] [] μ19)))))))))) :
    pX8_carry G n K 58 [some (Rv G 127), some (Iv x1), none, none, some (Iv x4), some (Iv x5)] [] μ := by
  refine Z_iload dX8_carry_58 rfl ?_
  refine Z_aload_n dX8_carry_60 rfl ?_
  refine Z_callVi h md_X8_wide sv_X8_wide lk_X8_201 zcX8 rfl ⟨by decide, by omega⟩ rfl rfl rfl rfl (Nat.le_of_ble_eq_true rfl) dX8_carry_61 ⟨by decide, Nat.le_of_ble_eq_true rfl⟩ ⟨Nat.zero_le _, Nat.zero_le _⟩ ?_
  intro r1 μ2 h
  refine Z_icmp_ge (tgt := 117) dX8_carry_64 (by decide) (fun c3 => ?_) (fun c3 => ?_)
  · have h := h.1 c3
    refine Z_aload_n dX8_carry_117 rfl ?_
    refine Z_callVi h md_X8_wide sv_X8_wide lk_X8_201 zcX8 rfl ⟨by decide, by omega⟩ rfl rfl rfl rfl (Nat.le_of_ble_eq_true rfl) dX8_carry_118 ⟨by decide, Nat.le_of_ble_eq_true rfl⟩ ⟨Nat.zero_le _, Nat.zero_le _⟩ ?_
    intro r4 μ5 h
    exact Z_ireturn dX8_carry_121 ⟨_, rfl, h⟩
  · have h := h.2 c3
    refine Z_aload_n dX8_carry_67 rfl ?_
    refine Z_gr (t := 133) zcX8 fl_X8_38 ⟨by decide, by omega⟩ rfl rfl rfl (by decide) (by decide) dX8_carry_68 ?_
    refine Z_iload dX8_carry_71 rfl ?_
    refine Z_iload_n dX8_carry_73 rfl ?_
    refine Z_iconst dX8_carry_74 ?_
    refine Z_icmp_ne (tgt := 88) dX8_carry_75 (by decide) (fun c6 => ?_) (fun c6 => ?_)
    · have h := h.1 c6
      refine Z_iload_n dX8_carry_88 rfl ?_
      refine Z_iconst dX8_carry_89 ?_
      refine Z_icmp_ne (tgt := 103) dX8_carry_90 (by decide) (fun c7 => ?_) (fun c7 => ?_)
      · have h := h.1 c7
        refine Z_iload dX8_carry_103 rfl ?_
        refine Z_iload dX8_carry_105 rfl ?_
        refine Z_callSi h md_X8_carriedEight sv_X8_carriedEight lk_X8_213 rfl rfl (Nat.le_of_ble_eq_true rfl) dX8_carry_107 ⟨by decide, Nat.le_of_ble_eq_true rfl⟩ ⟨Nat.zero_le _, Nat.zero_le _⟩ ?_
        intro r8 μ9 h
        obtain ⟨b10, h⟩ := h
        refine Z_iast (zin_c (by decide) (by omega) (by decide) (by decide) b10) dX8_carry_110 ?_
        obtain ⟨μ11, eμ11⟩ : ∃ z : zM, z = zu μ9 133 (wr x5) r8 := ⟨_, rfl⟩
        have h := h μ11 eμ11
        refine Z_mem eμ11 ?_
        refine Z_iinc (lv2 := [some (Rv G 127), some (Iv x1), none, none, some (Iv x4), some (Iv (x5 + 1))]) dX8_carry_111 rfl rfl (by decide) rfl ?_
        refine Z_goto (tgt := 58) dX8_carry_114 (by decide) ?_
        exact Z_cut h ⟨rfl, rfl, trivial, trivial, rfl, rfl, trivial⟩
      · have h := h.2 c7
        refine Z_iload dX8_carry_93 rfl ?_
        refine Z_iload dX8_carry_95 rfl ?_
        refine Z_callSi h md_X8_carriedFour sv_X8_carriedFour lk_X8_210 rfl rfl (Nat.le_of_ble_eq_true rfl) dX8_carry_97 ⟨by decide, Nat.le_of_ble_eq_true rfl⟩ ⟨Nat.zero_le _, Nat.zero_le _⟩ ?_
        intro r12 μ13 h
        refine Z_goto (tgt := 110) dX8_carry_100 (by decide) ?_
        obtain ⟨b14, h⟩ := h
        refine Z_iast (zin_c (by decide) (by omega) (by decide) (by decide) b14) dX8_carry_110 ?_
        obtain ⟨μ15, eμ15⟩ : ∃ z : zM, z = zu μ13 133 (wr x5) r12 := ⟨_, rfl⟩
        have h := h μ15 eμ15
        refine Z_mem eμ15 ?_
        refine Z_iinc (lv2 := [some (Rv G 127), some (Iv x1), none, none, some (Iv x4), some (Iv (x5 + 1))]) dX8_carry_111 rfl rfl (by decide) rfl ?_
        refine Z_goto (tgt := 58) dX8_carry_114 (by decide) ?_
        exact Z_cut h ⟨rfl, rfl, trivial, trivial, rfl, rfl, trivial⟩
    · have h := h.2 c6
      refine Z_iload dX8_carry_78 rfl ?_
      refine Z_iload dX8_carry_80 rfl ?_
      refine Z_callSi h md_X8_carriedTwo sv_X8_carriedTwo lk_X8_207 rfl rfl (Nat.le_of_ble_eq_true rfl) dX8_carry_82 ⟨by decide, Nat.le_of_ble_eq_true rfl⟩ ⟨Nat.zero_le _, Nat.zero_le _⟩ ?_
      intro r16 μ17 h
      refine Z_goto (tgt := 110) dX8_carry_85 (by decide) ?_
      obtain ⟨b18, h⟩ := h
      refine Z_iast (zin_c (by decide) (by omega) (by decide) (by decide) b18) dX8_carry_110 ?_
      obtain ⟨μ19, eμ19⟩ : ∃ z : zM, z = zu μ17 133 (wr x5) r16 := ⟨_, rfl⟩
      have h := h μ19 eμ19
      refine Z_mem eμ19 ?_
      refine Z_iinc (lv2 := [some (Rv G 127), some (Iv x1), none, none, some (Iv x4), some (Iv (x5 + 1))]) dX8_carry_111 rfl rfl (by decide) rfl ?_
      refine Z_goto (tgt := 58) dX8_carry_114 (by decide) ?_
      exact Z_cut h ⟨rfl, rfl, trivial, trivial, rfl, rfl, trivial⟩
abbrev mX8_clash (G : zG) (n : Nat) (x1 x2 : Int) (μ : zM) (K : Int → zM → Prop) : Prop := zMt G n 4 yX8_clash cX8_clash 3 (some .int) [Rv G 127, Iv x1, Iv x2] μ (zKi K)
abbrev pX8_clash (G : zG) (n : Nat) (K : Int → zM → Prop) (pc : Nat) (lv : List (Option Value)) (st : List Value) (μ : zM) : Prop := Z G (zrm 4 0 0) RX8 "clash" cX8_clash 3 (some .int) (zPh G n (zKi K)) 0 0 pc lv st (zE G n μ)
theorem eX8_clash {G : zG} {n : Nat} (hn : 154 ≤ n) {x1 x2 : Int} {μ : zM} {K : Int → zM → Prop}
    (h : (mX8_isEnd G n x1 μ (fun r1 μ2 => ((wr r1 = 0 → (K ((-1)) μ2)) ∧ (¬ (wr r1 = 0) → (mX8_isEnd G n x2 μ2 (fun r4 μ5 => ((¬ wr r4 = 0 → (((¬ wr x1 = wr x2 → (mX8_clashOf G n x1 x2 μ5 (fun r8 μ9 => K r8 μ9))) ∧ (wr x1 = wr x2 → (K ((-3)) μ5))))) ∧ (wr r4 = 0 → (K ((-1)) μ5)))))))))) :
    mX8_clash G n x1 x2 μ K := by
  refine zMt_of (lv := [some (Rv G 127), some (Iv x1), some (Iv x2)]) (by decide) rfl (Nat.le_of_ble_eq_true rfl) ?_
  show pX8_clash G n K 0 [some (Rv G 127), some (Iv x1), some (Iv x2)] [] μ
  refine Z_aload_n dX8_clash_0 rfl ?_
  refine Z_iload_n dX8_clash_1 rfl ?_
  refine Z_callVi h md_X8_isEnd sv_X8_isEnd lk_X8_204 zcX8 rfl ⟨by decide, by omega⟩ rfl rfl rfl rfl (Nat.le_of_ble_eq_true rfl) dX8_clash_2 ⟨by decide, Nat.le_of_ble_eq_true rfl⟩ ⟨Nat.zero_le _, Nat.zero_le _⟩ ?_
  intro r1 μ2 h
  refine Z_if_eq (tgt := 16) dX8_clash_5 (by decide) (fun c3 => ?_) (fun c3 => ?_)
  · have h := h.1 c3
    refine Z_iconst dX8_clash_16 ?_
    exact Z_ireturn dX8_clash_17 ⟨_, rfl, h⟩
  · have h := h.2 c3
    refine Z_aload_n dX8_clash_8 rfl ?_
    refine Z_iload_n dX8_clash_9 rfl ?_
    refine Z_callVi h md_X8_isEnd sv_X8_isEnd lk_X8_204 zcX8 rfl ⟨by decide, by omega⟩ rfl rfl rfl rfl (Nat.le_of_ble_eq_true rfl) dX8_clash_10 ⟨by decide, Nat.le_of_ble_eq_true rfl⟩ ⟨Nat.zero_le _, Nat.zero_le _⟩ ?_
    intro r4 μ5 h
    refine Z_if_ne (tgt := 18) dX8_clash_13 (by decide) (fun c6 => ?_) (fun c6 => ?_)
    · have h := h.1 c6
      refine Z_iload_n dX8_clash_18 rfl ?_
      refine Z_iload_n dX8_clash_19 rfl ?_
      refine Z_icmp_ne (tgt := 28) dX8_clash_20 (by decide) (fun c7 => ?_) (fun c7 => ?_)
      · have h := h.1 c7
        refine Z_aload_n dX8_clash_28 rfl ?_
        refine Z_iload_n dX8_clash_29 rfl ?_
        refine Z_iload_n dX8_clash_30 rfl ?_
        refine Z_callVi h md_X8_clashOf sv_X8_clashOf lk_X8_219 zcX8 rfl ⟨by decide, by omega⟩ rfl rfl rfl rfl (Nat.le_of_ble_eq_true rfl) dX8_clash_31 ⟨by decide, Nat.le_of_ble_eq_true rfl⟩ ⟨Nat.zero_le _, Nat.zero_le _⟩ ?_
        intro r8 μ9 h
        exact Z_ireturn dX8_clash_34 ⟨_, rfl, h⟩
      · have h := h.2 c7
        refine Z_bipush dX8_clash_23 (by decide) ?_
        refine Z_goto (tgt := 34) dX8_clash_25 (by decide) ?_
        exact Z_ireturn dX8_clash_34 ⟨_, rfl, h⟩
    · have h := h.2 c6
      refine Z_iconst dX8_clash_16 ?_
      exact Z_ireturn dX8_clash_17 ⟨_, rfl, h⟩
abbrev mX8_mayBe (G : zG) (n : Nat) (x1 : Int) (μ : zM) (K : Int → zM → Prop) : Prop := zMt G n 4 yX8_mayBe cX8_mayBe 3 (some .boolean) [Rv G 127, Iv x1] μ (zKi K)
abbrev pX8_mayBe (G : zG) (n : Nat) (K : Int → zM → Prop) (pc : Nat) (lv : List (Option Value)) (st : List Value) (μ : zM) : Prop := Z G (zrm 4 0 0) RX8 "mayBe" cX8_mayBe 3 (some .boolean) (zPh G n (zKi K)) 0 0 pc lv st (zE G n μ)
theorem eX8_mayBe {G : zG} {n : Nat} (hn : 154 ≤ n) {x1 : Int} {μ : zM} {K : Int → zM → Prop}
    (h : (pX8_mayBe G n K 2 [some (Rv G 127), some (Iv x1), some (Iv 0)] [] μ)) :
    mX8_mayBe G n x1 μ K := by
  refine zMt_of (lv := [some (Rv G 127), some (Iv x1), none]) (by decide) rfl (Nat.le_of_ble_eq_true rfl) ?_
  show pX8_mayBe G n K 0 [some (Rv G 127), some (Iv x1), none] [] μ
  refine Z_iconst dX8_mayBe_0 ?_
  refine Z_istore_n (lv2 := [some (Rv G 127), some (Iv x1), some (Iv 0)]) dX8_mayBe_1 rfl (by decide) rfl ?_
  exact Z_cut h ⟨rfl, rfl, rfl, trivial⟩
theorem bX8_mayBe_2 {G : zG} {n : Nat} (hn : 154 ≤ n) {x1 x2 : Int} {μ : zM} {K : Int → zM → Prop}
    (h : (((wr x1 ≤ wr x2 → (K 1 μ)) ∧ (¬ (wr x1 ≤ wr x2) → ((0 ≤ wr x2 ∧ wr x2 < 8) ∧ (0 ≤ wr x1 ∧ wr x1 < 8) ∧ ((¬ wr (μ 140 (wr x2)) = wr (μ 140 (wr x1)) → (pX8_mayBe G n K 2 [some (Rv G 127), some (Iv x1), some (Iv (x2 + 1))] [] μ)) ∧ (wr (μ 140 (wr x2)) = wr (μ 140 (wr x1)) → (mX8_clashOf G n x1 x2 μ (fun r5 μ6 => ((wr r5 = wr ((-9)) → (pX8_mayBe G n K 2 [some (Rv G 127), some (Iv x1), some (Iv (x2 + 1))] [] μ6)) ∧ (¬ (wr r5 = wr ((-9))) → (K 0 μ6)))))))))))) :
    pX8_mayBe G n K 2 [some (Rv G 127), some (Iv x1), some (Iv x2)] [] μ := by
  refine Z_iload_n dX8_mayBe_2 rfl ?_
  refine Z_iload_n dX8_mayBe_3 rfl ?_
  refine Z_icmp_ge (tgt := 41) dX8_mayBe_4 (by decide) (fun c1 => ?_) (fun c1 => ?_)
  · have h := h.1 c1
    refine Z_iconst dX8_mayBe_41 ?_
    exact Z_zreturn dX8_mayBe_42 (by decide) ⟨_, rfl, h⟩
  · have h := h.2 c1
    refine Z_aload_n dX8_mayBe_7 rfl ?_
    refine Z_gr (t := 140) zcX8 fl_X8_59 ⟨by decide, by omega⟩ rfl rfl rfl (by decide) (by decide) dX8_mayBe_8 ?_
    refine Z_iload_n dX8_mayBe_11 rfl ?_
    obtain ⟨b2, h⟩ := h
    refine Z_iald (zin_c (by decide) (by omega) (by decide) (by decide) b2) dX8_mayBe_12 ?_
    refine Z_aload_n dX8_mayBe_13 rfl ?_
    refine Z_gr (t := 140) zcX8 fl_X8_59 ⟨by decide, by omega⟩ rfl rfl rfl (by decide) (by decide) dX8_mayBe_14 ?_
    refine Z_iload_n dX8_mayBe_17 rfl ?_
    obtain ⟨b3, h⟩ := h
    refine Z_iald (zin_c (by decide) (by omega) (by decide) (by decide) b3) dX8_mayBe_18 ?_
    refine Z_icmp_ne (tgt := 35) dX8_mayBe_19 (by decide) (fun c4 => ?_) (fun c4 => ?_)
    · have h := h.1 c4
      refine Z_iinc (lv2 := [some (Rv G 127), some (Iv x1), some (Iv (x2 + 1))]) dX8_mayBe_35 rfl rfl (by decide) rfl ?_
      refine Z_goto (tgt := 2) dX8_mayBe_38 (by decide) ?_
      exact Z_cut h ⟨rfl, rfl, rfl, trivial⟩
    · have h := h.2 c4
      refine Z_aload_n dX8_mayBe_22 rfl ?_
      refine Z_iload_n dX8_mayBe_23 rfl ?_
      refine Z_iload_n dX8_mayBe_24 rfl ?_
      refine Z_callVi h md_X8_clashOf sv_X8_clashOf lk_X8_219 zcX8 rfl ⟨by decide, by omega⟩ rfl rfl rfl rfl (Nat.le_of_ble_eq_true rfl) dX8_mayBe_25 ⟨by decide, Nat.le_of_ble_eq_true rfl⟩ ⟨Nat.zero_le _, Nat.zero_le _⟩ ?_
      intro r5 μ6 h
      refine Z_bipush dX8_mayBe_28 (by decide) ?_
      refine Z_icmp_eq (tgt := 35) dX8_mayBe_30 (by decide) (fun c7 => ?_) (fun c7 => ?_)
      · have h := h.1 c7
        refine Z_iinc (lv2 := [some (Rv G 127), some (Iv x1), some (Iv (x2 + 1))]) dX8_mayBe_35 rfl rfl (by decide) rfl ?_
        refine Z_goto (tgt := 2) dX8_mayBe_38 (by decide) ?_
        exact Z_cut h ⟨rfl, rfl, rfl, trivial⟩
      · have h := h.2 c7
        refine Z_iconst dX8_mayBe_33 ?_
        exact Z_zreturn dX8_mayBe_34 (by decide) ⟨_, rfl, h⟩
abbrev mX8_parted (G : zG) (n : Nat) (x1 x2 : Int) (μ : zM) (K : Int → zM → Prop) : Prop := zMt G n 4 yX8_parted cX8_parted 5 (some .int) [Rv G 127, Iv x1, Iv x2] μ (zKi K)
abbrev pX8_parted (G : zG) (n : Nat) (K : Int → zM → Prop) (pc : Nat) (lv : List (Option Value)) (st : List Value) (μ : zM) : Prop := Z G (zrm 4 0 0) RX8 "parted" cX8_parted 5 (some .int) (zPh G n (zKi K)) 0 0 pc lv st (zE G n μ)
theorem eX8_parted {G : zG} {n : Nat} (hn : 154 ≤ n) {x1 x2 : Int} {μ : zM} {K : Int → zM → Prop}
    (h : (mX8_span G n  μ (fun r1 μ2 => mX8_within G n x1 0 (r1 - 1) μ2 (fun r3 μ4 => ((wr r3 = 0 → (K ((-1)) μ4)) ∧ (¬ (wr r3 = 0) → (mX8_isPort G n x2 μ4 (fun r6 μ7 => ((¬ wr r6 = 0 → (pX8_parted G n K 29 [some (Rv G 127), some (Iv x1), some (Iv x2), none, some (Iv 0)] [] μ7)) ∧ (wr r6 = 0 → (K ((-1)) μ7))))))))))) :
    mX8_parted G n x1 x2 μ K := by
  refine zMt_of (lv := [some (Rv G 127), some (Iv x1), some (Iv x2), none, none]) (by decide) rfl (Nat.le_of_ble_eq_true rfl) ?_
  show pX8_parted G n K 0 [some (Rv G 127), some (Iv x1), some (Iv x2), none, none] [] μ
  refine Z_aload_n dX8_parted_0 rfl ?_
  refine Z_callVi h md_X8_span sv_X8_span lk_X8_287 zcX8 rfl ⟨by decide, by omega⟩ rfl rfl rfl rfl (Nat.le_of_ble_eq_true rfl) dX8_parted_1 ⟨by decide, Nat.le_of_ble_eq_true rfl⟩ ⟨Nat.zero_le _, Nat.zero_le _⟩ ?_
  intro r1 μ2 h
  refine Z_istore_n (lv2 := [some (Rv G 127), some (Iv x1), some (Iv x2), some (Iv r1), none]) dX8_parted_4 rfl (by decide) rfl ?_
  refine Z_iload_n dX8_parted_5 rfl ?_
  refine Z_iconst dX8_parted_6 ?_
  refine Z_iload_n dX8_parted_7 rfl ?_
  refine Z_iconst dX8_parted_8 ?_
  refine Z_isub dX8_parted_9 ?_
  refine Z_callSi h md_X8_within sv_X8_within lk_X8_116 rfl rfl (Nat.le_of_ble_eq_true rfl) dX8_parted_10 ⟨by decide, Nat.le_of_ble_eq_true rfl⟩ ⟨Nat.zero_le _, Nat.zero_le _⟩ ?_
  intro r3 μ4 h
  refine Z_if_eq (tgt := 24) dX8_parted_13 (by decide) (fun c5 => ?_) (fun c5 => ?_)
  · have h := h.1 c5
    refine Z_iconst dX8_parted_24 ?_
    exact Z_ireturn dX8_parted_25 ⟨_, rfl, h⟩
  · have h := h.2 c5
    refine Z_aload_n dX8_parted_16 rfl ?_
    refine Z_iload_n dX8_parted_17 rfl ?_
    refine Z_callVi h md_X8_isPort sv_X8_isPort lk_X8_258 zcX8 rfl ⟨by decide, by omega⟩ rfl rfl rfl rfl (Nat.le_of_ble_eq_true rfl) dX8_parted_18 ⟨by decide, Nat.le_of_ble_eq_true rfl⟩ ⟨Nat.zero_le _, Nat.zero_le _⟩ ?_
    intro r6 μ7 h
    refine Z_if_ne (tgt := 26) dX8_parted_21 (by decide) (fun c8 => ?_) (fun c8 => ?_)
    · have h := h.1 c8
      refine Z_iconst dX8_parted_26 ?_
      refine Z_istore (lv2 := [some (Rv G 127), some (Iv x1), some (Iv x2), some (Iv r1), some (Iv 0)]) dX8_parted_27 rfl (by decide) rfl ?_
      exact Z_cut h ⟨rfl, rfl, rfl, trivial, rfl, trivial⟩
    · have h := h.2 c8
      refine Z_iconst dX8_parted_24 ?_
      exact Z_ireturn dX8_parted_25 ⟨_, rfl, h⟩
theorem bX8_parted_29 {G : zG} {n : Nat} (hn : 154 ≤ n) {x1 x2 x4 : Int} {μ : zM} {K : Int → zM → Prop}
    (h : (((wr x1 < wr x4 → ((0 ≤ wr x2 ∧ wr x2 < 5) ∧ ((¬ wr (μ 150 (wr x2)) = wr (μ 127 30) → ((0 ≤ wr x2 ∧ wr x2 < 5) ∧ K (μ 150 (wr x2)) μ)) ∧ (wr (μ 150 (wr x2)) = wr (μ 127 30) → (K ((-9)) μ))))) ∧ (¬ (wr x1 < wr x4) → (mX8_takeRound G n  μ (fun μ6 => pX8_parted G n K 29 [some (Rv G 127), some (Iv x1), some (Iv x2), none, some (Iv (x4 + 1))] [] μ6)))))) :
    pX8_parted G n K 29 [some (Rv G 127), some (Iv x1), some (Iv x2), none, some (Iv x4)] [] μ := by
  refine Z_iload dX8_parted_29 rfl ?_
  refine Z_iload_n dX8_parted_31 rfl ?_
  refine Z_icmp_gt (tgt := 45) dX8_parted_32 (by decide) (fun c1 => ?_) (fun c1 => ?_)
  · have h := h.1 c1
    refine Z_aload_n dX8_parted_45 rfl ?_
    refine Z_gr (t := 150) zcX8 fl_X8_95 ⟨by decide, by omega⟩ rfl rfl rfl (by decide) (by decide) dX8_parted_46 ?_
    refine Z_iload_n dX8_parted_49 rfl ?_
    obtain ⟨b2, h⟩ := h
    refine Z_iald (zin_c (by decide) (by omega) (by decide) (by decide) b2) dX8_parted_50 ?_
    refine Z_aload_n dX8_parted_51 rfl ?_
    refine Y_gi 30 zcX8 fl_X8_77 ⟨by decide, by omega⟩ rfl rfl rfl (by decide) dX8_parted_52 rfl ?_
    refine Z_icmp_ne (tgt := 63) dX8_parted_55 (by decide) (fun c3 => ?_) (fun c3 => ?_)
    · have h := h.1 c3
      refine Z_aload_n dX8_parted_63 rfl ?_
      refine Z_gr (t := 150) zcX8 fl_X8_95 ⟨by decide, by omega⟩ rfl rfl rfl (by decide) (by decide) dX8_parted_64 ?_
      refine Z_iload_n dX8_parted_67 rfl ?_
      obtain ⟨b4, h⟩ := h
      refine Z_iald (zin_c (by decide) (by omega) (by decide) (by decide) b4) dX8_parted_68 ?_
      exact Z_ireturn dX8_parted_69 ⟨_, rfl, h⟩
    · have h := h.2 c3
      refine Z_bipush dX8_parted_58 (by decide) ?_
      refine Z_goto (tgt := 69) dX8_parted_60 (by decide) ?_
      exact Z_ireturn dX8_parted_69 ⟨_, rfl, h⟩
  · have h := h.2 c1
    refine Z_aload_n dX8_parted_35 rfl ?_
    refine Z_callVv h md_X8_takeRound sv_X8_takeRound lk_X8_290 zcX8 rfl ⟨by decide, by omega⟩ rfl rfl rfl rfl (Nat.le_of_ble_eq_true rfl) dX8_parted_36 ⟨by decide, Nat.le_of_ble_eq_true rfl⟩ ⟨Nat.zero_le _, Nat.zero_le _⟩ ?_
    intro μ6 h
    refine Z_iinc (lv2 := [some (Rv G 127), some (Iv x1), some (Iv x2), none, some (Iv (x4 + 1))]) dX8_parted_39 rfl rfl (by decide) rfl ?_
    refine Z_goto (tgt := 29) dX8_parted_42 (by decide) ?_
    exact Z_cut h ⟨rfl, rfl, rfl, trivial, rfl, trivial⟩
abbrev mX8_changes (G : zG) (n : Nat) (μ : zM) (K : Int → zM → Prop) : Prop := zMt G n 4 yX8_changes cX8_changes 6 (some .int) [Rv G 127] μ (zKi K)
abbrev pX8_changes (G : zG) (n : Nat) (K : Int → zM → Prop) (pc : Nat) (lv : List (Option Value)) (st : List Value) (μ : zM) : Prop := Z G (zrm 4 0 0) RX8 "changes" cX8_changes 6 (some .int) (zPh G n (zKi K)) 0 0 pc lv st (zE G n μ)
theorem eX8_changes {G : zG} {n : Nat} (hn : 154 ≤ n) {μ : zM} {K : Int → zM → Prop}
    (h : (mX8_span G n  μ (fun r1 μ2 => pX8_changes G n K 9 [some (Rv G 127), some (Iv r1), some (Iv 0), some (Iv 0), none, none] [] μ2))) :
    mX8_changes G n  μ K := by
  refine zMt_of (lv := [some (Rv G 127), none, none, none, none, none]) (by decide) rfl (Nat.le_of_ble_eq_true rfl) ?_
  show pX8_changes G n K 0 [some (Rv G 127), none, none, none, none, none] [] μ
  refine Z_aload_n dX8_changes_0 rfl ?_
  refine Z_callVi h md_X8_span sv_X8_span lk_X8_287 zcX8 rfl ⟨by decide, by omega⟩ rfl rfl rfl rfl (Nat.le_of_ble_eq_true rfl) dX8_changes_1 ⟨by decide, Nat.le_of_ble_eq_true rfl⟩ ⟨Nat.zero_le _, Nat.zero_le _⟩ ?_
  intro r1 μ2 h
  refine Z_istore_n (lv2 := [some (Rv G 127), some (Iv r1), none, none, none, none]) dX8_changes_4 rfl (by decide) rfl ?_
  refine Z_iconst dX8_changes_5 ?_
  refine Z_istore_n (lv2 := [some (Rv G 127), some (Iv r1), some (Iv 0), none, none, none]) dX8_changes_6 rfl (by decide) rfl ?_
  refine Z_iconst dX8_changes_7 ?_
  refine Z_istore_n (lv2 := [some (Rv G 127), some (Iv r1), some (Iv 0), some (Iv 0), none, none]) dX8_changes_8 rfl (by decide) rfl ?_
  exact Z_cut h ⟨rfl, rfl, rfl, rfl, trivial, trivial, trivial⟩
theorem bX8_changes_9 {G : zG} {n : Nat} (hn : 154 ≤ n) {x1 x2 x3 : Int} {μ : zM} {K : Int → zM → Prop}
    (h : (((wr x1 ≤ wr x3 → (K x2 μ)) ∧ (¬ (wr x1 ≤ wr x3) → (mX8_takeRound G n  μ (fun μ3 => ((¬ wr x3 = 0 → (pX8_changes G n K 32 [some (Rv G 127), some (Iv x1), some (Iv x2), some (Iv x3), some (Iv 0), some (Iv 0)] [] μ3)) ∧ (wr x3 = 0 → (pX8_changes G n K 32 [some (Rv G 127), some (Iv x1), some (Iv x2), some (Iv x3), some (Iv 1), some (Iv 0)] [] μ3))))))))) :
    pX8_changes G n K 9 [some (Rv G 127), some (Iv x1), some (Iv x2), some (Iv x3), none, none] [] μ := by
  refine Z_iload_n dX8_changes_9 rfl ?_
  refine Z_iload_n dX8_changes_10 rfl ?_
  refine Z_icmp_ge (tgt := 107) dX8_changes_11 (by decide) (fun c1 => ?_) (fun c1 => ?_)
  · have h := h.1 c1
    refine Z_iload_n dX8_changes_107 rfl ?_
    exact Z_ireturn dX8_changes_108 ⟨_, rfl, h⟩
  · have h := h.2 c1
    refine Z_aload_n dX8_changes_14 rfl ?_
    refine Z_callVv h md_X8_takeRound sv_X8_takeRound lk_X8_290 zcX8 rfl ⟨by decide, by omega⟩ rfl rfl rfl rfl (Nat.le_of_ble_eq_true rfl) dX8_changes_15 ⟨by decide, Nat.le_of_ble_eq_true rfl⟩ ⟨Nat.zero_le _, Nat.zero_le _⟩ ?_
    intro μ3 h
    refine Z_iload_n dX8_changes_18 rfl ?_
    refine Z_if_ne (tgt := 26) dX8_changes_19 (by decide) (fun c4 => ?_) (fun c4 => ?_)
    · have h := h.1 c4
      refine Z_iconst dX8_changes_26 ?_
      refine Z_istore (lv2 := [some (Rv G 127), some (Iv x1), some (Iv x2), some (Iv x3), some (Iv 0), none]) dX8_changes_27 rfl (by decide) rfl ?_
      refine Z_iconst dX8_changes_29 ?_
      refine Z_istore (lv2 := [some (Rv G 127), some (Iv x1), some (Iv x2), some (Iv x3), some (Iv 0), some (Iv 0)]) dX8_changes_30 rfl (by decide) rfl ?_
      exact Z_cut h ⟨rfl, rfl, rfl, rfl, rfl, rfl, trivial⟩
    · have h := h.2 c4
      refine Z_iconst dX8_changes_22 ?_
      refine Z_goto (tgt := 27) dX8_changes_23 (by decide) ?_
      refine Z_istore (lv2 := [some (Rv G 127), some (Iv x1), some (Iv x2), some (Iv x3), some (Iv 1), none]) dX8_changes_27 rfl (by decide) rfl ?_
      refine Z_iconst dX8_changes_29 ?_
      refine Z_istore (lv2 := [some (Rv G 127), some (Iv x1), some (Iv x2), some (Iv x3), some (Iv 1), some (Iv 0)]) dX8_changes_30 rfl (by decide) rfl ?_
      exact Z_cut h ⟨rfl, rfl, rfl, rfl, rfl, rfl, trivial⟩
theorem bX8_changes_32 {G : zG} {n : Nat} (hn : 154 ≤ n) {x1 x2 x3 x4 x5 : Int} {μ : zM} {K : Int → zM → Prop}
    (h : (((wr (μ 127 30) ≤ wr x5 → (((wr x4 = 0 → (pX8_changes G n K 9 [some (Rv G 127), some (Iv x1), some (Iv (x2 + 0)), some (Iv (x3 + 1)), none, none] [] μ)) ∧ (¬ (wr x4 = 0) → (pX8_changes G n K 9 [some (Rv G 127), some (Iv x1), some (Iv (x2 + 1)), some (Iv (x3 + 1)), none, none] [] μ))))) ∧ (¬ (wr (μ 127 30) ≤ wr x5) → ((0 ≤ wr x5 ∧ wr x5 < 5) ∧ (0 ≤ wr x5 ∧ wr x5 < 5) ∧ ((wr (μ 150 (wr x5)) = wr (μ 152 (wr x5)) → (∀ v6 : Int, v6 = zor x4 0 → (0 ≤ wr x5 ∧ wr x5 < 5) ∧ (0 ≤ wr x5 ∧ wr x5 < 5) ∧ ∀ μ9 : zM, μ9 = zu μ 152 (wr x5) (μ 150 (wr x5)) → pX8_changes G n K 32 [some (Rv G 127), some (Iv x1), some (Iv x2), some (Iv x3), some (Iv v6), some (Iv (x5 + 1))] [] μ9)) ∧ (¬ (wr (μ 150 (wr x5)) = wr (μ 152 (wr x5))) → (∀ v10 : Int, v10 = zor x4 1 → (0 ≤ wr x5 ∧ wr x5 < 5) ∧ (0 ≤ wr x5 ∧ wr x5 < 5) ∧ ∀ μ13 : zM, μ13 = zu μ 152 (wr x5) (μ 150 (wr x5)) → pX8_changes G n K 32 [some (Rv G 127), some (Iv x1), some (Iv x2), some (Iv x3), some (Iv v10), some (Iv (x5 + 1))] [] μ13)))))))) :
    pX8_changes G n K 32 [some (Rv G 127), some (Iv x1), some (Iv x2), some (Iv x3), some (Iv x4), some (Iv x5)] [] μ := by
  refine Z_iload dX8_changes_32 rfl ?_
  refine Z_aload_n dX8_changes_34 rfl ?_
  refine Y_gi 30 zcX8 fl_X8_77 ⟨by decide, by omega⟩ rfl rfl rfl (by decide) dX8_changes_35 rfl ?_
  refine Z_icmp_ge (tgt := 88) dX8_changes_38 (by decide) (fun c1 => ?_) (fun c1 => ?_)
  · have h := h.1 c1
    refine Z_iload_n dX8_changes_88 rfl ?_
    refine Z_iload dX8_changes_89 rfl ?_
    refine Z_if_eq (tgt := 98) dX8_changes_91 (by decide) (fun c2 => ?_) (fun c2 => ?_)
    · have h := h.1 c2
      refine Z_iconst dX8_changes_98 ?_
      refine Z_iadd dX8_changes_99 ?_
      refine Z_istore_n (lv2 := [some (Rv G 127), some (Iv x1), some (Iv (x2 + 0)), some (Iv x3), some (Iv x4), some (Iv x5)]) dX8_changes_100 rfl (by decide) rfl ?_
      refine Z_iinc (lv2 := [some (Rv G 127), some (Iv x1), some (Iv (x2 + 0)), some (Iv (x3 + 1)), some (Iv x4), some (Iv x5)]) dX8_changes_101 rfl rfl (by decide) rfl ?_
      refine Z_goto (tgt := 9) dX8_changes_104 (by decide) ?_
      exact Z_cut h ⟨rfl, rfl, rfl, rfl, trivial, trivial, trivial⟩
    · have h := h.2 c2
      refine Z_iconst dX8_changes_94 ?_
      refine Z_goto (tgt := 99) dX8_changes_95 (by decide) ?_
      refine Z_iadd dX8_changes_99 ?_
      refine Z_istore_n (lv2 := [some (Rv G 127), some (Iv x1), some (Iv (x2 + 1)), some (Iv x3), some (Iv x4), some (Iv x5)]) dX8_changes_100 rfl (by decide) rfl ?_
      refine Z_iinc (lv2 := [some (Rv G 127), some (Iv x1), some (Iv (x2 + 1)), some (Iv (x3 + 1)), some (Iv x4), some (Iv x5)]) dX8_changes_101 rfl rfl (by decide) rfl ?_
      refine Z_goto (tgt := 9) dX8_changes_104 (by decide) ?_
      exact Z_cut h ⟨rfl, rfl, rfl, rfl, trivial, trivial, trivial⟩
  · have h := h.2 c1
    refine Z_iload dX8_changes_41 rfl ?_
    refine Z_aload_n dX8_changes_43 rfl ?_
    refine Z_gr (t := 150) zcX8 fl_X8_95 ⟨by decide, by omega⟩ rfl rfl rfl (by decide) (by decide) dX8_changes_44 ?_
    refine Z_iload dX8_changes_47 rfl ?_
    obtain ⟨b3, h⟩ := h
    refine Z_iald (zin_c (by decide) (by omega) (by decide) (by decide) b3) dX8_changes_49 ?_
    refine Z_aload_n dX8_changes_50 rfl ?_
    refine Z_gr (t := 152) zcX8 fl_X8_101 ⟨by decide, by omega⟩ rfl rfl rfl (by decide) (by decide) dX8_changes_51 ?_
    refine Z_iload dX8_changes_54 rfl ?_
    obtain ⟨b4, h⟩ := h
    refine Z_iald (zin_c (by decide) (by omega) (by decide) (by decide) b4) dX8_changes_56 ?_
    refine Z_icmp_eq (tgt := 64) dX8_changes_57 (by decide) (fun c5 => ?_) (fun c5 => ?_)
    · have h := h.1 c5
      refine Z_iconst dX8_changes_64 ?_
      refine Z_ior dX8_changes_65 ?_
      obtain ⟨v6, ev6⟩ : ∃ z : Int, z = zor x4 0 := ⟨_, rfl⟩
      have h := h v6 ev6
      refine Z_nmi ev6 ?_
      refine Z_istore (lv2 := [some (Rv G 127), some (Iv x1), some (Iv x2), some (Iv x3), some (Iv v6), some (Iv x5)]) dX8_changes_66 rfl (by decide) rfl ?_
      refine Z_aload_n dX8_changes_68 rfl ?_
      refine Z_gr (t := 152) zcX8 fl_X8_101 ⟨by decide, by omega⟩ rfl rfl rfl (by decide) (by decide) dX8_changes_69 ?_
      refine Z_iload dX8_changes_72 rfl ?_
      refine Z_aload_n dX8_changes_74 rfl ?_
      refine Z_gr (t := 150) zcX8 fl_X8_95 ⟨by decide, by omega⟩ rfl rfl rfl (by decide) (by decide) dX8_changes_75 ?_
      refine Z_iload dX8_changes_78 rfl ?_
      obtain ⟨b7, h⟩ := h
      refine Z_iald (zin_c (by decide) (by omega) (by decide) (by decide) b7) dX8_changes_80 ?_
      obtain ⟨b8, h⟩ := h
      refine Z_iast (zin_c (by decide) (by omega) (by decide) (by decide) b8) dX8_changes_81 ?_
      obtain ⟨μ9, eμ9⟩ : ∃ z : zM, z = zu μ 152 (wr x5) (μ 150 (wr x5)) := ⟨_, rfl⟩
      have h := h μ9 eμ9
      refine Z_mem eμ9 ?_
      refine Z_iinc (lv2 := [some (Rv G 127), some (Iv x1), some (Iv x2), some (Iv x3), some (Iv v6), some (Iv (x5 + 1))]) dX8_changes_82 rfl rfl (by decide) rfl ?_
      refine Z_goto (tgt := 32) dX8_changes_85 (by decide) ?_
      exact Z_cut h ⟨rfl, rfl, rfl, rfl, rfl, rfl, trivial⟩
    · have h := h.2 c5
      refine Z_iconst dX8_changes_60 ?_
      refine Z_goto (tgt := 65) dX8_changes_61 (by decide) ?_
      refine Z_ior dX8_changes_65 ?_
      obtain ⟨v10, ev10⟩ : ∃ z : Int, z = zor x4 1 := ⟨_, rfl⟩
      have h := h v10 ev10
      refine Z_nmi ev10 ?_
      refine Z_istore (lv2 := [some (Rv G 127), some (Iv x1), some (Iv x2), some (Iv x3), some (Iv v10), some (Iv x5)]) dX8_changes_66 rfl (by decide) rfl ?_
      refine Z_aload_n dX8_changes_68 rfl ?_
      refine Z_gr (t := 152) zcX8 fl_X8_101 ⟨by decide, by omega⟩ rfl rfl rfl (by decide) (by decide) dX8_changes_69 ?_
      refine Z_iload dX8_changes_72 rfl ?_
      refine Z_aload_n dX8_changes_74 rfl ?_
      refine Z_gr (t := 150) zcX8 fl_X8_95 ⟨by decide, by omega⟩ rfl rfl rfl (by decide) (by decide) dX8_changes_75 ?_
      refine Z_iload dX8_changes_78 rfl ?_
      obtain ⟨b11, h⟩ := h
      refine Z_iald (zin_c (by decide) (by omega) (by decide) (by decide) b11) dX8_changes_80 ?_
      obtain ⟨b12, h⟩ := h
      refine Z_iast (zin_c (by decide) (by omega) (by decide) (by decide) b12) dX8_changes_81 ?_
      obtain ⟨μ13, eμ13⟩ : ∃ z : zM, z = zu μ 152 (wr x5) (μ 150 (wr x5)) := ⟨_, rfl⟩
      have h := h μ13 eμ13
      refine Z_mem eμ13 ?_
      refine Z_iinc (lv2 := [some (Rv G 127), some (Iv x1), some (Iv x2), some (Iv x3), some (Iv v10), some (Iv (x5 + 1))]) dX8_changes_82 rfl rfl (by decide) rfl ?_
      refine Z_goto (tgt := 32) dX8_changes_85 (by decide) ?_
      exact Z_cut h ⟨rfl, rfl, rfl, rfl, rfl, rfl, trivial⟩
abbrev mX8_slot (G : zG) (n : Nat) (x1 x2 x3 x4 : Int) (μ : zM) (K : Int → zM → Prop) : Prop := zMt G n 4 yX8_slot cX8_slot 9 (some .int) [Rv G 127, Iv x1, Iv x2, Iv x3, Iv x4] μ (zKi K)
abbrev pX8_slot (G : zG) (n : Nat) (K : Int → zM → Prop) (pc : Nat) (lv : List (Option Value)) (st : List Value) (μ : zM) : Prop := Z G (zrm 4 0 0) RX8 "slot" cX8_slot 9 (some .int) (zPh G n (zKi K)) 0 0 pc lv st (zE G n μ)
theorem eX8_slot {G : zG} {n : Nat} (hn : 154 ≤ n) {x1 x2 x3 x4 : Int} {μ : zM} {K : Int → zM → Prop}
    (h : (∀ μ1 : zM, μ1 = zu μ 127 0 0 → mX8_isSheet G n x2 μ1 (fun r2 μ3 => ((¬ wr r2 = 0 → (mX8_isLane G n x3 μ3 (fun r5 μ6 => ((wr r5 = 0 → (K ((-2)) μ6)) ∧ (¬ (wr r5 = 0) → (mX8_within G n x1 0 2 μ6 (fun r8 μ9 => ((¬ wr r8 = 0 → (mX8_against G n x2 x3 x4 (μ9 127 30) μ9 (fun r11 μ12 => ((wr r11 = 0 → (∀ v14 : Int, v14 = (60 * x2) + x4 → pX8_slot G n K 67 [some (Rv G 127), some (Iv x1), none, none, none, none, some (Iv v14), some (Iv 0), none] [] μ12)) ∧ (¬ (wr r11 = 0) → (K r11 μ12)))))) ∧ (wr r8 = 0 → (K ((-2)) μ9)))))))))) ∧ (wr r2 = 0 → (K ((-1)) μ3)))))) :
    mX8_slot G n x1 x2 x3 x4 μ K := by
  refine zMt_of (lv := [some (Rv G 127), some (Iv x1), some (Iv x2), some (Iv x3), some (Iv x4), none, none, none, none]) (by decide) rfl (Nat.le_of_ble_eq_true rfl) ?_
  show pX8_slot G n K 0 [some (Rv G 127), some (Iv x1), some (Iv x2), some (Iv x3), some (Iv x4), none, none, none, none] [] μ
  refine Z_aload_n dX8_slot_0 rfl ?_
  refine Z_iconst dX8_slot_1 ?_
  refine Y_pi 0 zcX8 fk_X8_107 ⟨by decide, by omega⟩ rfl rfl rfl (by decide) rfl (tyX8_ok 0 (by decide)) dX8_slot_2 rfl ?_
  obtain ⟨μ1, eμ1⟩ : ∃ z : zM, z = zu μ 127 0 0 := ⟨_, rfl⟩
  have h := h μ1 eμ1
  refine Z_mem eμ1 ?_
  refine Z_iload_n dX8_slot_5 rfl ?_
  refine Z_callSi h md_X8_isSheet sv_X8_isSheet lk_X8_191 rfl rfl (Nat.le_of_ble_eq_true rfl) dX8_slot_6 ⟨by decide, Nat.le_of_ble_eq_true rfl⟩ ⟨Nat.zero_le _, Nat.zero_le _⟩ ?_
  intro r2 μ3 h
  refine Z_if_ne (tgt := 14) dX8_slot_9 (by decide) (fun c4 => ?_) (fun c4 => ?_)
  · have h := h.1 c4
    refine Z_iload_n dX8_slot_14 rfl ?_
    refine Z_callSi h md_X8_isLane sv_X8_isLane lk_X8_194 rfl rfl (Nat.le_of_ble_eq_true rfl) dX8_slot_15 ⟨by decide, Nat.le_of_ble_eq_true rfl⟩ ⟨Nat.zero_le _, Nat.zero_le _⟩ ?_
    intro r5 μ6 h
    refine Z_if_eq (tgt := 30) dX8_slot_18 (by decide) (fun c7 => ?_) (fun c7 => ?_)
    · have h := h.1 c7
      refine Z_bipush dX8_slot_30 (by decide) ?_
      exact Z_ireturn dX8_slot_32 ⟨_, rfl, h⟩
    · have h := h.2 c7
      refine Z_iload_n dX8_slot_21 rfl ?_
      refine Z_iconst dX8_slot_22 ?_
      refine Z_iconst dX8_slot_23 ?_
      refine Z_callSi h md_X8_within sv_X8_within lk_X8_116 rfl rfl (Nat.le_of_ble_eq_true rfl) dX8_slot_24 ⟨by decide, Nat.le_of_ble_eq_true rfl⟩ ⟨Nat.zero_le _, Nat.zero_le _⟩ ?_
      intro r8 μ9 h
      refine Z_if_ne (tgt := 33) dX8_slot_27 (by decide) (fun c10 => ?_) (fun c10 => ?_)
      · have h := h.1 c10
        refine Z_aload_n dX8_slot_33 rfl ?_
        refine Z_iload_n dX8_slot_34 rfl ?_
        refine Z_iload_n dX8_slot_35 rfl ?_
        refine Z_iload dX8_slot_36 rfl ?_
        refine Z_aload_n dX8_slot_38 rfl ?_
        refine Y_gi 30 zcX8 fl_X8_77 ⟨by decide, by omega⟩ rfl rfl rfl (by decide) dX8_slot_39 rfl ?_
        refine Z_callVi h md_X8_against sv_X8_against lk_X8_197 zcX8 rfl ⟨by decide, by omega⟩ rfl rfl rfl rfl (Nat.le_of_ble_eq_true rfl) dX8_slot_42 ⟨by decide, Nat.le_of_ble_eq_true rfl⟩ ⟨Nat.zero_le _, Nat.zero_le _⟩ ?_
        intro r11 μ12 h
        refine Z_istore (lv2 := [some (Rv G 127), some (Iv x1), some (Iv x2), some (Iv x3), some (Iv x4), some (Iv r11), none, none, none]) dX8_slot_45 rfl (by decide) rfl ?_
        refine Z_iload dX8_slot_47 rfl ?_
        refine Z_if_eq (tgt := 55) dX8_slot_49 (by decide) (fun c13 => ?_) (fun c13 => ?_)
        · have h := h.1 c13
          refine Z_bipush dX8_slot_55 (by decide) ?_
          refine Z_iload_n dX8_slot_57 rfl ?_
          refine Z_imul dX8_slot_58 ?_
          refine Z_iload dX8_slot_59 rfl ?_
          refine Z_iadd dX8_slot_61 ?_
          obtain ⟨v14, ev14⟩ : ∃ z : Int, z = (60 * x2) + x4 := ⟨_, rfl⟩
          have h := h v14 ev14
          refine Z_nmi ev14 ?_
          refine Z_istore (lv2 := [some (Rv G 127), some (Iv x1), some (Iv x2), some (Iv x3), some (Iv x4), some (Iv r11), some (Iv v14), none, none]) dX8_slot_62 rfl (by decide) rfl ?_
          refine Z_iconst dX8_slot_64 ?_
          refine Z_istore (lv2 := [some (Rv G 127), some (Iv x1), some (Iv x2), some (Iv x3), some (Iv x4), some (Iv r11), some (Iv v14), some (Iv 0), none]) dX8_slot_65 rfl (by decide) rfl ?_
          exact Z_cut h ⟨rfl, rfl, trivial, trivial, trivial, trivial, rfl, rfl, trivial, trivial⟩
        · have h := h.2 c13
          refine Z_iload dX8_slot_52 rfl ?_
          exact Z_ireturn dX8_slot_54 ⟨_, rfl, h⟩
      · have h := h.2 c10
        refine Z_bipush dX8_slot_30 (by decide) ?_
        exact Z_ireturn dX8_slot_32 ⟨_, rfl, h⟩
  · have h := h.2 c4
    refine Z_iconst dX8_slot_12 ?_
    exact Z_ireturn dX8_slot_13 ⟨_, rfl, h⟩
theorem bX8_slot_67 {G : zG} {n : Nat} (hn : 154 ≤ n) {x1 x6 x7 : Int} {μ : zM} {K : Int → zM → Prop}
    (h : (((wr (μ 127 30) ≤ wr x7 → (pX8_slot G n K 111 [some (Rv G 127), some (Iv x1), none, none, none, none, some (Iv x6), some (Iv 0), none] [] μ)) ∧ (¬ (wr (μ 127 30) ≤ wr x7) → ((0 ≤ wr (x6 + x7) ∧ wr (x6 + x7) < 240) ∧ mX8_within G n (μ 139 (wr (x6 + x7))) ((-1)) ((μ 127 30) - 1) μ (fun r3 μ4 => ((¬ wr r3 = 0 → (pX8_slot G n K 67 [some (Rv G 127), some (Iv x1), none, none, none, none, some (Iv x6), some (Iv (x7 + 1)), none] [] μ4)) ∧ (wr r3 = 0 → (K ((-2)) μ4))))))))) :
    pX8_slot G n K 67 [some (Rv G 127), some (Iv x1), none, none, none, none, some (Iv x6), some (Iv x7), none] [] μ := by
  refine Z_iload dX8_slot_67 rfl ?_
  refine Z_aload_n dX8_slot_69 rfl ?_
  refine Y_gi 30 zcX8 fl_X8_77 ⟨by decide, by omega⟩ rfl rfl rfl (by decide) dX8_slot_70 rfl ?_
  refine Z_icmp_ge (tgt := 108) dX8_slot_73 (by decide) (fun c1 => ?_) (fun c1 => ?_)
  · have h := h.1 c1
    refine Z_iconst dX8_slot_108 ?_
    refine Z_istore (lv2 := [some (Rv G 127), some (Iv x1), none, none, none, none, some (Iv x6), some (Iv 0), none]) dX8_slot_109 rfl (by decide) rfl ?_
    exact Z_cut h ⟨rfl, rfl, trivial, trivial, trivial, trivial, rfl, rfl, trivial, trivial⟩
  · have h := h.2 c1
    refine Z_aload_n dX8_slot_76 rfl ?_
    refine Z_gr (t := 139) zcX8 fl_X8_56 ⟨by decide, by omega⟩ rfl rfl rfl (by decide) (by decide) dX8_slot_77 ?_
    refine Z_iload dX8_slot_80 rfl ?_
    refine Z_iload dX8_slot_82 rfl ?_
    refine Z_iadd dX8_slot_84 ?_
    obtain ⟨b2, h⟩ := h
    refine Z_iald (zin_c (by decide) (by omega) (by decide) (by decide) b2) dX8_slot_85 ?_
    refine Z_iconst dX8_slot_86 ?_
    refine Z_aload_n dX8_slot_87 rfl ?_
    refine Y_gi 30 zcX8 fl_X8_77 ⟨by decide, by omega⟩ rfl rfl rfl (by decide) dX8_slot_88 rfl ?_
    refine Z_iconst dX8_slot_91 ?_
    refine Z_isub dX8_slot_92 ?_
    refine Z_callSi h md_X8_within sv_X8_within lk_X8_116 rfl rfl (Nat.le_of_ble_eq_true rfl) dX8_slot_93 ⟨by decide, Nat.le_of_ble_eq_true rfl⟩ ⟨Nat.zero_le _, Nat.zero_le _⟩ ?_
    intro r3 μ4 h
    refine Z_if_ne (tgt := 102) dX8_slot_96 (by decide) (fun c5 => ?_) (fun c5 => ?_)
    · have h := h.1 c5
      refine Z_iinc (lv2 := [some (Rv G 127), some (Iv x1), none, none, none, none, some (Iv x6), some (Iv (x7 + 1)), none]) dX8_slot_102 rfl rfl (by decide) rfl ?_
      refine Z_goto (tgt := 67) dX8_slot_105 (by decide) ?_
      exact Z_cut h ⟨rfl, rfl, trivial, trivial, trivial, trivial, rfl, rfl, trivial, trivial⟩
    · have h := h.2 c5
      refine Z_bipush dX8_slot_99 (by decide) ?_
      exact Z_ireturn dX8_slot_101 ⟨_, rfl, h⟩
theorem bX8_slot_111 {G : zG} {n : Nat} (hn : 154 ≤ n) {x1 x6 x7 : Int} {μ : zM} {K : Int → zM → Prop}
    (h : (((wr (μ 127 30) ≤ wr x7 → (pX8_slot G n K 171 [some (Rv G 127), some (Iv x1), none, none, none, none, some (Iv x6), some (Iv 0), none] [] μ)) ∧ (¬ (wr (μ 127 30) ≤ wr x7) → ((0 ≤ wr (x6 + x7) ∧ wr (x6 + x7) < 240) ∧ ((wr (μ 139 (wr (x6 + x7))) < 0 → (pX8_slot G n K 111 [some (Rv G 127), some (Iv x1), none, none, none, none, some (Iv x6), some (Iv (x7 + 1)), none] [] μ)) ∧ (¬ (wr (μ 139 (wr (x6 + x7))) < 0) → ((0 ≤ wr (x6 + x7) ∧ wr (x6 + x7) < 240) ∧ (0 ≤ wr ((5 * x7) + (μ 139 (wr (x6 + x7)))) ∧ wr ((5 * x7) + (μ 139 (wr (x6 + x7)))) < 25) ∧ ((¬ wr (μ 147 (wr ((5 * x7) + (μ 139 (wr (x6 + x7)))))) = wr 1000 → (pX8_slot G n K 111 [some (Rv G 127), some (Iv x1), none, none, none, none, some (Iv x6), some (Iv (x7 + 1)), none] [] μ)) ∧ (wr (μ 147 (wr ((5 * x7) + (μ 139 (wr (x6 + x7)))))) = wr 1000 → (K ((-4)) μ))))))))))) :
    pX8_slot G n K 111 [some (Rv G 127), some (Iv x1), none, none, none, none, some (Iv x6), some (Iv x7), none] [] μ := by
  refine Z_iload dX8_slot_111 rfl ?_
  refine Z_aload_n dX8_slot_113 rfl ?_
  refine Y_gi 30 zcX8 fl_X8_77 ⟨by decide, by omega⟩ rfl rfl rfl (by decide) dX8_slot_114 rfl ?_
  refine Z_icmp_ge (tgt := 168) dX8_slot_117 (by decide) (fun c1 => ?_) (fun c1 => ?_)
  · have h := h.1 c1
    refine Z_iconst dX8_slot_168 ?_
    refine Z_istore (lv2 := [some (Rv G 127), some (Iv x1), none, none, none, none, some (Iv x6), some (Iv 0), none]) dX8_slot_169 rfl (by decide) rfl ?_
    exact Z_cut h ⟨rfl, rfl, trivial, trivial, trivial, trivial, rfl, rfl, trivial, trivial⟩
  · have h := h.2 c1
    refine Z_aload_n dX8_slot_120 rfl ?_
    refine Z_gr (t := 139) zcX8 fl_X8_56 ⟨by decide, by omega⟩ rfl rfl rfl (by decide) (by decide) dX8_slot_121 ?_
    refine Z_iload dX8_slot_124 rfl ?_
    refine Z_iload dX8_slot_126 rfl ?_
    refine Z_iadd dX8_slot_128 ?_
    obtain ⟨b2, h⟩ := h
    refine Z_iald (zin_c (by decide) (by omega) (by decide) (by decide) b2) dX8_slot_129 ?_
    refine Z_if_lt (tgt := 162) dX8_slot_130 (by decide) (fun c3 => ?_) (fun c3 => ?_)
    · have h := h.1 c3
      refine Z_iinc (lv2 := [some (Rv G 127), some (Iv x1), none, none, none, none, some (Iv x6), some (Iv (x7 + 1)), none]) dX8_slot_162 rfl rfl (by decide) rfl ?_
      refine Z_goto (tgt := 111) dX8_slot_165 (by decide) ?_
      exact Z_cut h ⟨rfl, rfl, trivial, trivial, trivial, trivial, rfl, rfl, trivial, trivial⟩
    · have h := h.2 c3
      refine Z_aload_n dX8_slot_133 rfl ?_
      refine Z_gr (t := 147) zcX8 fl_X8_86 ⟨by decide, by omega⟩ rfl rfl rfl (by decide) (by decide) dX8_slot_134 ?_
      refine Z_iconst dX8_slot_137 ?_
      refine Z_iload dX8_slot_138 rfl ?_
      refine Z_imul dX8_slot_140 ?_
      refine Z_aload_n dX8_slot_141 rfl ?_
      refine Z_gr (t := 139) zcX8 fl_X8_56 ⟨by decide, by omega⟩ rfl rfl rfl (by decide) (by decide) dX8_slot_142 ?_
      refine Z_iload dX8_slot_145 rfl ?_
      refine Z_iload dX8_slot_147 rfl ?_
      refine Z_iadd dX8_slot_149 ?_
      obtain ⟨b4, h⟩ := h
      refine Z_iald (zin_c (by decide) (by omega) (by decide) (by decide) b4) dX8_slot_150 ?_
      refine Z_iadd dX8_slot_151 ?_
      obtain ⟨b5, h⟩ := h
      refine Z_iald (zin_c (by decide) (by omega) (by decide) (by decide) b5) dX8_slot_152 ?_
      refine Z_sipush dX8_slot_153 (by decide) ?_
      refine Z_icmp_ne (tgt := 162) dX8_slot_156 (by decide) (fun c6 => ?_) (fun c6 => ?_)
      · have h := h.1 c6
        refine Z_iinc (lv2 := [some (Rv G 127), some (Iv x1), none, none, none, none, some (Iv x6), some (Iv (x7 + 1)), none]) dX8_slot_162 rfl rfl (by decide) rfl ?_
        refine Z_goto (tgt := 111) dX8_slot_165 (by decide) ?_
        exact Z_cut h ⟨rfl, rfl, trivial, trivial, trivial, trivial, rfl, rfl, trivial, trivial⟩
      · have h := h.2 c6
        refine Z_bipush dX8_slot_159 (by decide) ?_
        exact Z_ireturn dX8_slot_161 ⟨_, rfl, h⟩
theorem bX8_slot_171 {G : zG} {n : Nat} (hn : 154 ≤ n) {x1 x6 x7 : Int} {μ : zM} {K : Int → zM → Prop}
    (h : (((wr (μ 127 30) ≤ wr x7 → (((¬ wr x1 = 0 → (((¬ wr x1 = wr 1 → (mX8_matchCrosswise G n  μ (fun μ5 => pX8_slot G n K 265 [some (Rv G 127), none, none, none, none, none, none, some (Iv 0), some (Iv 0)] [] μ5))) ∧ (wr x1 = wr 1 → (mX8_matchByTurns G n  μ (fun μ7 => pX8_slot G n K 265 [some (Rv G 127), none, none, none, none, none, none, some (Iv 0), some (Iv 0)] [] μ7)))))) ∧ (wr x1 = 0 → (mX8_matchGreatest G n  μ (fun μ9 => pX8_slot G n K 265 [some (Rv G 127), none, none, none, none, none, none, some (Iv 0), some (Iv 0)] [] μ9)))))) ∧ (¬ (wr (μ 127 30) ≤ wr x7) → ((0 ≤ wr (x6 + x7) ∧ wr (x6 + x7) < 240) ∧ ((wr (μ 139 (wr (x6 + x7))) < 0 → ((0 ≤ wr x7 ∧ wr x7 < 5) ∧ ∀ μ13 : zM, μ13 = zu μ 151 (wr x7) ((-9)) → pX8_slot G n K 171 [some (Rv G 127), some (Iv x1), none, none, none, none, some (Iv x6), some (Iv (x7 + 1)), none] [] μ13)) ∧ (¬ (wr (μ 139 (wr (x6 + x7))) < 0) → ((0 ≤ wr (x6 + x7) ∧ wr (x6 + x7) < 240) ∧ (0 ≤ wr ((5 * x7) + (μ 139 (wr (x6 + x7)))) ∧ wr ((5 * x7) + (μ 139 (wr (x6 + x7)))) < 25) ∧ (0 ≤ wr ((5 * x7) + (μ 139 (wr (x6 + x7)))) ∧ wr ((5 * x7) + (μ 139 (wr (x6 + x7)))) < 25) ∧ ∀ μ17 : zM, μ17 = zu μ 147 (wr ((5 * x7) + (μ 139 (wr (x6 + x7))))) ((μ 147 (wr ((5 * x7) + (μ 139 (wr (x6 + x7)))))) + 1) → (0 ≤ wr x7 ∧ wr x7 < 5) ∧ ∀ μ19 : zM, μ19 = zu μ17 151 (wr x7) ((-9)) → pX8_slot G n K 171 [some (Rv G 127), some (Iv x1), none, none, none, none, some (Iv x6), some (Iv (x7 + 1)), none] [] μ19)))))))) :
    pX8_slot G n K 171 [some (Rv G 127), some (Iv x1), none, none, none, none, some (Iv x6), some (Iv x7), none] [] μ := by
  refine Z_iload dX8_slot_171 rfl ?_
  refine Z_aload_n dX8_slot_173 rfl ?_
  refine Y_gi 30 zcX8 fl_X8_77 ⟨by decide, by omega⟩ rfl rfl rfl (by decide) dX8_slot_174 rfl ?_
  refine Z_icmp_ge (tgt := 232) dX8_slot_177 (by decide) (fun c1 => ?_) (fun c1 => ?_)
  · have h := h.1 c1
    refine Z_iload_n dX8_slot_232 rfl ?_
    refine Z_if_ne (tgt := 243) dX8_slot_233 (by decide) (fun c2 => ?_) (fun c2 => ?_)
    · have h := h.1 c2
      refine Z_iload_n dX8_slot_243 rfl ?_
      refine Z_iconst dX8_slot_244 ?_
      refine Z_icmp_ne (tgt := 255) dX8_slot_245 (by decide) (fun c3 => ?_) (fun c3 => ?_)
      · have h := h.1 c3
        refine Z_aload_n dX8_slot_255 rfl ?_
        refine Z_callVv h md_X8_matchCrosswise sv_X8_matchCrosswise lk_X8_305 zcX8 rfl ⟨by decide, by omega⟩ rfl rfl rfl rfl (Nat.le_of_ble_eq_true rfl) dX8_slot_256 ⟨by decide, Nat.le_of_ble_eq_true rfl⟩ ⟨Nat.zero_le _, Nat.zero_le _⟩ ?_
        intro μ5 h
        refine Z_iconst dX8_slot_259 ?_
        refine Z_istore (lv2 := [some (Rv G 127), some (Iv x1), none, none, none, none, some (Iv x6), some (Iv 0), none]) dX8_slot_260 rfl (by decide) rfl ?_
        refine Z_iconst dX8_slot_262 ?_
        refine Z_istore (lv2 := [some (Rv G 127), some (Iv x1), none, none, none, none, some (Iv x6), some (Iv 0), some (Iv 0)]) dX8_slot_263 rfl (by decide) rfl ?_
        exact Z_cut h ⟨rfl, trivial, trivial, trivial, trivial, trivial, trivial, rfl, rfl, trivial⟩
      · have h := h.2 c3
        refine Z_aload_n dX8_slot_248 rfl ?_
        refine Z_callVv h md_X8_matchByTurns sv_X8_matchByTurns lk_X8_302 zcX8 rfl ⟨by decide, by omega⟩ rfl rfl rfl rfl (Nat.le_of_ble_eq_true rfl) dX8_slot_249 ⟨by decide, Nat.le_of_ble_eq_true rfl⟩ ⟨Nat.zero_le _, Nat.zero_le _⟩ ?_
        intro μ7 h
        refine Z_goto (tgt := 259) dX8_slot_252 (by decide) ?_
        refine Z_iconst dX8_slot_259 ?_
        refine Z_istore (lv2 := [some (Rv G 127), some (Iv x1), none, none, none, none, some (Iv x6), some (Iv 0), none]) dX8_slot_260 rfl (by decide) rfl ?_
        refine Z_iconst dX8_slot_262 ?_
        refine Z_istore (lv2 := [some (Rv G 127), some (Iv x1), none, none, none, none, some (Iv x6), some (Iv 0), some (Iv 0)]) dX8_slot_263 rfl (by decide) rfl ?_
        exact Z_cut h ⟨rfl, trivial, trivial, trivial, trivial, trivial, trivial, rfl, rfl, trivial⟩
    · have h := h.2 c2
      refine Z_aload_n dX8_slot_236 rfl ?_
      refine Z_callVv h md_X8_matchGreatest sv_X8_matchGreatest lk_X8_299 zcX8 rfl ⟨by decide, by omega⟩ rfl rfl rfl rfl (Nat.le_of_ble_eq_true rfl) dX8_slot_237 ⟨by decide, Nat.le_of_ble_eq_true rfl⟩ ⟨Nat.zero_le _, Nat.zero_le _⟩ ?_
      intro μ9 h
      refine Z_goto (tgt := 259) dX8_slot_240 (by decide) ?_
      refine Z_iconst dX8_slot_259 ?_
      refine Z_istore (lv2 := [some (Rv G 127), some (Iv x1), none, none, none, none, some (Iv x6), some (Iv 0), none]) dX8_slot_260 rfl (by decide) rfl ?_
      refine Z_iconst dX8_slot_262 ?_
      refine Z_istore (lv2 := [some (Rv G 127), some (Iv x1), none, none, none, none, some (Iv x6), some (Iv 0), some (Iv 0)]) dX8_slot_263 rfl (by decide) rfl ?_
      exact Z_cut h ⟨rfl, trivial, trivial, trivial, trivial, trivial, trivial, rfl, rfl, trivial⟩
  · have h := h.2 c1
    refine Z_aload_n dX8_slot_180 rfl ?_
    refine Z_gr (t := 139) zcX8 fl_X8_56 ⟨by decide, by omega⟩ rfl rfl rfl (by decide) (by decide) dX8_slot_181 ?_
    refine Z_iload dX8_slot_184 rfl ?_
    refine Z_iload dX8_slot_186 rfl ?_
    refine Z_iadd dX8_slot_188 ?_
    obtain ⟨b10, h⟩ := h
    refine Z_iald (zin_c (by decide) (by omega) (by decide) (by decide) b10) dX8_slot_189 ?_
    refine Z_if_lt (tgt := 217) dX8_slot_190 (by decide) (fun c11 => ?_) (fun c11 => ?_)
    · have h := h.1 c11
      refine Z_aload_n dX8_slot_217 rfl ?_
      refine Z_gr (t := 151) zcX8 fl_X8_98 ⟨by decide, by omega⟩ rfl rfl rfl (by decide) (by decide) dX8_slot_218 ?_
      refine Z_iload dX8_slot_221 rfl ?_
      refine Z_bipush dX8_slot_223 (by decide) ?_
      obtain ⟨b12, h⟩ := h
      refine Z_iast (zin_c (by decide) (by omega) (by decide) (by decide) b12) dX8_slot_225 ?_
      obtain ⟨μ13, eμ13⟩ : ∃ z : zM, z = zu μ 151 (wr x7) ((-9)) := ⟨_, rfl⟩
      have h := h μ13 eμ13
      refine Z_mem eμ13 ?_
      refine Z_iinc (lv2 := [some (Rv G 127), some (Iv x1), none, none, none, none, some (Iv x6), some (Iv (x7 + 1)), none]) dX8_slot_226 rfl rfl (by decide) rfl ?_
      refine Z_goto (tgt := 171) dX8_slot_229 (by decide) ?_
      exact Z_cut h ⟨rfl, rfl, trivial, trivial, trivial, trivial, rfl, rfl, trivial, trivial⟩
    · have h := h.2 c11
      refine Z_aload_n dX8_slot_193 rfl ?_
      refine Z_gr (t := 147) zcX8 fl_X8_86 ⟨by decide, by omega⟩ rfl rfl rfl (by decide) (by decide) dX8_slot_194 ?_
      refine Z_iconst dX8_slot_197 ?_
      refine Z_iload dX8_slot_198 rfl ?_
      refine Z_imul dX8_slot_200 ?_
      refine Z_aload_n dX8_slot_201 rfl ?_
      refine Z_gr (t := 139) zcX8 fl_X8_56 ⟨by decide, by omega⟩ rfl rfl rfl (by decide) (by decide) dX8_slot_202 ?_
      refine Z_iload dX8_slot_205 rfl ?_
      refine Z_iload dX8_slot_207 rfl ?_
      refine Z_iadd dX8_slot_209 ?_
      obtain ⟨b14, h⟩ := h
      refine Z_iald (zin_c (by decide) (by omega) (by decide) (by decide) b14) dX8_slot_210 ?_
      refine Z_iadd dX8_slot_211 ?_
      refine Z_dup2 dX8_slot_212 rfl rfl ?_
      obtain ⟨b15, h⟩ := h
      refine Z_iald (zin_c (by decide) (by omega) (by decide) (by decide) b15) dX8_slot_213 ?_
      refine Z_iconst dX8_slot_214 ?_
      refine Z_iadd dX8_slot_215 ?_
      obtain ⟨b16, h⟩ := h
      refine Z_iast (zin_c (by decide) (by omega) (by decide) (by decide) b16) dX8_slot_216 ?_
      obtain ⟨μ17, eμ17⟩ : ∃ z : zM, z = zu μ 147 (wr ((5 * x7) + (μ 139 (wr (x6 + x7))))) ((μ 147 (wr ((5 * x7) + (μ 139 (wr (x6 + x7)))))) + 1) := ⟨_, rfl⟩
      have h := h μ17 eμ17
      refine Z_mem eμ17 ?_
      refine Z_aload_n dX8_slot_217 rfl ?_
      refine Z_gr (t := 151) zcX8 fl_X8_98 ⟨by decide, by omega⟩ rfl rfl rfl (by decide) (by decide) dX8_slot_218 ?_
      refine Z_iload dX8_slot_221 rfl ?_
      refine Z_bipush dX8_slot_223 (by decide) ?_
      obtain ⟨b18, h⟩ := h
      refine Z_iast (zin_c (by decide) (by omega) (by decide) (by decide) b18) dX8_slot_225 ?_
      obtain ⟨μ19, eμ19⟩ : ∃ z : zM, z = zu μ17 151 (wr x7) ((-9)) := ⟨_, rfl⟩
      have h := h μ19 eμ19
      refine Z_mem eμ19 ?_
      refine Z_iinc (lv2 := [some (Rv G 127), some (Iv x1), none, none, none, none, some (Iv x6), some (Iv (x7 + 1)), none]) dX8_slot_226 rfl rfl (by decide) rfl ?_
      refine Z_goto (tgt := 171) dX8_slot_229 (by decide) ?_
      exact Z_cut h ⟨rfl, rfl, trivial, trivial, trivial, trivial, rfl, rfl, trivial, trivial⟩
theorem bX8_slot_265 {G : zG} {n : Nat} (hn : 154 ≤ n) {x8 x7 : Int} {μ : zM} {K : Int → zM → Prop}
    (h : (((wr (μ 127 30) ≤ wr x8 → (K x7 μ)) ∧ (¬ (wr (μ 127 30) ≤ wr x8) → ((0 ≤ wr x8 ∧ wr x8 < 5) ∧ ((wr (μ 151 (wr x8)) = wr ((-9)) → (pX8_slot G n K 265 [some (Rv G 127), none, none, none, none, none, none, some (Iv x7), some (Iv (x8 + 1))] [] μ)) ∧ (¬ (wr (μ 151 (wr x8)) = wr ((-9))) → ((0 ≤ wr x8 ∧ wr x8 < 5) ∧ (0 ≤ wr ((5 * x8) + (μ 151 (wr x8))) ∧ wr ((5 * x8) + (μ 151 (wr x8))) < 25) ∧ (0 ≤ wr ((5 * x8) + (μ 151 (wr x8))) ∧ wr ((5 * x8) + (μ 151 (wr x8))) < 25) ∧ ∀ μ7 : zM, μ7 = zu μ 147 (wr ((5 * x8) + (μ 151 (wr x8)))) ((μ 147 (wr ((5 * x8) + (μ 151 (wr x8))))) - 1) → pX8_slot G n K 265 [some (Rv G 127), none, none, none, none, none, none, some (Iv (x7 + 1)), some (Iv (x8 + 1))] [] μ7)))))))) :
    pX8_slot G n K 265 [some (Rv G 127), none, none, none, none, none, none, some (Iv x7), some (Iv x8)] [] μ := by
  refine Z_iload dX8_slot_265 rfl ?_
  refine Z_aload_n dX8_slot_267 rfl ?_
  refine Y_gi 30 zcX8 fl_X8_77 ⟨by decide, by omega⟩ rfl rfl rfl (by decide) dX8_slot_268 rfl ?_
  refine Z_icmp_ge (tgt := 316) dX8_slot_271 (by decide) (fun c1 => ?_) (fun c1 => ?_)
  · have h := h.1 c1
    refine Z_iload dX8_slot_316 rfl ?_
    exact Z_ireturn dX8_slot_318 ⟨_, rfl, h⟩
  · have h := h.2 c1
    refine Z_aload_n dX8_slot_274 rfl ?_
    refine Z_gr (t := 151) zcX8 fl_X8_98 ⟨by decide, by omega⟩ rfl rfl rfl (by decide) (by decide) dX8_slot_275 ?_
    refine Z_iload dX8_slot_278 rfl ?_
    obtain ⟨b2, h⟩ := h
    refine Z_iald (zin_c (by decide) (by omega) (by decide) (by decide) b2) dX8_slot_280 ?_
    refine Z_bipush dX8_slot_281 (by decide) ?_
    refine Z_icmp_eq (tgt := 310) dX8_slot_283 (by decide) (fun c3 => ?_) (fun c3 => ?_)
    · have h := h.1 c3
      refine Z_iinc (lv2 := [some (Rv G 127), none, none, none, none, none, none, some (Iv x7), some (Iv (x8 + 1))]) dX8_slot_310 rfl rfl (by decide) rfl ?_
      refine Z_goto (tgt := 265) dX8_slot_313 (by decide) ?_
      exact Z_cut h ⟨rfl, trivial, trivial, trivial, trivial, trivial, trivial, rfl, rfl, trivial⟩
    · have h := h.2 c3
      refine Z_aload_n dX8_slot_286 rfl ?_
      refine Z_gr (t := 147) zcX8 fl_X8_86 ⟨by decide, by omega⟩ rfl rfl rfl (by decide) (by decide) dX8_slot_287 ?_
      refine Z_iconst dX8_slot_290 ?_
      refine Z_iload dX8_slot_291 rfl ?_
      refine Z_imul dX8_slot_293 ?_
      refine Z_aload_n dX8_slot_294 rfl ?_
      refine Z_gr (t := 151) zcX8 fl_X8_98 ⟨by decide, by omega⟩ rfl rfl rfl (by decide) (by decide) dX8_slot_295 ?_
      refine Z_iload dX8_slot_298 rfl ?_
      obtain ⟨b4, h⟩ := h
      refine Z_iald (zin_c (by decide) (by omega) (by decide) (by decide) b4) dX8_slot_300 ?_
      refine Z_iadd dX8_slot_301 ?_
      refine Z_dup2 dX8_slot_302 rfl rfl ?_
      obtain ⟨b5, h⟩ := h
      refine Z_iald (zin_c (by decide) (by omega) (by decide) (by decide) b5) dX8_slot_303 ?_
      refine Z_iconst dX8_slot_304 ?_
      refine Z_isub dX8_slot_305 ?_
      obtain ⟨b6, h⟩ := h
      refine Z_iast (zin_c (by decide) (by omega) (by decide) (by decide) b6) dX8_slot_306 ?_
      obtain ⟨μ7, eμ7⟩ : ∃ z : zM, z = zu μ 147 (wr ((5 * x8) + (μ 151 (wr x8)))) ((μ 147 (wr ((5 * x8) + (μ 151 (wr x8))))) - 1) := ⟨_, rfl⟩
      have h := h μ7 eμ7
      refine Z_mem eμ7 ?_
      refine Z_iinc (lv2 := [some (Rv G 127), none, none, none, none, none, none, some (Iv (x7 + 1)), some (Iv x8)]) dX8_slot_307 rfl rfl (by decide) rfl ?_
      refine Z_iinc (lv2 := [some (Rv G 127), none, none, none, none, none, none, some (Iv (x7 + 1)), some (Iv (x8 + 1))]) dX8_slot_310 rfl rfl (by decide) rfl ?_
      refine Z_goto (tgt := 265) dX8_slot_313 (by decide) ?_
      exact Z_cut h ⟨rfl, trivial, trivial, trivial, trivial, trivial, trivial, rfl, rfl, trivial⟩
abbrev mX8_mendOne (G : zG) (n : Nat) (x1 x2 : Int) (μ : zM) (K : Int → zM → Prop) : Prop := zMt G n 5 yX8_mendOne cX8_mendOne 5 (some .int) [Rv G 127, Iv x1, Iv x2] μ (zKi K)
abbrev pX8_mendOne (G : zG) (n : Nat) (K : Int → zM → Prop) (pc : Nat) (lv : List (Option Value)) (st : List Value) (μ : zM) : Prop := Z G (zrm 5 0 0) RX8 "mendOne" cX8_mendOne 5 (some .int) (zPh G n (zKi K)) 0 0 pc lv st (zE G n μ)
theorem eX8_mendOne {G : zG} {n : Nat} (hn : 154 ≤ n) {x1 x2 : Int} {μ : zM} {K : Int → zM → Prop}
    (h : (mX8_fewest G n x1 x2 μ (fun r1 μ2 => ((¬ wr r1 = wr ((-9)) → (wr (μ2 127 3) ≠ 0 ∧ mX8_chainOf G n (zdiv x2 (μ2 127 3)) (μ2 127 8) (μ2 127 9) μ2 (fun r5 μ6 => pX8_mendOne G n K 38 [some (Rv G 127), some (Iv x1), some (Iv x2), some (Iv r5), some (Iv 0)] [] μ6))) ∧ (wr r1 = wr ((-9)) → (K ((-9)) μ2)))))) :
    mX8_mendOne G n x1 x2 μ K := by
  refine zMt_of (lv := [some (Rv G 127), some (Iv x1), some (Iv x2), none, none]) (by decide) rfl (Nat.le_of_ble_eq_true rfl) ?_
  show pX8_mendOne G n K 0 [some (Rv G 127), some (Iv x1), some (Iv x2), none, none] [] μ
  refine Z_aload_n dX8_mendOne_0 rfl ?_
  refine Z_iload_n dX8_mendOne_1 rfl ?_
  refine Z_iload_n dX8_mendOne_2 rfl ?_
  refine Z_callVi h md_X8_fewest sv_X8_fewest lk_X8_151 zcX8 rfl ⟨by decide, by omega⟩ rfl rfl rfl rfl (Nat.le_of_ble_eq_true rfl) dX8_mendOne_3 ⟨by decide, Nat.le_of_ble_eq_true rfl⟩ ⟨Nat.zero_le _, Nat.zero_le _⟩ ?_
  intro r1 μ2 h
  refine Z_istore_n (lv2 := [some (Rv G 127), some (Iv x1), some (Iv x2), some (Iv r1), none]) dX8_mendOne_6 rfl (by decide) rfl ?_
  refine Z_iload_n dX8_mendOne_7 rfl ?_
  refine Z_bipush dX8_mendOne_8 (by decide) ?_
  refine Z_icmp_ne (tgt := 16) dX8_mendOne_10 (by decide) (fun c3 => ?_) (fun c3 => ?_)
  · have h := h.1 c3
    refine Z_aload_n dX8_mendOne_16 rfl ?_
    refine Z_iload_n dX8_mendOne_17 rfl ?_
    refine Z_aload_n dX8_mendOne_18 rfl ?_
    refine Y_gi 3 zcX8 fl_X8_13 ⟨by decide, by omega⟩ rfl rfl rfl (by decide) dX8_mendOne_19 rfl ?_
    obtain ⟨b4, h⟩ := h
    refine Z_idiv dX8_mendOne_22 b4 ?_
    refine Z_aload_n dX8_mendOne_23 rfl ?_
    refine Y_gi 8 zcX8 fl_X8_145 ⟨by decide, by omega⟩ rfl rfl rfl (by decide) dX8_mendOne_24 rfl ?_
    refine Z_aload_n dX8_mendOne_27 rfl ?_
    refine Y_gi 9 zcX8 fl_X8_148 ⟨by decide, by omega⟩ rfl rfl rfl (by decide) dX8_mendOne_28 rfl ?_
    refine Z_callVi h md_X8_chainOf sv_X8_chainOf lk_X8_142 zcX8 rfl ⟨by decide, by omega⟩ rfl rfl rfl rfl (Nat.le_of_ble_eq_true rfl) dX8_mendOne_31 ⟨by decide, Nat.le_of_ble_eq_true rfl⟩ ⟨Nat.zero_le _, Nat.zero_le _⟩ ?_
    intro r5 μ6 h
    refine Z_istore_n (lv2 := [some (Rv G 127), some (Iv x1), some (Iv x2), some (Iv r5), none]) dX8_mendOne_34 rfl (by decide) rfl ?_
    refine Z_iconst dX8_mendOne_35 ?_
    refine Z_istore (lv2 := [some (Rv G 127), some (Iv x1), some (Iv x2), some (Iv r5), some (Iv 0)]) dX8_mendOne_36 rfl (by decide) rfl ?_
    exact Z_cut h ⟨rfl, rfl, rfl, rfl, rfl, trivial⟩
  · have h := h.2 c3
    refine Z_bipush dX8_mendOne_13 (by decide) ?_
    exact Z_ireturn dX8_mendOne_15 ⟨_, rfl, h⟩
theorem bX8_mendOne_38 {G : zG} {n : Nat} (hn : 154 ≤ n) {x1 x2 x3 x4 : Int} {μ : zM} {K : Int → zM → Prop}
    (h : (((wr x3 ≤ wr x4 → (mX8_setUp G n x1 x2 (μ 127 8) μ (fun r2 μ3 => K x3 μ3))) ∧ (¬ (wr x3 ≤ wr x4) → ((0 ≤ wr x4 ∧ wr x4 < 20) ∧ ((¬ wr (zrem x4 2) = 0 → ((0 ≤ wr (μ 130 (wr x4)) ∧ wr (μ 130 (wr x4)) < 20) ∧ ∀ μ7 : zM, μ7 = zu μ 129 (wr (μ 130 (wr x4))) (μ 127 8) → pX8_mendOne G n K 38 [some (Rv G 127), some (Iv x1), some (Iv x2), some (Iv x3), some (Iv (x4 + 1))] [] μ7)) ∧ (wr (zrem x4 2) = 0 → ((0 ≤ wr (μ 130 (wr x4)) ∧ wr (μ 130 (wr x4)) < 20) ∧ ∀ μ9 : zM, μ9 = zu μ 129 (wr (μ 130 (wr x4))) (μ 127 9) → pX8_mendOne G n K 38 [some (Rv G 127), some (Iv x1), some (Iv x2), some (Iv x3), some (Iv (x4 + 1))] [] μ9)))))))) :
    pX8_mendOne G n K 38 [some (Rv G 127), some (Iv x1), some (Iv x2), some (Iv x3), some (Iv x4)] [] μ := by
  refine Z_iload dX8_mendOne_38 rfl ?_
  refine Z_iload_n dX8_mendOne_40 rfl ?_
  refine Z_icmp_ge (tgt := 80) dX8_mendOne_41 (by decide) (fun c1 => ?_) (fun c1 => ?_)
  · have h := h.1 c1
    refine Z_aload_n dX8_mendOne_80 rfl ?_
    refine Z_iload_n dX8_mendOne_81 rfl ?_
    refine Z_iload_n dX8_mendOne_82 rfl ?_
    refine Z_aload_n dX8_mendOne_83 rfl ?_
    refine Y_gi 8 zcX8 fl_X8_145 ⟨by decide, by omega⟩ rfl rfl rfl (by decide) dX8_mendOne_84 rfl ?_
    refine Z_callVi h md_X8_setUp sv_X8_setUp lk_X8_138 zcX8 rfl ⟨by decide, by omega⟩ rfl rfl rfl rfl (Nat.le_of_ble_eq_true rfl) dX8_mendOne_87 ⟨by decide, Nat.le_of_ble_eq_true rfl⟩ ⟨Nat.zero_le _, Nat.zero_le _⟩ ?_
    intro r2 μ3 h
    refine Z_istore (lv2 := [some (Rv G 127), some (Iv x1), some (Iv x2), some (Iv x3), some (Iv r2)]) dX8_mendOne_90 rfl (by decide) rfl ?_
    refine Z_iload_n dX8_mendOne_92 rfl ?_
    exact Z_ireturn dX8_mendOne_93 ⟨_, rfl, h⟩
  · have h := h.2 c1
    refine Z_aload_n dX8_mendOne_44 rfl ?_
    refine Z_gr (t := 129) zcX8 fl_X8_23 ⟨by decide, by omega⟩ rfl rfl rfl (by decide) (by decide) dX8_mendOne_45 ?_
    refine Z_aload_n dX8_mendOne_48 rfl ?_
    refine Z_gr (t := 130) zcX8 fl_X8_26 ⟨by decide, by omega⟩ rfl rfl rfl (by decide) (by decide) dX8_mendOne_49 ?_
    refine Z_iload dX8_mendOne_52 rfl ?_
    obtain ⟨b4, h⟩ := h
    refine Z_iald (zin_c (by decide) (by omega) (by decide) (by decide) b4) dX8_mendOne_54 ?_
    refine Z_iload dX8_mendOne_55 rfl ?_
    refine Z_iconst dX8_mendOne_57 ?_
    refine Z_irem dX8_mendOne_58 (by decide) ?_
    refine Z_if_ne (tgt := 69) dX8_mendOne_59 (by decide) (fun c5 => ?_) (fun c5 => ?_)
    · have h := h.1 c5
      refine Z_aload_n dX8_mendOne_69 rfl ?_
      refine Y_gi 8 zcX8 fl_X8_145 ⟨by decide, by omega⟩ rfl rfl rfl (by decide) dX8_mendOne_70 rfl ?_
      obtain ⟨b6, h⟩ := h
      refine Z_iast (zin_c (by decide) (by omega) (by decide) (by decide) b6) dX8_mendOne_73 ?_
      obtain ⟨μ7, eμ7⟩ : ∃ z : zM, z = zu μ 129 (wr (μ 130 (wr x4))) (μ 127 8) := ⟨_, rfl⟩
      have h := h μ7 eμ7
      refine Z_mem eμ7 ?_
      refine Z_iinc (lv2 := [some (Rv G 127), some (Iv x1), some (Iv x2), some (Iv x3), some (Iv (x4 + 1))]) dX8_mendOne_74 rfl rfl (by decide) rfl ?_
      refine Z_goto (tgt := 38) dX8_mendOne_77 (by decide) ?_
      exact Z_cut h ⟨rfl, rfl, rfl, rfl, rfl, trivial⟩
    · have h := h.2 c5
      refine Z_aload_n dX8_mendOne_62 rfl ?_
      refine Y_gi 9 zcX8 fl_X8_148 ⟨by decide, by omega⟩ rfl rfl rfl (by decide) dX8_mendOne_63 rfl ?_
      refine Z_goto (tgt := 73) dX8_mendOne_66 (by decide) ?_
      obtain ⟨b8, h⟩ := h
      refine Z_iast (zin_c (by decide) (by omega) (by decide) (by decide) b8) dX8_mendOne_73 ?_
      obtain ⟨μ9, eμ9⟩ : ∃ z : zM, z = zu μ 129 (wr (μ 130 (wr x4))) (μ 127 9) := ⟨_, rfl⟩
      have h := h μ9 eμ9
      refine Z_mem eμ9 ?_
      refine Z_iinc (lv2 := [some (Rv G 127), some (Iv x1), some (Iv x2), some (Iv x3), some (Iv (x4 + 1))]) dX8_mendOne_74 rfl rfl (by decide) rfl ?_
      refine Z_goto (tgt := 38) dX8_mendOne_77 (by decide) ?_
      exact Z_cut h ⟨rfl, rfl, rfl, rfl, rfl, trivial⟩
abbrev mX8_moves (G : zG) (n : Nat) (x1 x2 : Int) (μ : zM) (K : Int → zM → Prop) : Prop := zMt G n 5 yX8_moves cX8_moves 3 (some .int) [Rv G 127, Iv x1, Iv x2] μ (zKi K)
abbrev pX8_moves (G : zG) (n : Nat) (K : Int → zM → Prop) (pc : Nat) (lv : List (Option Value)) (st : List Value) (μ : zM) : Prop := Z G (zrm 5 0 0) RX8 "moves" cX8_moves 3 (some .int) (zPh G n (zKi K)) 0 0 pc lv st (zE G n μ)
theorem eX8_moves {G : zG} {n : Nat} (hn : 154 ≤ n) {x1 x2 : Int} {μ : zM} {K : Int → zM → Prop}
    (h : (mX8_isLine G n x1 μ (fun r1 μ2 => ((wr r1 = 0 → (K ((-1)) μ2)) ∧ (¬ (wr r1 = 0) → (mX8_isLine G n x2 μ2 (fun r4 μ5 => ((¬ wr r4 = 0 → (mX8_isTaken G n x1 x2 μ5 (fun r7 μ8 => ((wr r7 = 0 → (mX8_fewest G n x1 x2 μ8 (fun r10 μ11 => K r10 μ11))) ∧ (¬ (wr r7 = 0) → (K ((-3)) μ8)))))) ∧ (wr r4 = 0 → (K ((-1)) μ5)))))))))) :
    mX8_moves G n x1 x2 μ K := by
  refine zMt_of (lv := [some (Rv G 127), some (Iv x1), some (Iv x2)]) (by decide) rfl (Nat.le_of_ble_eq_true rfl) ?_
  show pX8_moves G n K 0 [some (Rv G 127), some (Iv x1), some (Iv x2)] [] μ
  refine Z_aload_n dX8_moves_0 rfl ?_
  refine Z_iload_n dX8_moves_1 rfl ?_
  refine Z_callVi h md_X8_isLine sv_X8_isLine lk_X8_123 zcX8 rfl ⟨by decide, by omega⟩ rfl rfl rfl rfl (Nat.le_of_ble_eq_true rfl) dX8_moves_2 ⟨by decide, Nat.le_of_ble_eq_true rfl⟩ ⟨Nat.zero_le _, Nat.zero_le _⟩ ?_
  intro r1 μ2 h
  refine Z_if_eq (tgt := 16) dX8_moves_5 (by decide) (fun c3 => ?_) (fun c3 => ?_)
  · have h := h.1 c3
    refine Z_iconst dX8_moves_16 ?_
    exact Z_ireturn dX8_moves_17 ⟨_, rfl, h⟩
  · have h := h.2 c3
    refine Z_aload_n dX8_moves_8 rfl ?_
    refine Z_iload_n dX8_moves_9 rfl ?_
    refine Z_callVi h md_X8_isLine sv_X8_isLine lk_X8_123 zcX8 rfl ⟨by decide, by omega⟩ rfl rfl rfl rfl (Nat.le_of_ble_eq_true rfl) dX8_moves_10 ⟨by decide, Nat.le_of_ble_eq_true rfl⟩ ⟨Nat.zero_le _, Nat.zero_le _⟩ ?_
    intro r4 μ5 h
    refine Z_if_ne (tgt := 18) dX8_moves_13 (by decide) (fun c6 => ?_) (fun c6 => ?_)
    · have h := h.1 c6
      refine Z_aload_n dX8_moves_18 rfl ?_
      refine Z_iload_n dX8_moves_19 rfl ?_
      refine Z_iload_n dX8_moves_20 rfl ?_
      refine Z_callVi h md_X8_isTaken sv_X8_isTaken lk_X8_127 zcX8 rfl ⟨by decide, by omega⟩ rfl rfl rfl rfl (Nat.le_of_ble_eq_true rfl) dX8_moves_21 ⟨by decide, Nat.le_of_ble_eq_true rfl⟩ ⟨Nat.zero_le _, Nat.zero_le _⟩ ?_
      intro r7 μ8 h
      refine Z_if_eq (tgt := 32) dX8_moves_24 (by decide) (fun c9 => ?_) (fun c9 => ?_)
      · have h := h.1 c9
        refine Z_aload_n dX8_moves_32 rfl ?_
        refine Z_iload_n dX8_moves_33 rfl ?_
        refine Z_iload_n dX8_moves_34 rfl ?_
        refine Z_callVi h md_X8_fewest sv_X8_fewest lk_X8_151 zcX8 rfl ⟨by decide, by omega⟩ rfl rfl rfl rfl (Nat.le_of_ble_eq_true rfl) dX8_moves_35 ⟨by decide, Nat.le_of_ble_eq_true rfl⟩ ⟨Nat.zero_le _, Nat.zero_le _⟩ ?_
        intro r10 μ11 h
        exact Z_ireturn dX8_moves_38 ⟨_, rfl, h⟩
      · have h := h.2 c9
        refine Z_bipush dX8_moves_27 (by decide) ?_
        refine Z_goto (tgt := 38) dX8_moves_29 (by decide) ?_
        exact Z_ireturn dX8_moves_38 ⟨_, rfl, h⟩
    · have h := h.2 c6
      refine Z_iconst dX8_moves_16 ?_
      exact Z_ireturn dX8_moves_17 ⟨_, rfl, h⟩
abbrev mX8_ways (G : zG) (n : Nat) (μ : zM) (K : Int → zM → Prop) : Prop := zMt G n 5 yX8_ways cX8_ways 1 (some .long) [Rv G 127] μ (zKl K)
abbrev pX8_ways (G : zG) (n : Nat) (K : Int → zM → Prop) (pc : Nat) (lv : List (Option Value)) (st : List Value) (μ : zM) : Prop := Z G (zrm 5 0 0) RX8 "ways" cX8_ways 1 (some .long) (zPh G n (zKl K)) 0 0 pc lv st (zE G n μ)
theorem eX8_ways {G : zG} {n : Nat} (hn : 154 ≤ n) {μ : zM} {K : Int → zM → Prop}
    (h : (mX8_find G n  μ (fun μ2 => K (μ2 127 18) μ2))) :
    mX8_ways G n  μ K := by
  refine zMt_of (lv := [some (Rv G 127)]) (by decide) rfl (Nat.le_of_ble_eq_true rfl) ?_
  show pX8_ways G n K 0 [some (Rv G 127)] [] μ
  refine Z_aload_n dX8_ways_0 rfl ?_
  refine Z_callVv h md_X8_find sv_X8_find lk_X8_184 zcX8 rfl ⟨by decide, by omega⟩ rfl rfl rfl rfl (Nat.le_of_ble_eq_true rfl) dX8_ways_1 ⟨by decide, Nat.le_of_ble_eq_true rfl⟩ ⟨Nat.zero_le _, Nat.zero_le _⟩ ?_
  intro μ2 h
  refine Z_aload_n dX8_ways_4 rfl ?_
  refine Y_gl 18 zcX8 fl_X8_160 ⟨by decide, by omega⟩ rfl rfl rfl (by decide) dX8_ways_5 rfl ?_
  exact Z_lreturn dX8_ways_8 ⟨_, rfl, h⟩
abbrev mX8_first (G : zG) (n : Nat) (μ : zM) (K : Int → zM → Prop) : Prop := zMt G n 5 yX8_first cX8_first 1 (some .long) [Rv G 127] μ (zKl K)
abbrev pX8_first (G : zG) (n : Nat) (K : Int → zM → Prop) (pc : Nat) (lv : List (Option Value)) (st : List Value) (μ : zM) : Prop := Z G (zrm 5 0 0) RX8 "first" cX8_first 1 (some .long) (zPh G n (zKl K)) 0 0 pc lv st (zE G n μ)
theorem eX8_first {G : zG} {n : Nat} (hn : 154 ≤ n) {μ : zM} {K : Int → zM → Prop}
    (h : (mX8_find G n  μ (fun μ2 => K (μ2 127 19) μ2))) :
    mX8_first G n  μ K := by
  refine zMt_of (lv := [some (Rv G 127)]) (by decide) rfl (Nat.le_of_ble_eq_true rfl) ?_
  show pX8_first G n K 0 [some (Rv G 127)] [] μ
  refine Z_aload_n dX8_first_0 rfl ?_
  refine Z_callVv h md_X8_find sv_X8_find lk_X8_184 zcX8 rfl ⟨by decide, by omega⟩ rfl rfl rfl rfl (Nat.le_of_ble_eq_true rfl) dX8_first_1 ⟨by decide, Nat.le_of_ble_eq_true rfl⟩ ⟨Nat.zero_le _, Nat.zero_le _⟩ ?_
  intro μ2 h
  refine Z_aload_n dX8_first_4 rfl ?_
  refine Y_gl 19 zcX8 fl_X8_166 ⟨by decide, by omega⟩ rfl rfl rfl (by decide) dX8_first_5 rfl ?_
  exact Z_lreturn dX8_first_8 ⟨_, rfl, h⟩
abbrev mX8_areEnough (G : zG) (n : Nat) (x1 : Int) (μ : zM) (K : Int → zM → Prop) : Prop := zMt G n 5 yX8_areEnough cX8_areEnough 3 (some .boolean) [Rv G 127, Iv x1] μ (zKi K)
abbrev pX8_areEnough (G : zG) (n : Nat) (K : Int → zM → Prop) (pc : Nat) (lv : List (Option Value)) (st : List Value) (μ : zM) : Prop := Z G (zrm 5 0 0) RX8 "areEnough" cX8_areEnough 3 (some .boolean) (zPh G n (zKi K)) 0 0 pc lv st (zE G n μ)
theorem eX8_areEnough {G : zG} {n : Nat} (hn : 154 ≤ n) {x1 : Int} {μ : zM} {K : Int → zM → Prop}
    (h : ((0 ≤ wr 0 ∧ wr 0 < 8) ∧ ∀ μ2 : zM, μ2 = zu μ 140 (wr 0) ((-1)) → pX8_areEnough G n K 9 [some (Rv G 127), some (Iv x1), some (Iv 0)] [] μ2)) :
    mX8_areEnough G n x1 μ K := by
  refine zMt_of (lv := [some (Rv G 127), some (Iv x1), none]) (by decide) rfl (Nat.le_of_ble_eq_true rfl) ?_
  show pX8_areEnough G n K 0 [some (Rv G 127), some (Iv x1), none] [] μ
  refine Z_iconst dX8_areEnough_0 ?_
  refine Z_istore_n (lv2 := [some (Rv G 127), some (Iv x1), some (Iv 0)]) dX8_areEnough_1 rfl (by decide) rfl ?_
  refine Z_aload_n dX8_areEnough_2 rfl ?_
  refine Z_gr (t := 140) zcX8 fl_X8_59 ⟨by decide, by omega⟩ rfl rfl rfl (by decide) (by decide) dX8_areEnough_3 ?_
  refine Z_iconst dX8_areEnough_6 ?_
  refine Z_iconst dX8_areEnough_7 ?_
  obtain ⟨b1, h⟩ := h
  refine Z_iast (zin_c (by decide) (by omega) (by decide) (by decide) b1) dX8_areEnough_8 ?_
  obtain ⟨μ2, eμ2⟩ : ∃ z : zM, z = zu μ 140 (wr 0) ((-1)) := ⟨_, rfl⟩
  have h := h μ2 eμ2
  refine Z_mem eμ2 ?_
  exact Z_cut h ⟨rfl, rfl, rfl, trivial⟩
theorem bX8_areEnough_9 {G : zG} {n : Nat} (hn : 154 ≤ n) {x1 x2 : Int} {μ : zM} {K : Int → zM → Prop}
    (h : (((wr x2 < 0 → (K 0 μ)) ∧ (¬ (wr x2 < 0) → ((0 ≤ wr x2 ∧ wr x2 < 8) ∧ (0 ≤ wr x2 ∧ wr x2 < 8) ∧ ∀ μ4 : zM, μ4 = zu μ 140 (wr x2) ((μ 140 (wr x2)) + 1) → (0 ≤ wr x2 ∧ wr x2 < 8) ∧ mX8_setsAhead G n x2 μ4 (fun r6 μ7 => ((wr r6 < wr (μ4 140 (wr x2)) → (pX8_areEnough G n K 9 [some (Rv G 127), some (Iv x1), some (Iv (x2 + (-1)))] [] μ7)) ∧ (¬ (wr r6 < wr (μ4 140 (wr x2))) → ((0 ≤ wr x2 ∧ wr x2 < 8) ∧ ((wr (μ7 140 (wr x2)) < wr x1 → (mX8_mayBe G n x2 μ7 (fun r11 μ12 => ((¬ wr r11 = 0 → (mX8_wide G n  μ12 (fun r14 μ15 => ((¬ wr x2 = wr (r14 - 1) → ((0 ≤ wr (x2 + 1) ∧ wr (x2 + 1) < 8) ∧ ∀ μ18 : zM, μ18 = zu μ15 140 (wr (x2 + 1)) ((-1)) → pX8_areEnough G n K 9 [some (Rv G 127), some (Iv x1), some (Iv (x2 + 1))] [] μ18)) ∧ (wr x2 = wr (r14 - 1) → (K 1 μ15)))))) ∧ (wr r11 = 0 → (pX8_areEnough G n K 9 [some (Rv G 127), some (Iv x1), some (Iv x2)] [] μ12)))))) ∧ (¬ (wr (μ7 140 (wr x2)) < wr x1) → (pX8_areEnough G n K 9 [some (Rv G 127), some (Iv x1), some (Iv (x2 + (-1)))] [] μ7)))))))))))) :
    pX8_areEnough G n K 9 [some (Rv G 127), some (Iv x1), some (Iv x2)] [] μ := by
  refine Z_iload_n dX8_areEnough_9 rfl ?_
  refine Z_if_lt (tgt := 89) dX8_areEnough_10 (by decide) (fun c1 => ?_) (fun c1 => ?_)
  · have h := h.1 c1
    refine Z_iconst dX8_areEnough_89 ?_
    exact Z_zreturn dX8_areEnough_90 (by decide) ⟨_, rfl, h⟩
  · have h := h.2 c1
    refine Z_aload_n dX8_areEnough_13 rfl ?_
    refine Z_gr (t := 140) zcX8 fl_X8_59 ⟨by decide, by omega⟩ rfl rfl rfl (by decide) (by decide) dX8_areEnough_14 ?_
    refine Z_iload_n dX8_areEnough_17 rfl ?_
    refine Z_dup2 dX8_areEnough_18 rfl rfl ?_
    obtain ⟨b2, h⟩ := h
    refine Z_iald (zin_c (by decide) (by omega) (by decide) (by decide) b2) dX8_areEnough_19 ?_
    refine Z_iconst dX8_areEnough_20 ?_
    refine Z_iadd dX8_areEnough_21 ?_
    obtain ⟨b3, h⟩ := h
    refine Z_iast (zin_c (by decide) (by omega) (by decide) (by decide) b3) dX8_areEnough_22 ?_
    obtain ⟨μ4, eμ4⟩ : ∃ z : zM, z = zu μ 140 (wr x2) ((μ 140 (wr x2)) + 1) := ⟨_, rfl⟩
    have h := h μ4 eμ4
    refine Z_mem eμ4 ?_
    refine Z_aload_n dX8_areEnough_23 rfl ?_
    refine Z_gr (t := 140) zcX8 fl_X8_59 ⟨by decide, by omega⟩ rfl rfl rfl (by decide) (by decide) dX8_areEnough_24 ?_
    refine Z_iload_n dX8_areEnough_27 rfl ?_
    obtain ⟨b5, h⟩ := h
    refine Z_iald (zin_c (by decide) (by omega) (by decide) (by decide) b5) dX8_areEnough_28 ?_
    refine Z_aload_n dX8_areEnough_29 rfl ?_
    refine Z_iload_n dX8_areEnough_30 rfl ?_
    refine Z_callVi h md_X8_setsAhead sv_X8_setsAhead lk_X8_222 zcX8 rfl ⟨by decide, by omega⟩ rfl rfl rfl rfl (Nat.le_of_ble_eq_true rfl) dX8_areEnough_31 ⟨by decide, Nat.le_of_ble_eq_true rfl⟩ ⟨Nat.zero_le _, Nat.zero_le _⟩ ?_
    intro r6 μ7 h
    refine Z_icmp_gt (tgt := 47) dX8_areEnough_34 (by decide) (fun c8 => ?_) (fun c8 => ?_)
    · have h := h.1 c8
      refine Z_iinc (lv2 := [some (Rv G 127), some (Iv x1), some (Iv (x2 + (-1)))]) dX8_areEnough_47 rfl rfl (by decide) rfl ?_
      refine Z_goto (tgt := 9) dX8_areEnough_50 (by decide) ?_
      exact Z_cut h ⟨rfl, rfl, rfl, trivial⟩
    · have h := h.2 c8
      refine Z_aload_n dX8_areEnough_37 rfl ?_
      refine Z_gr (t := 140) zcX8 fl_X8_59 ⟨by decide, by omega⟩ rfl rfl rfl (by decide) (by decide) dX8_areEnough_38 ?_
      refine Z_iload_n dX8_areEnough_41 rfl ?_
      obtain ⟨b9, h⟩ := h
      refine Z_iald (zin_c (by decide) (by omega) (by decide) (by decide) b9) dX8_areEnough_42 ?_
      refine Z_iload_n dX8_areEnough_43 rfl ?_
      refine Z_icmp_lt (tgt := 53) dX8_areEnough_44 (by decide) (fun c10 => ?_) (fun c10 => ?_)
      · have h := h.1 c10
        refine Z_aload_n dX8_areEnough_53 rfl ?_
        refine Z_iload_n dX8_areEnough_54 rfl ?_
        refine Z_callVi h md_X8_mayBe sv_X8_mayBe lk_X8_225 zcX8 rfl ⟨by decide, by omega⟩ rfl rfl rfl rfl (Nat.le_of_ble_eq_true rfl) dX8_areEnough_55 ⟨by decide, Nat.le_of_ble_eq_true rfl⟩ ⟨Nat.zero_le _, Nat.zero_le _⟩ ?_
        intro r11 μ12 h
        refine Z_if_ne (tgt := 64) dX8_areEnough_58 (by decide) (fun c13 => ?_) (fun c13 => ?_)
        · have h := h.1 c13
          refine Z_iload_n dX8_areEnough_64 rfl ?_
          refine Z_aload_n dX8_areEnough_65 rfl ?_
          refine Z_callVi h md_X8_wide sv_X8_wide lk_X8_201 zcX8 rfl ⟨by decide, by omega⟩ rfl rfl rfl rfl (Nat.le_of_ble_eq_true rfl) dX8_areEnough_66 ⟨by decide, Nat.le_of_ble_eq_true rfl⟩ ⟨Nat.zero_le _, Nat.zero_le _⟩ ?_
          intro r14 μ15 h
          refine Z_iconst dX8_areEnough_69 ?_
          refine Z_isub dX8_areEnough_70 ?_
          refine Z_icmp_ne (tgt := 76) dX8_areEnough_71 (by decide) (fun c16 => ?_) (fun c16 => ?_)
          · have h := h.1 c16
            refine Z_iinc (lv2 := [some (Rv G 127), some (Iv x1), some (Iv (x2 + 1))]) dX8_areEnough_76 rfl rfl (by decide) rfl ?_
            refine Z_aload_n dX8_areEnough_79 rfl ?_
            refine Z_gr (t := 140) zcX8 fl_X8_59 ⟨by decide, by omega⟩ rfl rfl rfl (by decide) (by decide) dX8_areEnough_80 ?_
            refine Z_iload_n dX8_areEnough_83 rfl ?_
            refine Z_iconst dX8_areEnough_84 ?_
            obtain ⟨b17, h⟩ := h
            refine Z_iast (zin_c (by decide) (by omega) (by decide) (by decide) b17) dX8_areEnough_85 ?_
            obtain ⟨μ18, eμ18⟩ : ∃ z : zM, z = zu μ15 140 (wr (x2 + 1)) ((-1)) := ⟨_, rfl⟩
            have h := h μ18 eμ18
            refine Z_mem eμ18 ?_
            refine Z_goto (tgt := 9) dX8_areEnough_86 (by decide) ?_
            exact Z_cut h ⟨rfl, rfl, rfl, trivial⟩
          · have h := h.2 c16
            refine Z_iconst dX8_areEnough_74 ?_
            exact Z_zreturn dX8_areEnough_75 (by decide) ⟨_, rfl, h⟩
        · have h := h.2 c13
          refine Z_goto (tgt := 9) dX8_areEnough_61 (by decide) ?_
          exact Z_cut h ⟨rfl, rfl, rfl, trivial⟩
      · have h := h.2 c10
        refine Z_iinc (lv2 := [some (Rv G 127), some (Iv x1), some (Iv (x2 + (-1)))]) dX8_areEnough_47 rfl rfl (by decide) rfl ?_
        refine Z_goto (tgt := 9) dX8_areEnough_50 (by decide) ?_
        exact Z_cut h ⟨rfl, rfl, rfl, trivial⟩
abbrev mX8_mend (G : zG) (n : Nat) (x1 x2 : Int) (μ : zM) (K : Int → zM → Prop) : Prop := zMt G n 6 yX8_mend cX8_mend 3 (some .int) [Rv G 127, Iv x1, Iv x2] μ (zKi K)
abbrev pX8_mend (G : zG) (n : Nat) (K : Int → zM → Prop) (pc : Nat) (lv : List (Option Value)) (st : List Value) (μ : zM) : Prop := Z G (zrm 6 0 0) RX8 "mend" cX8_mend 3 (some .int) (zPh G n (zKi K)) 0 0 pc lv st (zE G n μ)
theorem eX8_mend {G : zG} {n : Nat} (hn : 154 ≤ n) {x1 x2 : Int} {μ : zM} {K : Int → zM → Prop}
    (h : (mX8_isLine G n x1 μ (fun r1 μ2 => ((wr r1 = 0 → (K ((-1)) μ2)) ∧ (¬ (wr r1 = 0) → (mX8_isLine G n x2 μ2 (fun r4 μ5 => ((¬ wr r4 = 0 → (mX8_isTaken G n x1 x2 μ5 (fun r7 μ8 => ((wr r7 = 0 → (mX8_mendOne G n x1 x2 μ8 (fun r10 μ11 => K r10 μ11))) ∧ (¬ (wr r7 = 0) → (K ((-3)) μ8)))))) ∧ (wr r4 = 0 → (K ((-1)) μ5)))))))))) :
    mX8_mend G n x1 x2 μ K := by
  refine zMt_of (lv := [some (Rv G 127), some (Iv x1), some (Iv x2)]) (by decide) rfl (Nat.le_of_ble_eq_true rfl) ?_
  show pX8_mend G n K 0 [some (Rv G 127), some (Iv x1), some (Iv x2)] [] μ
  refine Z_aload_n dX8_mend_0 rfl ?_
  refine Z_iload_n dX8_mend_1 rfl ?_
  refine Z_callVi h md_X8_isLine sv_X8_isLine lk_X8_123 zcX8 rfl ⟨by decide, by omega⟩ rfl rfl rfl rfl (Nat.le_of_ble_eq_true rfl) dX8_mend_2 ⟨by decide, Nat.le_of_ble_eq_true rfl⟩ ⟨Nat.zero_le _, Nat.zero_le _⟩ ?_
  intro r1 μ2 h
  refine Z_if_eq (tgt := 16) dX8_mend_5 (by decide) (fun c3 => ?_) (fun c3 => ?_)
  · have h := h.1 c3
    refine Z_iconst dX8_mend_16 ?_
    exact Z_ireturn dX8_mend_17 ⟨_, rfl, h⟩
  · have h := h.2 c3
    refine Z_aload_n dX8_mend_8 rfl ?_
    refine Z_iload_n dX8_mend_9 rfl ?_
    refine Z_callVi h md_X8_isLine sv_X8_isLine lk_X8_123 zcX8 rfl ⟨by decide, by omega⟩ rfl rfl rfl rfl (Nat.le_of_ble_eq_true rfl) dX8_mend_10 ⟨by decide, Nat.le_of_ble_eq_true rfl⟩ ⟨Nat.zero_le _, Nat.zero_le _⟩ ?_
    intro r4 μ5 h
    refine Z_if_ne (tgt := 18) dX8_mend_13 (by decide) (fun c6 => ?_) (fun c6 => ?_)
    · have h := h.1 c6
      refine Z_aload_n dX8_mend_18 rfl ?_
      refine Z_iload_n dX8_mend_19 rfl ?_
      refine Z_iload_n dX8_mend_20 rfl ?_
      refine Z_callVi h md_X8_isTaken sv_X8_isTaken lk_X8_127 zcX8 rfl ⟨by decide, by omega⟩ rfl rfl rfl rfl (Nat.le_of_ble_eq_true rfl) dX8_mend_21 ⟨by decide, Nat.le_of_ble_eq_true rfl⟩ ⟨Nat.zero_le _, Nat.zero_le _⟩ ?_
      intro r7 μ8 h
      refine Z_if_eq (tgt := 32) dX8_mend_24 (by decide) (fun c9 => ?_) (fun c9 => ?_)
      · have h := h.1 c9
        refine Z_aload_n dX8_mend_32 rfl ?_
        refine Z_iload_n dX8_mend_33 rfl ?_
        refine Z_iload_n dX8_mend_34 rfl ?_
        refine Z_callVi h md_X8_mendOne sv_X8_mendOne lk_X8_154 zcX8 rfl ⟨by decide, by omega⟩ rfl rfl rfl rfl (Nat.le_of_ble_eq_true rfl) dX8_mend_35 ⟨by decide, Nat.le_of_ble_eq_true rfl⟩ ⟨Nat.zero_le _, Nat.zero_le _⟩ ?_
        intro r10 μ11 h
        exact Z_ireturn dX8_mend_38 ⟨_, rfl, h⟩
      · have h := h.2 c9
        refine Z_bipush dX8_mend_27 (by decide) ?_
        refine Z_goto (tgt := 38) dX8_mend_29 (by decide) ?_
        exact Z_ireturn dX8_mend_38 ⟨_, rfl, h⟩
    · have h := h.2 c6
      refine Z_iconst dX8_mend_16 ?_
      exact Z_ireturn dX8_mend_17 ⟨_, rfl, h⟩
abbrev mX8_anew (G : zG) (n : Nat) (μ : zM) (K : Int → zM → Prop) : Prop := zMt G n 6 yX8_anew cX8_anew 4 (some .int) [Rv G 127] μ (zKi K)
abbrev pX8_anew (G : zG) (n : Nat) (K : Int → zM → Prop) (pc : Nat) (lv : List (Option Value)) (st : List Value) (μ : zM) : Prop := Z G (zrm 6 0 0) RX8 "anew" cX8_anew 4 (some .int) (zPh G n (zKi K)) 0 0 pc lv st (zE G n μ)
theorem eX8_anew {G : zG} {n : Nat} (hn : 154 ≤ n) {μ : zM} {K : Int → zM → Prop}
    (h : (pX8_anew G n K 2 [some (Rv G 127), some (Iv 0), none, none] [] μ)) :
    mX8_anew G n  μ K := by
  refine zMt_of (lv := [some (Rv G 127), none, none, none]) (by decide) rfl (Nat.le_of_ble_eq_true rfl) ?_
  show pX8_anew G n K 0 [some (Rv G 127), none, none, none] [] μ
  refine Z_iconst dX8_anew_0 ?_
  refine Z_istore_n (lv2 := [some (Rv G 127), some (Iv 0), none, none]) dX8_anew_1 rfl (by decide) rfl ?_
  exact Z_cut h ⟨rfl, rfl, trivial, trivial, trivial⟩
theorem bX8_anew_2 {G : zG} {n : Nat} (hn : 154 ≤ n) {x1 : Int} {μ : zM} {K : Int → zM → Prop}
    (h : (((wr 20 ≤ wr x1 → (pX8_anew G n K 49 [some (Rv G 127), some (Iv 1), some (Iv 0), none] [] μ)) ∧ (¬ (wr 20 ≤ wr x1) → ((0 ≤ wr x1 ∧ wr x1 < 20) ∧ (0 ≤ wr x1 ∧ wr x1 < 20) ∧ ∀ μ4 : zM, μ4 = zu μ 131 (wr x1) (μ 128 (wr x1)) → (0 ≤ wr x1 ∧ wr x1 < 20) ∧ (0 ≤ wr x1 ∧ wr x1 < 20) ∧ ∀ μ7 : zM, μ7 = zu μ4 132 (wr x1) (μ4 129 (wr x1)) → (0 ≤ wr x1 ∧ wr x1 < 20) ∧ ∀ μ9 : zM, μ9 = zu μ7 128 (wr x1) 0 → pX8_anew G n K 2 [some (Rv G 127), some (Iv (x1 + 1)), none, none] [] μ9))))) :
    pX8_anew G n K 2 [some (Rv G 127), some (Iv x1), none, none] [] μ := by
  refine Z_iload_n dX8_anew_2 rfl ?_
  refine Z_bipush dX8_anew_3 (by decide) ?_
  refine Z_icmp_ge (tgt := 45) dX8_anew_5 (by decide) (fun c1 => ?_) (fun c1 => ?_)
  · have h := h.1 c1
    refine Z_iconst dX8_anew_45 ?_
    refine Z_istore_n (lv2 := [some (Rv G 127), some (Iv 1), none, none]) dX8_anew_46 rfl (by decide) rfl ?_
    refine Z_iconst dX8_anew_47 ?_
    refine Z_istore_n (lv2 := [some (Rv G 127), some (Iv 1), some (Iv 0), none]) dX8_anew_48 rfl (by decide) rfl ?_
    exact Z_cut h ⟨rfl, rfl, rfl, trivial, trivial⟩
  · have h := h.2 c1
    refine Z_aload_n dX8_anew_8 rfl ?_
    refine Z_gr (t := 131) zcX8 fl_X8_29 ⟨by decide, by omega⟩ rfl rfl rfl (by decide) (by decide) dX8_anew_9 ?_
    refine Z_iload_n dX8_anew_12 rfl ?_
    refine Z_aload_n dX8_anew_13 rfl ?_
    refine Z_gr (t := 128) zcX8 fl_X8_19 ⟨by decide, by omega⟩ rfl rfl rfl (by decide) (by decide) dX8_anew_14 ?_
    refine Z_iload_n dX8_anew_17 rfl ?_
    obtain ⟨b2, h⟩ := h
    refine Z_iald (zin_c (by decide) (by omega) (by decide) (by decide) b2) dX8_anew_18 ?_
    obtain ⟨b3, h⟩ := h
    refine Z_iast (zin_c (by decide) (by omega) (by decide) (by decide) b3) dX8_anew_19 ?_
    obtain ⟨μ4, eμ4⟩ : ∃ z : zM, z = zu μ 131 (wr x1) (μ 128 (wr x1)) := ⟨_, rfl⟩
    have h := h μ4 eμ4
    refine Z_mem eμ4 ?_
    refine Z_aload_n dX8_anew_20 rfl ?_
    refine Z_gr (t := 132) zcX8 fl_X8_32 ⟨by decide, by omega⟩ rfl rfl rfl (by decide) (by decide) dX8_anew_21 ?_
    refine Z_iload_n dX8_anew_24 rfl ?_
    refine Z_aload_n dX8_anew_25 rfl ?_
    refine Z_gr (t := 129) zcX8 fl_X8_23 ⟨by decide, by omega⟩ rfl rfl rfl (by decide) (by decide) dX8_anew_26 ?_
    refine Z_iload_n dX8_anew_29 rfl ?_
    obtain ⟨b5, h⟩ := h
    refine Z_iald (zin_c (by decide) (by omega) (by decide) (by decide) b5) dX8_anew_30 ?_
    obtain ⟨b6, h⟩ := h
    refine Z_iast (zin_c (by decide) (by omega) (by decide) (by decide) b6) dX8_anew_31 ?_
    obtain ⟨μ7, eμ7⟩ : ∃ z : zM, z = zu μ4 132 (wr x1) (μ4 129 (wr x1)) := ⟨_, rfl⟩
    have h := h μ7 eμ7
    refine Z_mem eμ7 ?_
    refine Z_aload_n dX8_anew_32 rfl ?_
    refine Z_gr (t := 128) zcX8 fl_X8_19 ⟨by decide, by omega⟩ rfl rfl rfl (by decide) (by decide) dX8_anew_33 ?_
    refine Z_iload_n dX8_anew_36 rfl ?_
    refine Z_iconst dX8_anew_37 ?_
    obtain ⟨b8, h⟩ := h
    refine Z_iast (zin_c (by decide) (by omega) (by decide) (by decide) b8) dX8_anew_38 ?_
    obtain ⟨μ9, eμ9⟩ : ∃ z : zM, z = zu μ7 128 (wr x1) 0 := ⟨_, rfl⟩
    have h := h μ9 eμ9
    refine Z_mem eμ9 ?_
    refine Z_iinc (lv2 := [some (Rv G 127), some (Iv (x1 + 1)), none, none]) dX8_anew_39 rfl rfl (by decide) rfl ?_
    refine Z_goto (tgt := 2) dX8_anew_42 (by decide) ?_
    exact Z_cut h ⟨rfl, rfl, trivial, trivial, trivial⟩
theorem bX8_anew_49 {G : zG} {n : Nat} (hn : 154 ≤ n) {x1 x2 : Int} {μ : zM} {K : Int → zM → Prop}
    (h : (mX8_lines G n  μ (fun r1 μ2 => ((wr r1 ≤ wr x2 → (pX8_anew G n K 104 [some (Rv G 127), some (Iv x1), some (Iv 0), some (Iv 0)] [] μ2)) ∧ (¬ (wr r1 ≤ wr x2) → (((wr x1 = 0 → (pX8_anew G n K 104 [some (Rv G 127), some (Iv x1), some (Iv 0), some (Iv 0)] [] μ2)) ∧ (¬ (wr x1 = 0) → ((0 ≤ wr x2 ∧ wr x2 < 20) ∧ ((wr (μ2 131 (wr x2)) = 0 → (pX8_anew G n K 49 [some (Rv G 127), some (Iv 1), some (Iv (x2 + 1)), none] [] μ2)) ∧ (¬ (wr (μ2 131 (wr x2)) = 0) → ((0 ≤ wr x2 ∧ wr x2 < 20) ∧ mX8_mendOne G n x2 ((μ2 131 (wr x2)) - 1) μ2 (fun r8 μ9 => ((wr r8 = wr ((-9)) → (pX8_anew G n K 49 [some (Rv G 127), some (Iv 0), some (Iv (x2 + 1)), none] [] μ9)) ∧ (¬ (wr r8 = wr ((-9))) → (pX8_anew G n K 49 [some (Rv G 127), some (Iv 1), some (Iv (x2 + 1)), none] [] μ9)))))))))))))))) :
    pX8_anew G n K 49 [some (Rv G 127), some (Iv x1), some (Iv x2), none] [] μ := by
  refine Z_iload_n dX8_anew_49 rfl ?_
  refine Z_aload_n dX8_anew_50 rfl ?_
  refine Z_callVi h md_X8_lines sv_X8_lines lk_X8_112 zcX8 rfl ⟨by decide, by omega⟩ rfl rfl rfl rfl (Nat.le_of_ble_eq_true rfl) dX8_anew_51 ⟨by decide, Nat.le_of_ble_eq_true rfl⟩ ⟨Nat.zero_le _, Nat.zero_le _⟩ ?_
  intro r1 μ2 h
  refine Z_icmp_ge (tgt := 100) dX8_anew_54 (by decide) (fun c3 => ?_) (fun c3 => ?_)
  · have h := h.1 c3
    refine Z_iconst dX8_anew_100 ?_
    refine Z_istore_n (lv2 := [some (Rv G 127), some (Iv x1), some (Iv 0), none]) dX8_anew_101 rfl (by decide) rfl ?_
    refine Z_iconst dX8_anew_102 ?_
    refine Z_istore_n (lv2 := [some (Rv G 127), some (Iv x1), some (Iv 0), some (Iv 0)]) dX8_anew_103 rfl (by decide) rfl ?_
    exact Z_cut h ⟨rfl, rfl, rfl, rfl, trivial⟩
  · have h := h.2 c3
    refine Z_iload_n dX8_anew_57 rfl ?_
    refine Z_if_eq (tgt := 100) dX8_anew_58 (by decide) (fun c4 => ?_) (fun c4 => ?_)
    · have h := h.1 c4
      refine Z_iconst dX8_anew_100 ?_
      refine Z_istore_n (lv2 := [some (Rv G 127), some (Iv x1), some (Iv 0), none]) dX8_anew_101 rfl (by decide) rfl ?_
      refine Z_iconst dX8_anew_102 ?_
      refine Z_istore_n (lv2 := [some (Rv G 127), some (Iv x1), some (Iv 0), some (Iv 0)]) dX8_anew_103 rfl (by decide) rfl ?_
      exact Z_cut h ⟨rfl, rfl, rfl, rfl, trivial⟩
    · have h := h.2 c4
      refine Z_aload_n dX8_anew_61 rfl ?_
      refine Z_gr (t := 131) zcX8 fl_X8_29 ⟨by decide, by omega⟩ rfl rfl rfl (by decide) (by decide) dX8_anew_62 ?_
      refine Z_iload_n dX8_anew_65 rfl ?_
      obtain ⟨b5, h⟩ := h
      refine Z_iald (zin_c (by decide) (by omega) (by decide) (by decide) b5) dX8_anew_66 ?_
      refine Z_if_eq (tgt := 88) dX8_anew_67 (by decide) (fun c6 => ?_) (fun c6 => ?_)
      · have h := h.1 c6
        refine Z_iconst dX8_anew_88 ?_
        refine Z_goto (tgt := 93) dX8_anew_89 (by decide) ?_
        refine Z_istore_n (lv2 := [some (Rv G 127), some (Iv 1), some (Iv x2), none]) dX8_anew_93 rfl (by decide) rfl ?_
        refine Z_iinc (lv2 := [some (Rv G 127), some (Iv 1), some (Iv (x2 + 1)), none]) dX8_anew_94 rfl rfl (by decide) rfl ?_
        refine Z_goto (tgt := 49) dX8_anew_97 (by decide) ?_
        exact Z_cut h ⟨rfl, rfl, rfl, trivial, trivial⟩
      · have h := h.2 c6
        refine Z_aload_n dX8_anew_70 rfl ?_
        refine Z_iload_n dX8_anew_71 rfl ?_
        refine Z_aload_n dX8_anew_72 rfl ?_
        refine Z_gr (t := 131) zcX8 fl_X8_29 ⟨by decide, by omega⟩ rfl rfl rfl (by decide) (by decide) dX8_anew_73 ?_
        refine Z_iload_n dX8_anew_76 rfl ?_
        obtain ⟨b7, h⟩ := h
        refine Z_iald (zin_c (by decide) (by omega) (by decide) (by decide) b7) dX8_anew_77 ?_
        refine Z_iconst dX8_anew_78 ?_
        refine Z_isub dX8_anew_79 ?_
        refine Z_callVi h md_X8_mendOne sv_X8_mendOne lk_X8_154 zcX8 rfl ⟨by decide, by omega⟩ rfl rfl rfl rfl (Nat.le_of_ble_eq_true rfl) dX8_anew_80 ⟨by decide, Nat.le_of_ble_eq_true rfl⟩ ⟨Nat.zero_le _, Nat.zero_le _⟩ ?_
        intro r8 μ9 h
        refine Z_bipush dX8_anew_83 (by decide) ?_
        refine Z_icmp_eq (tgt := 92) dX8_anew_85 (by decide) (fun c10 => ?_) (fun c10 => ?_)
        · have h := h.1 c10
          refine Z_iconst dX8_anew_92 ?_
          refine Z_istore_n (lv2 := [some (Rv G 127), some (Iv 0), some (Iv x2), none]) dX8_anew_93 rfl (by decide) rfl ?_
          refine Z_iinc (lv2 := [some (Rv G 127), some (Iv 0), some (Iv (x2 + 1)), none]) dX8_anew_94 rfl rfl (by decide) rfl ?_
          refine Z_goto (tgt := 49) dX8_anew_97 (by decide) ?_
          exact Z_cut h ⟨rfl, rfl, rfl, trivial, trivial⟩
        · have h := h.2 c10
          refine Z_iconst dX8_anew_88 ?_
          refine Z_goto (tgt := 93) dX8_anew_89 (by decide) ?_
          refine Z_istore_n (lv2 := [some (Rv G 127), some (Iv 1), some (Iv x2), none]) dX8_anew_93 rfl (by decide) rfl ?_
          refine Z_iinc (lv2 := [some (Rv G 127), some (Iv 1), some (Iv (x2 + 1)), none]) dX8_anew_94 rfl rfl (by decide) rfl ?_
          refine Z_goto (tgt := 49) dX8_anew_97 (by decide) ?_
          exact Z_cut h ⟨rfl, rfl, rfl, trivial, trivial⟩
theorem bX8_anew_104 {G : zG} {n : Nat} (hn : 154 ≤ n) {x1 x2 x3 : Int} {μ : zM} {K : Int → zM → Prop}
    (h : (((wr 20 ≤ wr x3 → (((wr x1 = 0 → (K ((-3)) μ)) ∧ (¬ (wr x1 = 0) → (K x2 μ))))) ∧ (¬ (wr 20 ≤ wr x3) → (((¬ wr x1 = 0 → ((0 ≤ wr x3 ∧ wr x3 < 20) ∧ ((wr (μ 128 (wr x3)) ≤ 0 → (pX8_anew G n K 104 [some (Rv G 127), some (Iv x1), some (Iv (x2 + 0)), some (Iv (x3 + 1))] [] μ)) ∧ (¬ (wr (μ 128 (wr x3)) ≤ 0) → ((0 ≤ wr x3 ∧ wr x3 < 20) ∧ (0 ≤ wr x3 ∧ wr x3 < 20) ∧ ((wr (μ 129 (wr x3)) = wr (μ 132 (wr x3)) → (pX8_anew G n K 104 [some (Rv G 127), some (Iv x1), some (Iv (x2 + 0)), some (Iv (x3 + 1))] [] μ)) ∧ (¬ (wr (μ 129 (wr x3)) = wr (μ 132 (wr x3))) → (pX8_anew G n K 104 [some (Rv G 127), some (Iv x1), some (Iv (x2 + 1)), some (Iv (x3 + 1))] [] μ)))))))) ∧ (wr x1 = 0 → ((0 ≤ wr x3 ∧ wr x3 < 20) ∧ (0 ≤ wr x3 ∧ wr x3 < 20) ∧ ∀ μ11 : zM, μ11 = zu μ 128 (wr x3) (μ 131 (wr x3)) → (0 ≤ wr x3 ∧ wr x3 < 20) ∧ (0 ≤ wr x3 ∧ wr x3 < 20) ∧ ∀ μ14 : zM, μ14 = zu μ11 129 (wr x3) (μ11 132 (wr x3)) → (0 ≤ wr x3 ∧ wr x3 < 20) ∧ ((wr (μ14 128 (wr x3)) ≤ 0 → (pX8_anew G n K 104 [some (Rv G 127), some (Iv x1), some (Iv (x2 + 0)), some (Iv (x3 + 1))] [] μ14)) ∧ (¬ (wr (μ14 128 (wr x3)) ≤ 0) → ((0 ≤ wr x3 ∧ wr x3 < 20) ∧ (0 ≤ wr x3 ∧ wr x3 < 20) ∧ ((wr (μ14 129 (wr x3)) = wr (μ14 132 (wr x3)) → (pX8_anew G n K 104 [some (Rv G 127), some (Iv x1), some (Iv (x2 + 0)), some (Iv (x3 + 1))] [] μ14)) ∧ (¬ (wr (μ14 129 (wr x3)) = wr (μ14 132 (wr x3))) → (pX8_anew G n K 104 [some (Rv G 127), some (Iv x1), some (Iv (x2 + 1)), some (Iv (x3 + 1))] [] μ14)))))))))))))) :
    pX8_anew G n K 104 [some (Rv G 127), some (Iv x1), some (Iv x2), some (Iv x3)] [] μ := by
  refine Z_iload_n dX8_anew_104 rfl ?_
  refine Z_bipush dX8_anew_105 (by decide) ?_
  refine Z_icmp_ge (tgt := 176) dX8_anew_107 (by decide) (fun c1 => ?_) (fun c1 => ?_)
  · have h := h.1 c1
    refine Z_iload_n dX8_anew_176 rfl ?_
    refine Z_if_eq (tgt := 184) dX8_anew_177 (by decide) (fun c2 => ?_) (fun c2 => ?_)
    · have h := h.1 c2
      refine Z_bipush dX8_anew_184 (by decide) ?_
      exact Z_ireturn dX8_anew_186 ⟨_, rfl, h⟩
    · have h := h.2 c2
      refine Z_iload_n dX8_anew_180 rfl ?_
      refine Z_goto (tgt := 186) dX8_anew_181 (by decide) ?_
      exact Z_ireturn dX8_anew_186 ⟨_, rfl, h⟩
  · have h := h.2 c1
    refine Z_iload_n dX8_anew_110 rfl ?_
    refine Z_if_ne (tgt := 138) dX8_anew_111 (by decide) (fun c3 => ?_) (fun c3 => ?_)
    · have h := h.1 c3
      refine Z_iload_n dX8_anew_138 rfl ?_
      refine Z_aload_n dX8_anew_139 rfl ?_
      refine Z_gr (t := 128) zcX8 fl_X8_19 ⟨by decide, by omega⟩ rfl rfl rfl (by decide) (by decide) dX8_anew_140 ?_
      refine Z_iload_n dX8_anew_143 rfl ?_
      obtain ⟨b4, h⟩ := h
      refine Z_iald (zin_c (by decide) (by omega) (by decide) (by decide) b4) dX8_anew_144 ?_
      refine Z_if_le (tgt := 167) dX8_anew_145 (by decide) (fun c5 => ?_) (fun c5 => ?_)
      · have h := h.1 c5
        refine Z_iconst dX8_anew_167 ?_
        refine Z_iadd dX8_anew_168 ?_
        refine Z_istore_n (lv2 := [some (Rv G 127), some (Iv x1), some (Iv (x2 + 0)), some (Iv x3)]) dX8_anew_169 rfl (by decide) rfl ?_
        refine Z_iinc (lv2 := [some (Rv G 127), some (Iv x1), some (Iv (x2 + 0)), some (Iv (x3 + 1))]) dX8_anew_170 rfl rfl (by decide) rfl ?_
        refine Z_goto (tgt := 104) dX8_anew_173 (by decide) ?_
        exact Z_cut h ⟨rfl, rfl, rfl, rfl, trivial⟩
      · have h := h.2 c5
        refine Z_aload_n dX8_anew_148 rfl ?_
        refine Z_gr (t := 129) zcX8 fl_X8_23 ⟨by decide, by omega⟩ rfl rfl rfl (by decide) (by decide) dX8_anew_149 ?_
        refine Z_iload_n dX8_anew_152 rfl ?_
        obtain ⟨b6, h⟩ := h
        refine Z_iald (zin_c (by decide) (by omega) (by decide) (by decide) b6) dX8_anew_153 ?_
        refine Z_aload_n dX8_anew_154 rfl ?_
        refine Z_gr (t := 132) zcX8 fl_X8_32 ⟨by decide, by omega⟩ rfl rfl rfl (by decide) (by decide) dX8_anew_155 ?_
        refine Z_iload_n dX8_anew_158 rfl ?_
        obtain ⟨b7, h⟩ := h
        refine Z_iald (zin_c (by decide) (by omega) (by decide) (by decide) b7) dX8_anew_159 ?_
        refine Z_icmp_eq (tgt := 167) dX8_anew_160 (by decide) (fun c8 => ?_) (fun c8 => ?_)
        · have h := h.1 c8
          refine Z_iconst dX8_anew_167 ?_
          refine Z_iadd dX8_anew_168 ?_
          refine Z_istore_n (lv2 := [some (Rv G 127), some (Iv x1), some (Iv (x2 + 0)), some (Iv x3)]) dX8_anew_169 rfl (by decide) rfl ?_
          refine Z_iinc (lv2 := [some (Rv G 127), some (Iv x1), some (Iv (x2 + 0)), some (Iv (x3 + 1))]) dX8_anew_170 rfl rfl (by decide) rfl ?_
          refine Z_goto (tgt := 104) dX8_anew_173 (by decide) ?_
          exact Z_cut h ⟨rfl, rfl, rfl, rfl, trivial⟩
        · have h := h.2 c8
          refine Z_iconst dX8_anew_163 ?_
          refine Z_goto (tgt := 168) dX8_anew_164 (by decide) ?_
          refine Z_iadd dX8_anew_168 ?_
          refine Z_istore_n (lv2 := [some (Rv G 127), some (Iv x1), some (Iv (x2 + 1)), some (Iv x3)]) dX8_anew_169 rfl (by decide) rfl ?_
          refine Z_iinc (lv2 := [some (Rv G 127), some (Iv x1), some (Iv (x2 + 1)), some (Iv (x3 + 1))]) dX8_anew_170 rfl rfl (by decide) rfl ?_
          refine Z_goto (tgt := 104) dX8_anew_173 (by decide) ?_
          exact Z_cut h ⟨rfl, rfl, rfl, rfl, trivial⟩
    · have h := h.2 c3
      refine Z_aload_n dX8_anew_114 rfl ?_
      refine Z_gr (t := 128) zcX8 fl_X8_19 ⟨by decide, by omega⟩ rfl rfl rfl (by decide) (by decide) dX8_anew_115 ?_
      refine Z_iload_n dX8_anew_118 rfl ?_
      refine Z_aload_n dX8_anew_119 rfl ?_
      refine Z_gr (t := 131) zcX8 fl_X8_29 ⟨by decide, by omega⟩ rfl rfl rfl (by decide) (by decide) dX8_anew_120 ?_
      refine Z_iload_n dX8_anew_123 rfl ?_
      obtain ⟨b9, h⟩ := h
      refine Z_iald (zin_c (by decide) (by omega) (by decide) (by decide) b9) dX8_anew_124 ?_
      obtain ⟨b10, h⟩ := h
      refine Z_iast (zin_c (by decide) (by omega) (by decide) (by decide) b10) dX8_anew_125 ?_
      obtain ⟨μ11, eμ11⟩ : ∃ z : zM, z = zu μ 128 (wr x3) (μ 131 (wr x3)) := ⟨_, rfl⟩
      have h := h μ11 eμ11
      refine Z_mem eμ11 ?_
      refine Z_aload_n dX8_anew_126 rfl ?_
      refine Z_gr (t := 129) zcX8 fl_X8_23 ⟨by decide, by omega⟩ rfl rfl rfl (by decide) (by decide) dX8_anew_127 ?_
      refine Z_iload_n dX8_anew_130 rfl ?_
      refine Z_aload_n dX8_anew_131 rfl ?_
      refine Z_gr (t := 132) zcX8 fl_X8_32 ⟨by decide, by omega⟩ rfl rfl rfl (by decide) (by decide) dX8_anew_132 ?_
      refine Z_iload_n dX8_anew_135 rfl ?_
      obtain ⟨b12, h⟩ := h
      refine Z_iald (zin_c (by decide) (by omega) (by decide) (by decide) b12) dX8_anew_136 ?_
      obtain ⟨b13, h⟩ := h
      refine Z_iast (zin_c (by decide) (by omega) (by decide) (by decide) b13) dX8_anew_137 ?_
      obtain ⟨μ14, eμ14⟩ : ∃ z : zM, z = zu μ11 129 (wr x3) (μ11 132 (wr x3)) := ⟨_, rfl⟩
      have h := h μ14 eμ14
      refine Z_mem eμ14 ?_
      refine Z_iload_n dX8_anew_138 rfl ?_
      refine Z_aload_n dX8_anew_139 rfl ?_
      refine Z_gr (t := 128) zcX8 fl_X8_19 ⟨by decide, by omega⟩ rfl rfl rfl (by decide) (by decide) dX8_anew_140 ?_
      refine Z_iload_n dX8_anew_143 rfl ?_
      obtain ⟨b15, h⟩ := h
      refine Z_iald (zin_c (by decide) (by omega) (by decide) (by decide) b15) dX8_anew_144 ?_
      refine Z_if_le (tgt := 167) dX8_anew_145 (by decide) (fun c16 => ?_) (fun c16 => ?_)
      · have h := h.1 c16
        refine Z_iconst dX8_anew_167 ?_
        refine Z_iadd dX8_anew_168 ?_
        refine Z_istore_n (lv2 := [some (Rv G 127), some (Iv x1), some (Iv (x2 + 0)), some (Iv x3)]) dX8_anew_169 rfl (by decide) rfl ?_
        refine Z_iinc (lv2 := [some (Rv G 127), some (Iv x1), some (Iv (x2 + 0)), some (Iv (x3 + 1))]) dX8_anew_170 rfl rfl (by decide) rfl ?_
        refine Z_goto (tgt := 104) dX8_anew_173 (by decide) ?_
        exact Z_cut h ⟨rfl, rfl, rfl, rfl, trivial⟩
      · have h := h.2 c16
        refine Z_aload_n dX8_anew_148 rfl ?_
        refine Z_gr (t := 129) zcX8 fl_X8_23 ⟨by decide, by omega⟩ rfl rfl rfl (by decide) (by decide) dX8_anew_149 ?_
        refine Z_iload_n dX8_anew_152 rfl ?_
        obtain ⟨b17, h⟩ := h
        refine Z_iald (zin_c (by decide) (by omega) (by decide) (by decide) b17) dX8_anew_153 ?_
        refine Z_aload_n dX8_anew_154 rfl ?_
        refine Z_gr (t := 132) zcX8 fl_X8_32 ⟨by decide, by omega⟩ rfl rfl rfl (by decide) (by decide) dX8_anew_155 ?_
        refine Z_iload_n dX8_anew_158 rfl ?_
        obtain ⟨b18, h⟩ := h
        refine Z_iald (zin_c (by decide) (by omega) (by decide) (by decide) b18) dX8_anew_159 ?_
        refine Z_icmp_eq (tgt := 167) dX8_anew_160 (by decide) (fun c19 => ?_) (fun c19 => ?_)
        · have h := h.1 c19
          refine Z_iconst dX8_anew_167 ?_
          refine Z_iadd dX8_anew_168 ?_
          refine Z_istore_n (lv2 := [some (Rv G 127), some (Iv x1), some (Iv (x2 + 0)), some (Iv x3)]) dX8_anew_169 rfl (by decide) rfl ?_
          refine Z_iinc (lv2 := [some (Rv G 127), some (Iv x1), some (Iv (x2 + 0)), some (Iv (x3 + 1))]) dX8_anew_170 rfl rfl (by decide) rfl ?_
          refine Z_goto (tgt := 104) dX8_anew_173 (by decide) ?_
          exact Z_cut h ⟨rfl, rfl, rfl, rfl, trivial⟩
        · have h := h.2 c19
          refine Z_iconst dX8_anew_163 ?_
          refine Z_goto (tgt := 168) dX8_anew_164 (by decide) ?_
          refine Z_iadd dX8_anew_168 ?_
          refine Z_istore_n (lv2 := [some (Rv G 127), some (Iv x1), some (Iv (x2 + 1)), some (Iv x3)]) dX8_anew_169 rfl (by decide) rfl ?_
          refine Z_iinc (lv2 := [some (Rv G 127), some (Iv x1), some (Iv (x2 + 1)), some (Iv (x3 + 1))]) dX8_anew_170 rfl rfl (by decide) rfl ?_
          refine Z_goto (tgt := 104) dX8_anew_173 (by decide) ?_
          exact Z_cut h ⟨rfl, rfl, rfl, rfl, trivial⟩
abbrev mX8_findRounds (G : zG) (n : Nat) (μ : zM) (K : Int → zM → Prop) : Prop := zMt G n 6 yX8_findRounds cX8_findRounds 2 (some .int) [Rv G 127] μ (zKi K)
abbrev pX8_findRounds (G : zG) (n : Nat) (K : Int → zM → Prop) (pc : Nat) (lv : List (Option Value)) (st : List Value) (μ : zM) : Prop := Z G (zrm 6 0 0) RX8 "findRounds" cX8_findRounds 2 (some .int) (zPh G n (zKi K)) 0 0 pc lv st (zE G n μ)
theorem eX8_findRounds {G : zG} {n : Nat} (hn : 154 ≤ n) {μ : zM} {K : Int → zM → Prop}
    (h : (pX8_findRounds G n K 2 [some (Rv G 127), some (Iv 1)] [] μ)) :
    mX8_findRounds G n  μ K := by
  refine zMt_of (lv := [some (Rv G 127), none]) (by decide) rfl (Nat.le_of_ble_eq_true rfl) ?_
  show pX8_findRounds G n K 0 [some (Rv G 127), none] [] μ
  refine Z_iconst dX8_findRounds_0 ?_
  refine Z_istore_n (lv2 := [some (Rv G 127), some (Iv 1)]) dX8_findRounds_1 rfl (by decide) rfl ?_
  exact Z_cut h ⟨rfl, rfl, trivial⟩
theorem bX8_findRounds_2 {G : zG} {n : Nat} (hn : 154 ≤ n) {x1 : Int} {μ : zM} {K : Int → zM → Prop}
    (h : (mX8_areEnough G n x1 μ (fun r1 μ2 => ((¬ wr r1 = 0 → (K x1 μ2)) ∧ (wr r1 = 0 → (pX8_findRounds G n K 2 [some (Rv G 127), some (Iv (x1 + 1))] [] μ2)))))) :
    pX8_findRounds G n K 2 [some (Rv G 127), some (Iv x1)] [] μ := by
  refine Z_aload_n dX8_findRounds_2 rfl ?_
  refine Z_iload_n dX8_findRounds_3 rfl ?_
  refine Z_callVi h md_X8_areEnough sv_X8_areEnough lk_X8_228 zcX8 rfl ⟨by decide, by omega⟩ rfl rfl rfl rfl (Nat.le_of_ble_eq_true rfl) dX8_findRounds_4 ⟨by decide, Nat.le_of_ble_eq_true rfl⟩ ⟨Nat.zero_le _, Nat.zero_le _⟩ ?_
  intro r1 μ2 h
  refine Z_if_ne (tgt := 16) dX8_findRounds_7 (by decide) (fun c3 => ?_) (fun c3 => ?_)
  · have h := h.1 c3
    refine Z_iload_n dX8_findRounds_16 rfl ?_
    exact Z_ireturn dX8_findRounds_17 ⟨_, rfl, h⟩
  · have h := h.2 c3
    refine Z_iinc (lv2 := [some (Rv G 127), some (Iv (x1 + 1))]) dX8_findRounds_10 rfl rfl (by decide) rfl ?_
    refine Z_goto (tgt := 2) dX8_findRounds_13 (by decide) ?_
    exact Z_cut h ⟨rfl, rfl, trivial⟩
abbrev mX8_rounds (G : zG) (n : Nat) (μ : zM) (K : Int → zM → Prop) : Prop := zMt G n 7 yX8_rounds cX8_rounds 1 (some .int) [Rv G 127] μ (zKi K)
abbrev pX8_rounds (G : zG) (n : Nat) (K : Int → zM → Prop) (pc : Nat) (lv : List (Option Value)) (st : List Value) (μ : zM) : Prop := Z G (zrm 7 0 0) RX8 "rounds" cX8_rounds 1 (some .int) (zPh G n (zKi K)) 0 0 pc lv st (zE G n μ)
theorem eX8_rounds {G : zG} {n : Nat} (hn : 154 ≤ n) {μ : zM} {K : Int → zM → Prop}
    (h : (mX8_findRounds G n  μ (fun r1 μ2 => K r1 μ2))) :
    mX8_rounds G n  μ K := by
  refine zMt_of (lv := [some (Rv G 127)]) (by decide) rfl (Nat.le_of_ble_eq_true rfl) ?_
  show pX8_rounds G n K 0 [some (Rv G 127)] [] μ
  refine Z_aload_n dX8_rounds_0 rfl ?_
  refine Z_callVi h md_X8_findRounds sv_X8_findRounds lk_X8_231 zcX8 rfl ⟨by decide, by omega⟩ rfl rfl rfl rfl (Nat.le_of_ble_eq_true rfl) dX8_rounds_1 ⟨by decide, Nat.le_of_ble_eq_true rfl⟩ ⟨Nat.zero_le _, Nat.zero_le _⟩ ?_
  intro r1 μ2 h
  exact Z_ireturn dX8_rounds_4 ⟨_, rfl, h⟩
abbrev mX8_round (G : zG) (n : Nat) (x1 : Int) (μ : zM) (K : Int → zM → Prop) : Prop := zMt G n 7 yX8_round cX8_round 3 (some .int) [Rv G 127, Iv x1] μ (zKi K)
abbrev pX8_round (G : zG) (n : Nat) (K : Int → zM → Prop) (pc : Nat) (lv : List (Option Value)) (st : List Value) (μ : zM) : Prop := Z G (zrm 7 0 0) RX8 "round" cX8_round 3 (some .int) (zPh G n (zKi K)) 0 0 pc lv st (zE G n μ)
theorem eX8_round {G : zG} {n : Nat} (hn : 154 ≤ n) {x1 : Int} {μ : zM} {K : Int → zM → Prop}
    (h : (mX8_isEnd G n x1 μ (fun r1 μ2 => ((¬ wr r1 = 0 → (mX8_findRounds G n  μ2 (fun r4 μ5 => (0 ≤ wr x1 ∧ wr x1 < 8) ∧ K (μ5 140 (wr x1)) μ5))) ∧ (wr r1 = 0 → (K ((-1)) μ2)))))) :
    mX8_round G n x1 μ K := by
  refine zMt_of (lv := [some (Rv G 127), some (Iv x1), none]) (by decide) rfl (Nat.le_of_ble_eq_true rfl) ?_
  show pX8_round G n K 0 [some (Rv G 127), some (Iv x1), none] [] μ
  refine Z_aload_n dX8_round_0 rfl ?_
  refine Z_iload_n dX8_round_1 rfl ?_
  refine Z_callVi h md_X8_isEnd sv_X8_isEnd lk_X8_204 zcX8 rfl ⟨by decide, by omega⟩ rfl rfl rfl rfl (Nat.le_of_ble_eq_true rfl) dX8_round_2 ⟨by decide, Nat.le_of_ble_eq_true rfl⟩ ⟨Nat.zero_le _, Nat.zero_le _⟩ ?_
  intro r1 μ2 h
  refine Z_if_ne (tgt := 10) dX8_round_5 (by decide) (fun c3 => ?_) (fun c3 => ?_)
  · have h := h.1 c3
    refine Z_aload_n dX8_round_10 rfl ?_
    refine Z_callVi h md_X8_findRounds sv_X8_findRounds lk_X8_231 zcX8 rfl ⟨by decide, by omega⟩ rfl rfl rfl rfl (Nat.le_of_ble_eq_true rfl) dX8_round_11 ⟨by decide, Nat.le_of_ble_eq_true rfl⟩ ⟨Nat.zero_le _, Nat.zero_le _⟩ ?_
    intro r4 μ5 h
    refine Z_istore_n (lv2 := [some (Rv G 127), some (Iv x1), some (Iv r4)]) dX8_round_14 rfl (by decide) rfl ?_
    refine Z_aload_n dX8_round_15 rfl ?_
    refine Z_gr (t := 140) zcX8 fl_X8_59 ⟨by decide, by omega⟩ rfl rfl rfl (by decide) (by decide) dX8_round_16 ?_
    refine Z_iload_n dX8_round_19 rfl ?_
    obtain ⟨b6, h⟩ := h
    refine Z_iald (zin_c (by decide) (by omega) (by decide) (by decide) b6) dX8_round_20 ?_
    exact Z_ireturn dX8_round_21 ⟨_, rfl, h⟩
  · have h := h.2 c3
    refine Z_iconst dX8_round_8 ?_
    exact Z_ireturn dX8_round_9 ⟨_, rfl, h⟩
