abbrev mX5_clear (G : zG) (n : Nat) (x1 : Int) (μ : zM) (K : Int → zM → Prop) : Prop := zMt G n 1 yX5_clear cX5_clear 3 (some .boolean) [Rv G 118, Iv x1] μ (zKi K)
abbrev pX5_clear (G : zG) (n : Nat) (K : Int → zM → Prop) (pc : Nat) (lv : List (Option Value)) (st : List Value) (μ : zM) : Prop := Z G (zrm 1 0 0) RX5 "clear" cX5_clear 3 (some .boolean) (zPh G n (zKi K)) 0 0 pc lv st (zE G n μ)
theorem eX5_clear {G : zG} {n : Nat} (hn : 126 ≤ n) {x1 : Int} {μ : zM} {K : Int → zM → Prop}
    (h : ((0 ≤ wr x1 ∧ wr x1 < 4) ∧ ((wr (μ 119 (wr x1)) = wr ((-1)) → ((0 ≤ wr x1 ∧ wr x1 < 4) ∧ ∀ μ4 : zM, μ4 = zu μ 119 (wr x1) ((-1)) → (0 ≤ wr x1 ∧ wr x1 < 4) ∧ ∀ μ6 : zM, μ6 = zu μ4 120 (wr x1) 0 → K 0 μ6)) ∧ (¬ (wr (μ 119 (wr x1)) = wr ((-1))) → ((0 ≤ wr x1 ∧ wr x1 < 4) ∧ ∀ μ8 : zM, μ8 = zu μ 119 (wr x1) ((-1)) → (0 ≤ wr x1 ∧ wr x1 < 4) ∧ ∀ μ10 : zM, μ10 = zu μ8 120 (wr x1) 0 → K 1 μ10))))) :
    mX5_clear G n x1 μ K := by
  refine zMt_of (lv := [some (Rv G 118), some (Iv x1), none]) (by decide) rfl (Nat.le_of_ble_eq_true rfl) ?_
  show pX5_clear G n K 0 [some (Rv G 118), some (Iv x1), none] [] μ
  refine Z_aload_n dX5_clear_0 rfl ?_
  refine Z_gr (t := 119) zcX5 fl_X5_11 ⟨by decide, by omega⟩ rfl rfl rfl (by decide) (by decide) dX5_clear_1 ?_
  refine Z_iload_n dX5_clear_4 rfl ?_
  obtain ⟨b1, h⟩ := h
  refine Z_iald (zin_c (by decide) (by omega) (by decide) (by decide) b1) dX5_clear_5 ?_
  refine Z_iconst dX5_clear_6 ?_
  refine Z_icmp_eq (tgt := 14) dX5_clear_7 (by decide) (fun c2 => ?_) (fun c2 => ?_)
  · have h := h.1 c2
    refine Z_iconst dX5_clear_14 ?_
    refine Z_istore_n (lv2 := [some (Rv G 118), some (Iv x1), some (Iv 0)]) dX5_clear_15 rfl (by decide) rfl ?_
    refine Z_aload_n dX5_clear_16 rfl ?_
    refine Z_gr (t := 119) zcX5 fl_X5_11 ⟨by decide, by omega⟩ rfl rfl rfl (by decide) (by decide) dX5_clear_17 ?_
    refine Z_iload_n dX5_clear_20 rfl ?_
    refine Z_iconst dX5_clear_21 ?_
    obtain ⟨b3, h⟩ := h
    refine Z_iast (zin_c (by decide) (by omega) (by decide) (by decide) b3) dX5_clear_22 ?_
    obtain ⟨μ4, eμ4⟩ : ∃ z : zM, z = zu μ 119 (wr x1) ((-1)) := ⟨_, rfl⟩
    have h := h μ4 eμ4
    refine Z_mem eμ4 ?_
    refine Z_aload_n dX5_clear_23 rfl ?_
    refine Z_gr (t := 120) zcX5 fl_X5_15 ⟨by decide, by omega⟩ rfl rfl rfl (by decide) (by decide) dX5_clear_24 ?_
    refine Z_iload_n dX5_clear_27 rfl ?_
    refine Z_iconst dX5_clear_28 ?_
    obtain ⟨b5, h⟩ := h
    refine Z_iast (zin_c (by decide) (by omega) (by decide) (by decide) b5) dX5_clear_29 ?_
    obtain ⟨μ6, eμ6⟩ : ∃ z : zM, z = zu μ4 120 (wr x1) 0 := ⟨_, rfl⟩
    have h := h μ6 eμ6
    refine Z_mem eμ6 ?_
    refine Z_iload_n dX5_clear_30 rfl ?_
    exact Z_zreturn dX5_clear_31 (by decide) ⟨_, rfl, h⟩
  · have h := h.2 c2
    refine Z_iconst dX5_clear_10 ?_
    refine Z_goto (tgt := 15) dX5_clear_11 (by decide) ?_
    refine Z_istore_n (lv2 := [some (Rv G 118), some (Iv x1), some (Iv 1)]) dX5_clear_15 rfl (by decide) rfl ?_
    refine Z_aload_n dX5_clear_16 rfl ?_
    refine Z_gr (t := 119) zcX5 fl_X5_11 ⟨by decide, by omega⟩ rfl rfl rfl (by decide) (by decide) dX5_clear_17 ?_
    refine Z_iload_n dX5_clear_20 rfl ?_
    refine Z_iconst dX5_clear_21 ?_
    obtain ⟨b7, h⟩ := h
    refine Z_iast (zin_c (by decide) (by omega) (by decide) (by decide) b7) dX5_clear_22 ?_
    obtain ⟨μ8, eμ8⟩ : ∃ z : zM, z = zu μ 119 (wr x1) ((-1)) := ⟨_, rfl⟩
    have h := h μ8 eμ8
    refine Z_mem eμ8 ?_
    refine Z_aload_n dX5_clear_23 rfl ?_
    refine Z_gr (t := 120) zcX5 fl_X5_15 ⟨by decide, by omega⟩ rfl rfl rfl (by decide) (by decide) dX5_clear_24 ?_
    refine Z_iload_n dX5_clear_27 rfl ?_
    refine Z_iconst dX5_clear_28 ?_
    obtain ⟨b9, h⟩ := h
    refine Z_iast (zin_c (by decide) (by omega) (by decide) (by decide) b9) dX5_clear_29 ?_
    obtain ⟨μ10, eμ10⟩ : ∃ z : zM, z = zu μ8 120 (wr x1) 0 := ⟨_, rfl⟩
    have h := h μ10 eμ10
    refine Z_mem eμ10 ?_
    refine Z_iload_n dX5_clear_30 rfl ?_
    exact Z_zreturn dX5_clear_31 (by decide) ⟨_, rfl, h⟩
abbrev mX5_cut (G : zG) (n : Nat) (x0 x1 : Int) (μ : zM) (K : Int → zM → Prop) : Prop := zMt G n 1 yX5_cut cX5_cut 2 (some .int) [Iv x0, Iv x1] μ (zKi K)
abbrev pX5_cut (G : zG) (n : Nat) (K : Int → zM → Prop) (pc : Nat) (lv : List (Option Value)) (st : List Value) (μ : zM) : Prop := Z G (zrm 1 0 0) RX5 "cut" cX5_cut 2 (some .int) (zPh G n (zKi K)) 0 0 pc lv st (zE G n μ)
theorem eX5_cut {G : zG} {n : Nat} (hn : 126 ≤ n) {x0 x1 : Int} {μ : zM} {K : Int → zM → Prop}
    (h : (((¬ wr x0 = 0 → (((¬ wr x0 = wr 1 → (K x1 μ)) ∧ (wr x0 = wr 1 → (K (zi2s x1) μ))))) ∧ (wr x0 = 0 → (K (zi2b x1) μ))))) :
    mX5_cut G n x0 x1 μ K := by
  refine zMt_of (lv := [some (Iv x0), some (Iv x1)]) (by decide) rfl (Nat.le_of_ble_eq_true rfl) ?_
  show pX5_cut G n K 0 [some (Iv x0), some (Iv x1)] [] μ
  refine Z_iload_n dX5_cut_0 rfl ?_
  refine Z_if_ne (tgt := 7) dX5_cut_1 (by decide) (fun c1 => ?_) (fun c1 => ?_)
  · have h := h.1 c1
    refine Z_iload_n dX5_cut_7 rfl ?_
    refine Z_iconst dX5_cut_8 ?_
    refine Z_icmp_ne (tgt := 17) dX5_cut_9 (by decide) (fun c2 => ?_) (fun c2 => ?_)
    · have h := h.1 c2
      refine Z_iload_n dX5_cut_17 rfl ?_
      exact Z_ireturn dX5_cut_18 ⟨_, rfl, h⟩
    · have h := h.2 c2
      refine Z_iload_n dX5_cut_12 rfl ?_
      refine Z_i2s dX5_cut_13 ?_
      refine Z_goto (tgt := 18) dX5_cut_14 (by decide) ?_
      exact Z_ireturn dX5_cut_18 ⟨_, rfl, h⟩
  · have h := h.2 c1
    refine Z_iload_n dX5_cut_4 rfl ?_
    refine Z_i2b dX5_cut_5 ?_
    exact Z_ireturn dX5_cut_6 ⟨_, rfl, h⟩
abbrev mX5_layRow (G : zG) (n : Nat) (x1 x2 x3 : Int) (μ : zM) (K : zM → Prop) : Prop := zMt G n 2 yX5_layRow cX5_layRow 4 none [Rv G 118, Iv x1, Iv x2, Iv x3] μ (zKv K)
abbrev pX5_layRow (G : zG) (n : Nat) (K : zM → Prop) (pc : Nat) (lv : List (Option Value)) (st : List Value) (μ : zM) : Prop := Z G (zrm 2 0 0) RX5 "layRow" cX5_layRow 4 none (zPh G n (zKv K)) 0 0 pc lv st (zE G n μ)
theorem eX5_layRow {G : zG} {n : Nat} (hn : 126 ≤ n) {x1 x2 x3 : Int} {μ : zM} {K : zM → Prop}
    (h : ((0 ≤ wr x1 ∧ wr x1 < 4) ∧ ∀ μ2 : zM, μ2 = zu μ 119 (wr x1) x2 → (0 ≤ wr x1 ∧ wr x1 < 4) ∧ ∀ μ4 : zM, μ4 = zu μ2 120 (wr x1) x3 → (0 ≤ wr x1 ∧ wr x1 < 4) ∧ mJ7_fill_53178 G n (121 + 1 + wr x1) 0 μ4 (fun μ7 => K μ7))) :
    mX5_layRow G n x1 x2 x3 μ K := by
  refine zMt_of (lv := [some (Rv G 118), some (Iv x1), some (Iv x2), some (Iv x3)]) (by decide) rfl (Nat.le_of_ble_eq_true rfl) ?_
  show pX5_layRow G n K 0 [some (Rv G 118), some (Iv x1), some (Iv x2), some (Iv x3)] [] μ
  refine Z_aload_n dX5_layRow_0 rfl ?_
  refine Z_gr (t := 119) zcX5 fl_X5_11 ⟨by decide, by omega⟩ rfl rfl rfl (by decide) (by decide) dX5_layRow_1 ?_
  refine Z_iload_n dX5_layRow_4 rfl ?_
  refine Z_iload_n dX5_layRow_5 rfl ?_
  obtain ⟨b1, h⟩ := h
  refine Z_iast (zin_c (by decide) (by omega) (by decide) (by decide) b1) dX5_layRow_6 ?_
  obtain ⟨μ2, eμ2⟩ : ∃ z : zM, z = zu μ 119 (wr x1) x2 := ⟨_, rfl⟩
  have h := h μ2 eμ2
  refine Z_mem eμ2 ?_
  refine Z_aload_n dX5_layRow_7 rfl ?_
  refine Z_gr (t := 120) zcX5 fl_X5_15 ⟨by decide, by omega⟩ rfl rfl rfl (by decide) (by decide) dX5_layRow_8 ?_
  refine Z_iload_n dX5_layRow_11 rfl ?_
  refine Z_iload_n dX5_layRow_12 rfl ?_
  obtain ⟨b3, h⟩ := h
  refine Z_iast (zin_c (by decide) (by omega) (by decide) (by decide) b3) dX5_layRow_13 ?_
  obtain ⟨μ4, eμ4⟩ : ∃ z : zM, z = zu μ2 120 (wr x1) x3 := ⟨_, rfl⟩
  have h := h μ4 eμ4
  refine Z_mem eμ4 ?_
  refine Z_aload_n dX5_layRow_14 rfl ?_
  refine Z_gr (t := 121) zcX5 fl_X5_20 ⟨by decide, by omega⟩ rfl rfl rfl (by decide) (by decide) dX5_layRow_15 ?_
  refine Z_iload_n dX5_layRow_18 rfl ?_
  obtain ⟨b5, h⟩ := h
  refine Z_aald3 (zin_c (by decide) (by omega) (by decide) (by decide) b5) dX5_layRow_19 ?_
  refine Z_iconst dX5_layRow_20 ?_
  refine Z_callSv h md_J7_fill_53178 sv_J7_fill_53178 lk_X5_23 rfl rfl (Nat.le_of_ble_eq_true rfl) dX5_layRow_21 ⟨by decide, Nat.le_of_ble_eq_true rfl⟩ ⟨Nat.zero_le _, Nat.zero_le _⟩ ?_
  intro μ7 h
  exact Z_return dX5_layRow_24 ⟨rfl, h⟩
abbrev mX5_faultOfCells (G : zG) (n : Nat) (x1 x2 x3 x4 : Int) (μ : zM) (K : Int → zM → Prop) : Prop := zMt G n 2 yX5_faultOfCells cX5_faultOfCells 5 (some .int) [Rv G 118, Iv x1, Iv x2, Iv x3, Iv x4] μ (zKi K)
abbrev pX5_faultOfCells (G : zG) (n : Nat) (K : Int → zM → Prop) (pc : Nat) (lv : List (Option Value)) (st : List Value) (μ : zM) : Prop := Z G (zrm 2 0 0) RX5 "faultOfCells" cX5_faultOfCells 5 (some .int) (zPh G n (zKi K)) 0 0 pc lv st (zE G n μ)
theorem eX5_faultOfCells {G : zG} {n : Nat} (hn : 126 ≤ n) {x1 x2 x3 x4 : Int} {μ : zM} {K : Int → zM → Prop}
    (h : ((0 ≤ wr x1 ∧ wr x1 < 4) ∧ ((¬ wr (μ 119 (wr x1)) = wr ((-1)) → ((0 ≤ wr x1 ∧ wr x1 < 4) ∧ ((wr (μ 119 (wr x1)) = wr x2 → ((0 ≤ wr x1 ∧ wr x1 < 4) ∧ mX7_within G n x3 0 ((μ 120 (wr x1)) - x4) μ (fun r6 μ7 => ((wr r6 = 0 → (K 3 μ7)) ∧ (¬ (wr r6 = 0) → (K 0 μ7)))))) ∧ (¬ (wr (μ 119 (wr x1)) = wr x2) → (K 2 μ))))) ∧ (wr (μ 119 (wr x1)) = wr ((-1)) → (K 1 μ))))) :
    mX5_faultOfCells G n x1 x2 x3 x4 μ K := by
  refine zMt_of (lv := [some (Rv G 118), some (Iv x1), some (Iv x2), some (Iv x3), some (Iv x4)]) (by decide) rfl (Nat.le_of_ble_eq_true rfl) ?_
  show pX5_faultOfCells G n K 0 [some (Rv G 118), some (Iv x1), some (Iv x2), some (Iv x3), some (Iv x4)] [] μ
  refine Z_aload_n dX5_faultOfCells_0 rfl ?_
  refine Z_gr (t := 119) zcX5 fl_X5_11 ⟨by decide, by omega⟩ rfl rfl rfl (by decide) (by decide) dX5_faultOfCells_1 ?_
  refine Z_iload_n dX5_faultOfCells_4 rfl ?_
  obtain ⟨b1, h⟩ := h
  refine Z_iald (zin_c (by decide) (by omega) (by decide) (by decide) b1) dX5_faultOfCells_5 ?_
  refine Z_iconst dX5_faultOfCells_6 ?_
  refine Z_icmp_ne (tgt := 12) dX5_faultOfCells_7 (by decide) (fun c2 => ?_) (fun c2 => ?_)
  · have h := h.1 c2
    refine Z_aload_n dX5_faultOfCells_12 rfl ?_
    refine Z_gr (t := 119) zcX5 fl_X5_11 ⟨by decide, by omega⟩ rfl rfl rfl (by decide) (by decide) dX5_faultOfCells_13 ?_
    refine Z_iload_n dX5_faultOfCells_16 rfl ?_
    obtain ⟨b3, h⟩ := h
    refine Z_iald (zin_c (by decide) (by omega) (by decide) (by decide) b3) dX5_faultOfCells_17 ?_
    refine Z_iload_n dX5_faultOfCells_18 rfl ?_
    refine Z_icmp_eq (tgt := 24) dX5_faultOfCells_19 (by decide) (fun c4 => ?_) (fun c4 => ?_)
    · have h := h.1 c4
      refine Z_iload_n dX5_faultOfCells_24 rfl ?_
      refine Z_iconst dX5_faultOfCells_25 ?_
      refine Z_aload_n dX5_faultOfCells_26 rfl ?_
      refine Z_gr (t := 120) zcX5 fl_X5_15 ⟨by decide, by omega⟩ rfl rfl rfl (by decide) (by decide) dX5_faultOfCells_27 ?_
      refine Z_iload_n dX5_faultOfCells_30 rfl ?_
      obtain ⟨b5, h⟩ := h
      refine Z_iald (zin_c (by decide) (by omega) (by decide) (by decide) b5) dX5_faultOfCells_31 ?_
      refine Z_iload dX5_faultOfCells_32 rfl ?_
      refine Z_isub dX5_faultOfCells_34 ?_
      refine Z_callSi h md_X7_within sv_X7_within lk_X5_29 rfl rfl (Nat.le_of_ble_eq_true rfl) dX5_faultOfCells_35 ⟨by decide, Nat.le_of_ble_eq_true rfl⟩ ⟨Nat.zero_le _, Nat.zero_le _⟩ ?_
      intro r6 μ7 h
      refine Z_if_eq (tgt := 45) dX5_faultOfCells_38 (by decide) (fun c8 => ?_) (fun c8 => ?_)
      · have h := h.1 c8
        refine Z_iconst dX5_faultOfCells_45 ?_
        exact Z_ireturn dX5_faultOfCells_46 ⟨_, rfl, h⟩
      · have h := h.2 c8
        refine Z_iconst dX5_faultOfCells_41 ?_
        refine Z_goto (tgt := 46) dX5_faultOfCells_42 (by decide) ?_
        exact Z_ireturn dX5_faultOfCells_46 ⟨_, rfl, h⟩
    · have h := h.2 c4
      refine Z_iconst dX5_faultOfCells_22 ?_
      exact Z_ireturn dX5_faultOfCells_23 ⟨_, rfl, h⟩
  · have h := h.2 c2
    refine Z_iconst dX5_faultOfCells_10 ?_
    exact Z_ireturn dX5_faultOfCells_11 ⟨_, rfl, h⟩
abbrev mX5_change (G : zG) (n : Nat) (x1 x2 x3 : Int) (μ : zM) (K : zM → Prop) : Prop := zMt G n 2 yX5_change cX5_change 4 none [Rv G 118, Iv x1, Iv x2, Iv x3] μ (zKv K)
abbrev pX5_change (G : zG) (n : Nat) (K : zM → Prop) (pc : Nat) (lv : List (Option Value)) (st : List Value) (μ : zM) : Prop := Z G (zrm 2 0 0) RX5 "change" cX5_change 4 none (zPh G n (zKv K)) 0 0 pc lv st (zE G n μ)
theorem eX5_change {G : zG} {n : Nat} (hn : 126 ≤ n) {x1 x2 x3 : Int} {μ : zM} {K : zM → Prop}
    (h : ((0 ≤ wr x1 ∧ wr x1 < 4) ∧ (0 ≤ wr x1 ∧ wr x1 < 4) ∧ mX5_cut G n (μ 119 (wr x1)) x3 μ (fun r3 μ4 => (0 ≤ wr x2 ∧ wr x2 < 60) ∧ ∀ μ6 : zM, μ6 = zu μ4 (121 + 1 + wr x1) (wr x2) r3 → K μ6))) :
    mX5_change G n x1 x2 x3 μ K := by
  refine zMt_of (lv := [some (Rv G 118), some (Iv x1), some (Iv x2), some (Iv x3)]) (by decide) rfl (Nat.le_of_ble_eq_true rfl) ?_
  show pX5_change G n K 0 [some (Rv G 118), some (Iv x1), some (Iv x2), some (Iv x3)] [] μ
  refine Z_aload_n dX5_change_0 rfl ?_
  refine Z_gr (t := 121) zcX5 fl_X5_20 ⟨by decide, by omega⟩ rfl rfl rfl (by decide) (by decide) dX5_change_1 ?_
  refine Z_iload_n dX5_change_4 rfl ?_
  obtain ⟨b1, h⟩ := h
  refine Z_aald3 (zin_c (by decide) (by omega) (by decide) (by decide) b1) dX5_change_5 ?_
  refine Z_iload_n dX5_change_6 rfl ?_
  refine Z_aload_n dX5_change_7 rfl ?_
  refine Z_gr (t := 119) zcX5 fl_X5_11 ⟨by decide, by omega⟩ rfl rfl rfl (by decide) (by decide) dX5_change_8 ?_
  refine Z_iload_n dX5_change_11 rfl ?_
  obtain ⟨b2, h⟩ := h
  refine Z_iald (zin_c (by decide) (by omega) (by decide) (by decide) b2) dX5_change_12 ?_
  refine Z_iload_n dX5_change_13 rfl ?_
  refine Z_callSi h md_X5_cut sv_X5_cut lk_X5_33 rfl rfl (Nat.le_of_ble_eq_true rfl) dX5_change_14 ⟨by decide, Nat.le_of_ble_eq_true rfl⟩ ⟨Nat.zero_le _, Nat.zero_le _⟩ ?_
  intro r3 μ4 h
  obtain ⟨b5, h⟩ := h
  refine Z_iast (zin_c (zr_121 b1).1 (by have := b1; omega) (zr_121 b1).2.1 (zr_121 b1).2.2 b5) dX5_change_17 ?_
  obtain ⟨μ6, eμ6⟩ : ∃ z : zM, z = zu μ4 (121 + 1 + wr x1) (wr x2) r3 := ⟨_, rfl⟩
  have h := h μ6 eμ6
  refine Z_mem eμ6 ?_
  exact Z_return dX5_change_18 ⟨rfl, h⟩
abbrev mX5_read (G : zG) (n : Nat) (x1 x2 x3 x4 : Int) (μ : zM) (K : zM → Prop) : Prop := zMt G n 2 yX5_read cX5_read 5 none [Rv G 118, Iv x1, Iv x2, Rv G x3, Iv x4] μ (zKv K)
abbrev pX5_read (G : zG) (n : Nat) (K : zM → Prop) (pc : Nat) (lv : List (Option Value)) (st : List Value) (μ : zM) : Prop := Z G (zrm 2 0 0) RX5 "read" cX5_read 5 none (zPh G n (zKv K)) 0 0 pc lv st (zE G n μ)
theorem eX5_read {G : zG} {n : Nat} (hn : 126 ≤ n) {x1 x2 x3 x4 : Int} {μ : zM} {K : zM → Prop}
    (h : ((0 ≤ wr x1 ∧ wr x1 < 4) ∧ (0 ≤ wr x2 ∧ wr x2 + wr x4 ≤ 60) ∧ ((0 ≤ x3 ∧ x3 < n ∧ zk x3 = 0) ∧ 0 ≤ wr 0 ∧ wr 0 + wr x4 ≤ zn x3) ∧ 0 ≤ wr x4 ∧ ∀ μ5 : zM, μ5 = zcp μ (121 + 1 + wr x1) (wr x2) x3 (wr 0) (wr x4) → K μ5)) :
    mX5_read G n x1 x2 x3 x4 μ K := by
  refine zMt_of (lv := [some (Rv G 118), some (Iv x1), some (Iv x2), some (Rv G x3), some (Iv x4)]) (by decide) rfl (Nat.le_of_ble_eq_true rfl) ?_
  show pX5_read G n K 0 [some (Rv G 118), some (Iv x1), some (Iv x2), some (Rv G x3), some (Iv x4)] [] μ
  refine Z_aload_n dX5_read_0 rfl ?_
  refine Z_gr (t := 121) zcX5 fl_X5_20 ⟨by decide, by omega⟩ rfl rfl rfl (by decide) (by decide) dX5_read_1 ?_
  refine Z_iload_n dX5_read_4 rfl ?_
  obtain ⟨b1, h⟩ := h
  refine Z_aald3 (zin_c (by decide) (by omega) (by decide) (by decide) b1) dX5_read_5 ?_
  refine Z_iload_n dX5_read_6 rfl ?_
  refine Z_aload_n dX5_read_7 rfl ?_
  refine Z_iconst dX5_read_8 ?_
  refine Z_iload dX5_read_9 rfl ?_
  obtain ⟨b2, b3, b4, h⟩ := h
  refine Z_copy lk_X5_37 ac1 ac2 ac3 ⟨(zr_121 b1).1, by have := b1; omega, (zr_121 b1).2.1⟩ b3.1 (by rw [(zr_121 b1).2.2]; exact b2) b3.2 b4 ⟨by decide, Nat.le_of_ble_eq_true rfl⟩ dX5_read_11 ?_
  obtain ⟨μ5, eμ5⟩ : ∃ z : zM, z = zcp μ (121 + 1 + wr x1) (wr x2) x3 (wr 0) (wr x4) := ⟨_, rfl⟩
  have h := h μ5 eμ5
  refine Z_mem eμ5 ?_
  exact Z_return dX5_read_14 ⟨rfl, h⟩
abbrev mX5_write (G : zG) (n : Nat) (x1 x2 x3 x4 : Int) (μ : zM) (K : Int → zM → Prop) : Prop := zMt G n 3 yX5_write cX5_write 7 (some .int) [Rv G 118, Iv x1, Iv x2, Rv G x3, Iv x4] μ (zKi K)
abbrev pX5_write (G : zG) (n : Nat) (K : Int → zM → Prop) (pc : Nat) (lv : List (Option Value)) (st : List Value) (μ : zM) : Prop := Z G (zrm 3 0 0) RX5 "write" cX5_write 7 (some .int) (zPh G n (zKi K)) 0 0 pc lv st (zE G n μ)
theorem eX5_write {G : zG} {n : Nat} (hn : 126 ≤ n) {x1 x2 x3 x4 : Int} {μ : zM} {K : Int → zM → Prop}
    (h : (pX5_write G n K 6 [some (Rv G 118), some (Iv x1), some (Iv x2), some (Rv G x3), some (Iv x4), some (Iv 0), some (Iv 0)] [] μ)) :
    mX5_write G n x1 x2 x3 x4 μ K := by
  refine zMt_of (lv := [some (Rv G 118), some (Iv x1), some (Iv x2), some (Rv G x3), some (Iv x4), none, none]) (by decide) rfl (Nat.le_of_ble_eq_true rfl) ?_
  show pX5_write G n K 0 [some (Rv G 118), some (Iv x1), some (Iv x2), some (Rv G x3), some (Iv x4), none, none] [] μ
  refine Z_iconst dX5_write_0 ?_
  refine Z_istore (lv2 := [some (Rv G 118), some (Iv x1), some (Iv x2), some (Rv G x3), some (Iv x4), some (Iv 0), none]) dX5_write_1 rfl (by decide) rfl ?_
  refine Z_iconst dX5_write_3 ?_
  refine Z_istore (lv2 := [some (Rv G 118), some (Iv x1), some (Iv x2), some (Rv G x3), some (Iv x4), some (Iv 0), some (Iv 0)]) dX5_write_4 rfl (by decide) rfl ?_
  exact Z_cut h ⟨rfl, rfl, rfl, rfl, rfl, rfl, rfl, trivial⟩
theorem bX5_write_6 {G : zG} {n : Nat} (hn : 126 ≤ n) {x1 x2 x3 x4 x5 x6 : Int} {μ : zM} {K : Int → zM → Prop}
    (h : (((wr x4 ≤ wr x6 → (K x5 μ)) ∧ (¬ (wr x4 ≤ wr x6) → ((0 ≤ wr x1 ∧ wr x1 < 4) ∧ (0 ≤ wr (x2 + x6) ∧ wr (x2 + x6) < 60) ∧ zin 0 n x3 x6 ∧ ((wr (μ (121 + 1 + wr x1) (wr (x2 + x6))) = wr (μ x3 (wr x6)) → (zin 0 n x3 x6 ∧ mX5_change G n x1 (x2 + x6) (μ x3 (wr x6)) μ (fun μ8 => pX5_write G n K 6 [some (Rv G 118), some (Iv x1), some (Iv x2), some (Rv G x3), some (Iv x4), some (Iv x5), some (Iv (x6 + 1))] [] μ8))) ∧ (¬ (wr (μ (121 + 1 + wr x1) (wr (x2 + x6))) = wr (μ x3 (wr x6))) → (zin 0 n x3 x6 ∧ mX5_change G n x1 (x2 + x6) (μ x3 (wr x6)) μ (fun μ11 => pX5_write G n K 6 [some (Rv G 118), some (Iv x1), some (Iv x2), some (Rv G x3), some (Iv x4), some (Iv (x5 + 1)), some (Iv (x6 + 1))] [] μ11))))))))) :
    pX5_write G n K 6 [some (Rv G 118), some (Iv x1), some (Iv x2), some (Rv G x3), some (Iv x4), some (Iv x5), some (Iv x6)] [] μ := by
  refine Z_iload dX5_write_6 rfl ?_
  refine Z_iload dX5_write_8 rfl ?_
  refine Z_icmp_ge (tgt := 53) dX5_write_10 (by decide) (fun c1 => ?_) (fun c1 => ?_)
  · have h := h.1 c1
    refine Z_iload dX5_write_53 rfl ?_
    exact Z_ireturn dX5_write_55 ⟨_, rfl, h⟩
  · have h := h.2 c1
    refine Z_aload_n dX5_write_13 rfl ?_
    refine Z_gr (t := 121) zcX5 fl_X5_20 ⟨by decide, by omega⟩ rfl rfl rfl (by decide) (by decide) dX5_write_14 ?_
    refine Z_iload_n dX5_write_17 rfl ?_
    obtain ⟨b2, h⟩ := h
    refine Z_aald3 (zin_c (by decide) (by omega) (by decide) (by decide) b2) dX5_write_18 ?_
    refine Z_iload_n dX5_write_19 rfl ?_
    refine Z_iload dX5_write_20 rfl ?_
    refine Z_iadd dX5_write_22 ?_
    obtain ⟨b3, h⟩ := h
    refine Z_iald (zin_c (zr_121 b2).1 (by have := b2; omega) (zr_121 b2).2.1 (zr_121 b2).2.2 b3) dX5_write_23 ?_
    refine Z_aload_n dX5_write_24 rfl ?_
    refine Z_iload dX5_write_25 rfl ?_
    obtain ⟨b4, h⟩ := h
    refine Z_iald b4 dX5_write_27 ?_
    refine Z_icmp_eq (tgt := 34) dX5_write_28 (by decide) (fun c5 => ?_) (fun c5 => ?_)
    · have h := h.1 c5
      refine Z_aload_n dX5_write_34 rfl ?_
      refine Z_iload_n dX5_write_35 rfl ?_
      refine Z_iload_n dX5_write_36 rfl ?_
      refine Z_iload dX5_write_37 rfl ?_
      refine Z_iadd dX5_write_39 ?_
      refine Z_aload_n dX5_write_40 rfl ?_
      refine Z_iload dX5_write_41 rfl ?_
      obtain ⟨b6, h⟩ := h
      refine Z_iald b6 dX5_write_43 ?_
      refine Z_callVv h md_X5_change sv_X5_change lk_X5_43 zcX5 rfl ⟨by decide, by omega⟩ rfl rfl rfl rfl (Nat.le_of_ble_eq_true rfl) dX5_write_44 ⟨by decide, Nat.le_of_ble_eq_true rfl⟩ ⟨Nat.zero_le _, Nat.zero_le _⟩ ?_
      intro μ8 h
      refine Z_iinc (lv2 := [some (Rv G 118), some (Iv x1), some (Iv x2), some (Rv G x3), some (Iv x4), some (Iv x5), some (Iv (x6 + 1))]) dX5_write_47 rfl rfl (by decide) rfl ?_
      refine Z_goto (tgt := 6) dX5_write_50 (by decide) ?_
      exact Z_cut h ⟨rfl, rfl, rfl, rfl, rfl, rfl, rfl, trivial⟩
    · have h := h.2 c5
      refine Z_iinc (lv2 := [some (Rv G 118), some (Iv x1), some (Iv x2), some (Rv G x3), some (Iv x4), some (Iv (x5 + 1)), some (Iv x6)]) dX5_write_31 rfl rfl (by decide) rfl ?_
      refine Z_aload_n dX5_write_34 rfl ?_
      refine Z_iload_n dX5_write_35 rfl ?_
      refine Z_iload_n dX5_write_36 rfl ?_
      refine Z_iload dX5_write_37 rfl ?_
      refine Z_iadd dX5_write_39 ?_
      refine Z_aload_n dX5_write_40 rfl ?_
      refine Z_iload dX5_write_41 rfl ?_
      obtain ⟨b9, h⟩ := h
      refine Z_iald b9 dX5_write_43 ?_
      refine Z_callVv h md_X5_change sv_X5_change lk_X5_43 zcX5 rfl ⟨by decide, by omega⟩ rfl rfl rfl rfl (Nat.le_of_ble_eq_true rfl) dX5_write_44 ⟨by decide, Nat.le_of_ble_eq_true rfl⟩ ⟨Nat.zero_le _, Nat.zero_le _⟩ ?_
      intro μ11 h
      refine Z_iinc (lv2 := [some (Rv G 118), some (Iv x1), some (Iv x2), some (Rv G x3), some (Iv x4), some (Iv (x5 + 1)), some (Iv (x6 + 1))]) dX5_write_47 rfl rfl (by decide) rfl ?_
      refine Z_goto (tgt := 6) dX5_write_50 (by decide) ?_
      exact Z_cut h ⟨rfl, rfl, rfl, rfl, rfl, rfl, rfl, trivial⟩
