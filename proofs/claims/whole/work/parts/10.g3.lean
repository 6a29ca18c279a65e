abbrev mX3_change (G : zG) (n : Nat) (x1 x2 x3 : Int) (μ : zM) (K : Int → zM → Prop) : Prop := zMt G n 1 yX3_change cX3_change 5 (some .int) [Rv G 45, Iv x1, Iv x2, Iv x3] μ (zKi K)
abbrev pX3_change (G : zG) (n : Nat) (K : Int → zM → Prop) (pc : Nat) (lv : List (Option Value)) (st : List Value) (μ : zM) : Prop := Z G (zrm 1 0 0) RX3 "change" cX3_change 5 (some .int) (zPh G n (zKi K)) 0 0 pc lv st (zE G n μ)
theorem eX3_change {G : zG} {n : Nat} (hn : 99 ≤ n) {x1 x2 x3 : Int} {μ : zM} {K : Int → zM → Prop}
    (h : ((0 ≤ wr x1 ∧ wr x1 < 5) ∧ (0 ≤ wr x2 ∧ wr x2 < 5) ∧ ∀ v3 : Int, v3 = μ (46 + 1 + wr x1) (wr x2) → (0 ≤ wr x1 ∧ wr x1 < 5) ∧ (0 ≤ wr x2 ∧ wr x2 < 5) ∧ ∀ μ6 : zM, μ6 = zu μ (46 + 1 + wr x1) (wr x2) x3 → ∀ μ7 : zM, μ7 = zu μ6 45 2 1 → K v3 μ7)) :
    mX3_change G n x1 x2 x3 μ K := by
  refine zMt_of (lv := [some (Rv G 45), some (Iv x1), some (Iv x2), some (Iv x3), none]) (by decide) rfl (Nat.le_of_ble_eq_true rfl) ?_
  show pX3_change G n K 0 [some (Rv G 45), some (Iv x1), some (Iv x2), some (Iv x3), none] [] μ
  refine Z_aload_n dX3_change_0 rfl ?_
  refine Z_gr (t := 46) zcX3 fl_X3_27 ⟨by decide, by omega⟩ rfl rfl rfl (by decide) (by decide) dX3_change_1 ?_
  refine Z_iload_n dX3_change_4 rfl ?_
  obtain ⟨b1, h⟩ := h
  refine Z_aald3 (zin_c (by decide) (by omega) (by decide) (by decide) b1) dX3_change_5 ?_
  refine Z_iload_n dX3_change_6 rfl ?_
  obtain ⟨b2, h⟩ := h
  refine Z_iald (zin_c (zr_46 b1).1 (by have := b1; omega) (zr_46 b1).2.1 (zr_46 b1).2.2 b2) dX3_change_7 ?_
  obtain ⟨v3, ev3⟩ : ∃ z : Int, z = μ (46 + 1 + wr x1) (wr x2) := ⟨_, rfl⟩
  have h := h v3 ev3
  refine Z_nmi ev3 ?_
  refine Z_istore (lv2 := [some (Rv G 45), some (Iv x1), some (Iv x2), some (Iv x3), some (Iv v3)]) dX3_change_8 rfl (by decide) rfl ?_
  refine Z_aload_n dX3_change_10 rfl ?_
  refine Z_gr (t := 46) zcX3 fl_X3_27 ⟨by decide, by omega⟩ rfl rfl rfl (by decide) (by decide) dX3_change_11 ?_
  refine Z_iload_n dX3_change_14 rfl ?_
  obtain ⟨b4, h⟩ := h
  refine Z_aald3 (zin_c (by decide) (by omega) (by decide) (by decide) b4) dX3_change_15 ?_
  refine Z_iload_n dX3_change_16 rfl ?_
  refine Z_iload_n dX3_change_17 rfl ?_
  obtain ⟨b5, h⟩ := h
  refine Z_iast (zin_c (zr_46 b4).1 (by have := b4; omega) (zr_46 b4).2.1 (zr_46 b4).2.2 b5) dX3_change_18 ?_
  obtain ⟨μ6, eμ6⟩ : ∃ z : zM, z = zu μ (46 + 1 + wr x1) (wr x2) x3 := ⟨_, rfl⟩
  have h := h μ6 eμ6
  refine Z_mem eμ6 ?_
  refine Z_aload_n dX3_change_19 rfl ?_
  refine Z_iconst dX3_change_20 ?_
  refine Y_pz 2 zcX3 fk_X3_18 ⟨by decide, by omega⟩ rfl rfl rfl (by decide) rfl (tyX3_ok 2 (by decide)) (by decide) dX3_change_21 rfl ?_
  obtain ⟨μ7, eμ7⟩ : ∃ z : zM, z = zu μ6 45 2 1 := ⟨_, rfl⟩
  have h := h μ7 eμ7
  refine Z_mem eμ7 ?_
  refine Z_iload dX3_change_24 rfl ?_
  exact Z_ireturn dX3_change_26 ⟨_, rfl, h⟩
abbrev mX3_canGive (G : zG) (n : Nat) (x1 x2 x3 : Int) (μ : zM) (K : Int → zM → Prop) : Prop := zMt G n 1 yX3_canGive cX3_canGive 4 (some .boolean) [Rv G 45, Iv x1, Iv x2, Iv x3] μ (zKi K)
abbrev pX3_canGive (G : zG) (n : Nat) (K : Int → zM → Prop) (pc : Nat) (lv : List (Option Value)) (st : List Value) (μ : zM) : Prop := Z G (zrm 1 0 0) RX3 "canGive" cX3_canGive 4 (some .boolean) (zPh G n (zKi K)) 0 0 pc lv st (zE G n μ)
theorem eX3_canGive {G : zG} {n : Nat} (hn : 99 ≤ n) {x1 x2 x3 : Int} {μ : zM} {K : Int → zM → Prop}
    (h : ((0 ≤ wr x1 ∧ wr x1 < 5) ∧ (0 ≤ wr x2 ∧ wr x2 < 5) ∧ ((wr (μ (52 + 1 + wr x1) (wr x2)) ≤ 0 → (K 0 μ)) ∧ (¬ (wr (μ (52 + 1 + wr x1) (wr x2)) ≤ 0) → (((¬ wr (zand (zshr x3 x2) 1) = 0 → (K 0 μ)) ∧ (wr (zand (zshr x3 x2) 1) = 0 → ((0 ≤ wr (x1 + 1) ∧ wr (x1 + 1) < 6) ∧ ((¬ wr (zand (zshr (μ 98 (wr (x1 + 1))) (zor x3 (zshl 1 x2))) 1) = wr 1 → (K 0 μ)) ∧ (wr (zand (zshr (μ 98 (wr (x1 + 1))) (zor x3 (zshl 1 x2))) 1) = wr 1 → (K 1 μ))))))))))) :
    mX3_canGive G n x1 x2 x3 μ K := by
  refine zMt_of (lv := [some (Rv G 45), some (Iv x1), some (Iv x2), some (Iv x3)]) (by decide) rfl (Nat.le_of_ble_eq_true rfl) ?_
  show pX3_canGive G n K 0 [some (Rv G 45), some (Iv x1), some (Iv x2), some (Iv x3)] [] μ
  refine Z_aload_n dX3_canGive_0 rfl ?_
  refine Z_gr (t := 52) zcX3 fl_X3_30 ⟨by decide, by omega⟩ rfl rfl rfl (by decide) (by decide) dX3_canGive_1 ?_
  refine Z_iload_n dX3_canGive_4 rfl ?_
  obtain ⟨b1, h⟩ := h
  refine Z_aald3 (zin_c (by decide) (by omega) (by decide) (by decide) b1) dX3_canGive_5 ?_
  refine Z_iload_n dX3_canGive_6 rfl ?_
  obtain ⟨b2, h⟩ := h
  refine Z_iald (zin_c (zr_52 b1).1 (by have := b1; omega) (zr_52 b1).2.1 (zr_52 b1).2.2 b2) dX3_canGive_7 ?_
  refine Z_if_le (tgt := 43) dX3_canGive_8 (by decide) (fun c3 => ?_) (fun c3 => ?_)
  · have h := h.1 c3
    refine Z_iconst dX3_canGive_43 ?_
    exact Z_zreturn dX3_canGive_44 (by decide) ⟨_, rfl, h⟩
  · have h := h.2 c3
    refine Z_iload_n dX3_canGive_11 rfl ?_
    refine Z_iload_n dX3_canGive_12 rfl ?_
    refine Z_ishr dX3_canGive_13 ?_
    refine Z_iconst dX3_canGive_14 ?_
    refine Z_iand dX3_canGive_15 ?_
    refine Z_if_ne (tgt := 43) dX3_canGive_16 (by decide) (fun c4 => ?_) (fun c4 => ?_)
    · have h := h.1 c4
      refine Z_iconst dX3_canGive_43 ?_
      exact Z_zreturn dX3_canGive_44 (by decide) ⟨_, rfl, h⟩
    · have h := h.2 c4
      refine Z_aload_n dX3_canGive_19 rfl ?_
      refine Z_gr (t := 98) zcX3 fl_X3_46 ⟨by decide, by omega⟩ rfl rfl rfl (by decide) (by decide) dX3_canGive_20 ?_
      refine Z_iload_n dX3_canGive_23 rfl ?_
      refine Z_iconst dX3_canGive_24 ?_
      refine Z_iadd dX3_canGive_25 ?_
      obtain ⟨b5, h⟩ := h
      refine Z_iald (zin_c (by decide) (by omega) (by decide) (by decide) b5) dX3_canGive_26 ?_
      refine Z_iload_n dX3_canGive_27 rfl ?_
      refine Z_iconst dX3_canGive_28 ?_
      refine Z_iload_n dX3_canGive_29 rfl ?_
      refine Z_ishl dX3_canGive_30 ?_
      refine Z_ior dX3_canGive_31 ?_
      refine Z_ishr dX3_canGive_32 ?_
      refine Z_iconst dX3_canGive_33 ?_
      refine Z_iand dX3_canGive_34 ?_
      refine Z_iconst dX3_canGive_35 ?_
      refine Z_icmp_ne (tgt := 43) dX3_canGive_36 (by decide) (fun c6 => ?_) (fun c6 => ?_)
      · have h := h.1 c6
        refine Z_iconst dX3_canGive_43 ?_
        exact Z_zreturn dX3_canGive_44 (by decide) ⟨_, rfl, h⟩
      · have h := h.2 c6
        refine Z_iconst dX3_canGive_39 ?_
        refine Z_goto (tgt := 44) dX3_canGive_40 (by decide) ?_
        exact Z_zreturn dX3_canGive_44 (by decide) ⟨_, rfl, h⟩
abbrev mX3_takeOff (G : zG) (n : Nat) (x1 x2 : Int) (μ : zM) (K : zM → Prop) : Prop := zMt G n 1 yX3_takeOff cX3_takeOff 4 none [Rv G 45, Rv G x1, Iv x2] μ (zKv K)
abbrev pX3_takeOff (G : zG) (n : Nat) (K : zM → Prop) (pc : Nat) (lv : List (Option Value)) (st : List Value) (μ : zM) : Prop := Z G (zrm 1 0 0) RX3 "takeOff" cX3_takeOff 4 none (zPh G n (zKv K)) 0 0 pc lv st (zE G n μ)
theorem eX3_takeOff {G : zG} {n : Nat} (hn : 99 ≤ n) {x1 x2 : Int} {μ : zM} {K : zM → Prop}
    (h : (pX3_takeOff G n K 2 [some (Rv G 45), some (Rv G x1), some (Iv x2), some (Iv 0)] [] μ)) :
    mX3_takeOff G n x1 x2 μ K := by
  refine zMt_of (lv := [some (Rv G 45), some (Rv G x1), some (Iv x2), none]) (by decide) rfl (Nat.le_of_ble_eq_true rfl) ?_
  show pX3_takeOff G n K 0 [some (Rv G 45), some (Rv G x1), some (Iv x2), none] [] μ
  refine Z_iconst dX3_takeOff_0 ?_
  refine Z_istore_n (lv2 := [some (Rv G 45), some (Rv G x1), some (Iv x2), some (Iv 0)]) dX3_takeOff_1 rfl (by decide) rfl ?_
  exact Z_cut h ⟨rfl, rfl, rfl, rfl, trivial⟩
theorem bX3_takeOff_2 {G : zG} {n : Nat} (hn : 99 ≤ n) {x1 x2 x3 : Int} {μ : zM} {K : zM → Prop}
    (h : (((wr (μ 45 0) ≤ wr x3 → (K μ)) ∧ (¬ (wr (μ 45 0) ≤ wr x3) → (zin 0 n x1 x3 ∧ ((wr (μ x1 (wr x3)) = wr ((-9)) → (pX3_takeOff G n K 2 [some (Rv G 45), some (Rv G x1), some (Iv x2), some (Iv (x3 + 1))] [] μ)) ∧ (¬ (wr (μ x1 (wr x3)) = wr ((-9))) → ((0 ≤ wr x3 ∧ wr x3 < 5) ∧ zin 0 n x1 x3 ∧ (0 ≤ wr (μ x1 (wr x3)) ∧ wr (μ x1 (wr x3)) < 5) ∧ (0 ≤ wr (μ x1 (wr x3)) ∧ wr (μ x1 (wr x3)) < 5) ∧ ∀ μ8 : zM, μ8 = zu μ (52 + 1 + wr x3) (wr (μ x1 (wr x3))) ((μ (52 + 1 + wr x3) (wr (μ x1 (wr x3)))) - x2) → pX3_takeOff G n K 2 [some (Rv G 45), some (Rv G x1), some (Iv x2), some (Iv (x3 + 1))] [] μ8)))))))) :
    pX3_takeOff G n K 2 [some (Rv G 45), some (Rv G x1), some (Iv x2), some (Iv x3)] [] μ := by
  refine Z_iload_n dX3_takeOff_2 rfl ?_
  refine Z_aload_n dX3_takeOff_3 rfl ?_
  refine Y_gi 0 zcX3 fl_X3_9 ⟨by decide, by omega⟩ rfl rfl rfl (by decide) dX3_takeOff_4 rfl ?_
  refine Z_icmp_ge (tgt := 38) dX3_takeOff_7 (by decide) (fun c1 => ?_) (fun c1 => ?_)
  · have h := h.1 c1
    exact Z_return dX3_takeOff_38 ⟨rfl, h⟩
  · have h := h.2 c1
    refine Z_aload_n dX3_takeOff_10 rfl ?_
    refine Z_iload_n dX3_takeOff_11 rfl ?_
    obtain ⟨b2, h⟩ := h
    refine Z_iald b2 dX3_takeOff_12 ?_
    refine Z_bipush dX3_takeOff_13 (by decide) ?_
    refine Z_icmp_eq (tgt := 32) dX3_takeOff_15 (by decide) (fun c3 => ?_) (fun c3 => ?_)
    · have h := h.1 c3
      refine Z_iinc (lv2 := [some (Rv G 45), some (Rv G x1), some (Iv x2), some (Iv (x3 + 1))]) dX3_takeOff_32 rfl rfl (by decide) rfl ?_
      refine Z_goto (tgt := 2) dX3_takeOff_35 (by decide) ?_
      exact Z_cut h ⟨rfl, rfl, rfl, rfl, trivial⟩
    · have h := h.2 c3
      refine Z_aload_n dX3_takeOff_18 rfl ?_
      refine Z_gr (t := 52) zcX3 fl_X3_30 ⟨by decide, by omega⟩ rfl rfl rfl (by decide) (by decide) dX3_takeOff_19 ?_
      refine Z_iload_n dX3_takeOff_22 rfl ?_
      obtain ⟨b4, h⟩ := h
      refine Z_aald3 (zin_c (by decide) (by omega) (by decide) (by decide) b4) dX3_takeOff_23 ?_
      refine Z_aload_n dX3_takeOff_24 rfl ?_
      refine Z_iload_n dX3_takeOff_25 rfl ?_
      obtain ⟨b5, h⟩ := h
      refine Z_iald b5 dX3_takeOff_26 ?_
      refine Z_dup2 dX3_takeOff_27 rfl rfl ?_
      obtain ⟨b6, h⟩ := h
      refine Z_iald (zin_c (zr_52 b4).1 (by have := b4; omega) (zr_52 b4).2.1 (zr_52 b4).2.2 b6) dX3_takeOff_28 ?_
      refine Z_iload_n dX3_takeOff_29 rfl ?_
      refine Z_isub dX3_takeOff_30 ?_
      obtain ⟨b7, h⟩ := h
      refine Z_iast (zin_c (zr_52 b4).1 (by have := b4; omega) (zr_52 b4).2.1 (zr_52 b4).2.2 b7) dX3_takeOff_31 ?_
      obtain ⟨μ8, eμ8⟩ : ∃ z : zM, z = zu μ (52 + 1 + wr x3) (wr (μ x1 (wr x3))) ((μ (52 + 1 + wr x3) (wr (μ x1 (wr x3)))) - x2) := ⟨_, rfl⟩
      have h := h μ8 eμ8
      refine Z_mem eμ8 ?_
      refine Z_iinc (lv2 := [some (Rv G 45), some (Rv G x1), some (Iv x2), some (Iv (x3 + 1))]) dX3_takeOff_32 rfl rfl (by decide) rfl ?_
      refine Z_goto (tgt := 2) dX3_takeOff_35 (by decide) ?_
      exact Z_cut h ⟨rfl, rfl, rfl, rfl, trivial⟩
abbrev mX3_begin (G : zG) (n : Nat) (x1 : Int) (μ : zM) (K : zM → Prop) : Prop := zMt G n 2 yX3_begin cX3_begin 3 none [Rv G 45, Iv x1] μ (zKv K)
abbrev pX3_begin (G : zG) (n : Nat) (K : zM → Prop) (pc : Nat) (lv : List (Option Value)) (st : List Value) (μ : zM) : Prop := Z G (zrm 2 0 0) RX3 "begin" cX3_begin 3 none (zPh G n (zKv K)) 0 0 pc lv st (zE G n μ)
theorem eX3_begin {G : zG} {n : Nat} (hn : 99 ≤ n) {x1 : Int} {μ : zM} {K : zM → Prop}
    (h : (∀ μ1 : zM, μ1 = zu μ 45 0 x1 → pX3_begin G n K 7 [some (Rv G 45), none, some (Iv 0)] [] μ1)) :
    mX3_begin G n x1 μ K := by
  refine zMt_of (lv := [some (Rv G 45), some (Iv x1), none]) (by decide) rfl (Nat.le_of_ble_eq_true rfl) ?_
  show pX3_begin G n K 0 [some (Rv G 45), some (Iv x1), none] [] μ
  refine Z_aload_n dX3_begin_0 rfl ?_
  refine Z_iload_n dX3_begin_1 rfl ?_
  refine Y_pi 0 zcX3 fk_X3_9 ⟨by decide, by omega⟩ rfl rfl rfl (by decide) rfl (tyX3_ok 0 (by decide)) dX3_begin_2 rfl ?_
  obtain ⟨μ1, eμ1⟩ : ∃ z : zM, z = zu μ 45 0 x1 := ⟨_, rfl⟩
  have h := h μ1 eμ1
  refine Z_mem eμ1 ?_
  refine Z_iconst dX3_begin_5 ?_
  refine Z_istore_n (lv2 := [some (Rv G 45), some (Iv x1), some (Iv 0)]) dX3_begin_6 rfl (by decide) rfl ?_
  exact Z_cut h ⟨rfl, trivial, rfl, trivial⟩
theorem bX3_begin_7 {G : zG} {n : Nat} (hn : 99 ≤ n) {x2 : Int} {μ : zM} {K : zM → Prop}
    (h : (((wr 5 ≤ wr x2 → (∀ μ2 : zM, μ2 = zu μ 45 2 1 → K μ2)) ∧ (¬ (wr 5 ≤ wr x2) → ((0 ≤ wr x2 ∧ wr x2 < 5) ∧ mJ7_fill_53178 G n (46 + 1 + wr x2) 0 μ (fun μ5 => pX3_begin G n K 7 [some (Rv G 45), none, some (Iv (x2 + 1))] [] μ5)))))) :
    pX3_begin G n K 7 [some (Rv G 45), none, some (Iv x2)] [] μ := by
  refine Z_iload_n dX3_begin_7 rfl ?_
  refine Z_iconst dX3_begin_8 ?_
  refine Z_icmp_ge (tgt := 28) dX3_begin_9 (by decide) (fun c1 => ?_) (fun c1 => ?_)
  · have h := h.1 c1
    refine Z_aload_n dX3_begin_28 rfl ?_
    refine Z_iconst dX3_begin_29 ?_
    refine Y_pz 2 zcX3 fk_X3_18 ⟨by decide, by omega⟩ rfl rfl rfl (by decide) rfl (tyX3_ok 2 (by decide)) (by decide) dX3_begin_30 rfl ?_
    obtain ⟨μ2, eμ2⟩ : ∃ z : zM, z = zu μ 45 2 1 := ⟨_, rfl⟩
    have h := h μ2 eμ2
    refine Z_mem eμ2 ?_
    exact Z_return dX3_begin_33 ⟨rfl, h⟩
  · have h := h.2 c1
    refine Z_aload_n dX3_begin_12 rfl ?_
    refine Z_gr (t := 46) zcX3 fl_X3_27 ⟨by decide, by omega⟩ rfl rfl rfl (by decide) (by decide) dX3_begin_13 ?_
    refine Z_iload_n dX3_begin_16 rfl ?_
    obtain ⟨b3, h⟩ := h
    refine Z_aald3 (zin_c (by decide) (by omega) (by decide) (by decide) b3) dX3_begin_17 ?_
    refine Z_iconst dX3_begin_18 ?_
    refine Z_callSv h md_J7_fill_53178 sv_J7_fill_53178 lk_X3_49 rfl rfl (Nat.le_of_ble_eq_true rfl) dX3_begin_19 ⟨by decide, Nat.le_of_ble_eq_true rfl⟩ ⟨Nat.zero_le _, Nat.zero_le _⟩ ?_
    intro μ5 h
    refine Z_iinc (lv2 := [some (Rv G 45), none, some (Iv (x2 + 1))]) dX3_begin_22 rfl rfl (by decide) rfl ?_
    refine Z_goto (tgt := 7) dX3_begin_25 (by decide) ?_
    exact Z_cut h ⟨rfl, trivial, rfl, trivial⟩
abbrev mX3_addUp (G : zG) (n : Nat) (x1 : Int) (μ : zM) (K : zM → Prop) : Prop := zMt G n 2 yX3_addUp cX3_addUp 4 none [Rv G 45, Rv G x1] μ (zKv K)
abbrev pX3_addUp (G : zG) (n : Nat) (K : zM → Prop) (pc : Nat) (lv : List (Option Value)) (st : List Value) (μ : zM) : Prop := Z G (zrm 2 0 0) RX3 "addUp" cX3_addUp 4 none (zPh G n (zKv K)) 0 0 pc lv st (zE G n μ)
theorem eX3_addUp {G : zG} {n : Nat} (hn : 99 ≤ n) {x1 : Int} {μ : zM} {K : zM → Prop}
    (h : (mJ7_fill_53178 G n 58 0 μ (fun μ2 => mJ7_fill_53178 G n 59 0 μ2 (fun μ4 => pX3_addUp G n K 18 [some (Rv G 45), some (Rv G x1), some (Iv 0), none] [] μ4)))) :
    mX3_addUp G n x1 μ K := by
  refine zMt_of (lv := [some (Rv G 45), some (Rv G x1), none, none]) (by decide) rfl (Nat.le_of_ble_eq_true rfl) ?_
  show pX3_addUp G n K 0 [some (Rv G 45), some (Rv G x1), none, none] [] μ
  refine Z_aload_n dX3_addUp_0 rfl ?_
  refine Z_gr (t := 58) zcX3 fl_X3_33 ⟨by decide, by omega⟩ rfl rfl rfl (by decide) (by decide) dX3_addUp_1 ?_
  refine Z_iconst dX3_addUp_4 ?_
  refine Z_callSv h md_J7_fill_53178 sv_J7_fill_53178 lk_X3_49 rfl rfl (Nat.le_of_ble_eq_true rfl) dX3_addUp_5 ⟨by decide, Nat.le_of_ble_eq_true rfl⟩ ⟨Nat.zero_le _, Nat.zero_le _⟩ ?_
  intro μ2 h
  refine Z_aload_n dX3_addUp_8 rfl ?_
  refine Z_gr (t := 59) zcX3 fl_X3_37 ⟨by decide, by omega⟩ rfl rfl rfl (by decide) (by decide) dX3_addUp_9 ?_
  refine Z_iconst dX3_addUp_12 ?_
  refine Z_callSv h md_J7_fill_53178 sv_J7_fill_53178 lk_X3_49 rfl rfl (Nat.le_of_ble_eq_true rfl) dX3_addUp_13 ⟨by decide, Nat.le_of_ble_eq_true rfl⟩ ⟨Nat.zero_le _, Nat.zero_le _⟩ ?_
  intro μ4 h
  refine Z_iconst dX3_addUp_16 ?_
  refine Z_istore_n (lv2 := [some (Rv G 45), some (Rv G x1), some (Iv 0), none]) dX3_addUp_17 rfl (by decide) rfl ?_
  exact Z_cut h ⟨rfl, rfl, rfl, trivial, trivial⟩
theorem bX3_addUp_18 {G : zG} {n : Nat} (hn : 99 ≤ n) {x1 x2 : Int} {μ : zM} {K : zM → Prop}
    (h : (((wr (μ 45 0) ≤ wr x2 → (∀ μ2 : zM, μ2 = zu μ 45 3 0 → pX3_addUp G n K 83 [some (Rv G 45), none, some (Iv 0), none] [] μ2)) ∧ (¬ (wr (μ 45 0) ≤ wr x2) → (pX3_addUp G n K 28 [some (Rv G 45), some (Rv G x1), some (Iv x2), some (Iv 0)] [] μ))))) :
    pX3_addUp G n K 18 [some (Rv G 45), some (Rv G x1), some (Iv x2), none] [] μ := by
  refine Z_iload_n dX3_addUp_18 rfl ?_
  refine Z_aload_n dX3_addUp_19 rfl ?_
  refine Y_gi 0 zcX3 fl_X3_9 ⟨by decide, by omega⟩ rfl rfl rfl (by decide) dX3_addUp_20 rfl ?_
  refine Z_icmp_ge (tgt := 76) dX3_addUp_23 (by decide) (fun c1 => ?_) (fun c1 => ?_)
  · have h := h.1 c1
    refine Z_aload_n dX3_addUp_76 rfl ?_
    refine Z_iconst dX3_addUp_77 ?_
    refine Y_pi 3 zcX3 fk_X3_22 ⟨by decide, by omega⟩ rfl rfl rfl (by decide) rfl (tyX3_ok 3 (by decide)) dX3_addUp_78 rfl ?_
    obtain ⟨μ2, eμ2⟩ : ∃ z : zM, z = zu μ 45 3 0 := ⟨_, rfl⟩
    have h := h μ2 eμ2
    refine Z_mem eμ2 ?_
    refine Z_iconst dX3_addUp_81 ?_
    refine Z_istore_n (lv2 := [some (Rv G 45), some (Rv G x1), some (Iv 0), none]) dX3_addUp_82 rfl (by decide) rfl ?_
    exact Z_cut h ⟨rfl, trivial, rfl, trivial, trivial⟩
  · have h := h.2 c1
    refine Z_iconst dX3_addUp_26 ?_
    refine Z_istore_n (lv2 := [some (Rv G 45), some (Rv G x1), some (Iv x2), some (Iv 0)]) dX3_addUp_27 rfl (by decide) rfl ?_
    exact Z_cut h ⟨rfl, rfl, rfl, rfl, trivial⟩
theorem bX3_addUp_28 {G : zG} {n : Nat} (hn : 99 ≤ n) {x1 x2 x3 : Int} {μ : zM} {K : zM → Prop}
    (h : (((wr (μ 45 0) ≤ wr x3 → (pX3_addUp G n K 18 [some (Rv G 45), some (Rv G x1), some (Iv (x2 + 1)), none] [] μ)) ∧ (¬ (wr (μ 45 0) ≤ wr x3) → ((0 ≤ wr x2 ∧ wr x2 < 5) ∧ zin 3 n x1 x2 ∧ zin 0 n (x1 + 1 + wr x2) x3 ∧ (0 ≤ wr x2 ∧ wr x2 < 5) ∧ ∀ μ6 : zM, μ6 = zu μ 58 (wr x2) ((μ 58 (wr x2)) + (μ (x1 + 1 + wr x2) (wr x3))) → (0 ≤ wr x3 ∧ wr x3 < 5) ∧ zin 3 n x1 x2 ∧ zin 0 n (x1 + 1 + wr x2) x3 ∧ (0 ≤ wr x3 ∧ wr x3 < 5) ∧ ∀ μ11 : zM, μ11 = zu μ6 59 (wr x3) ((μ6 59 (wr x3)) + (μ6 (x1 + 1 + wr x2) (wr x3))) → pX3_addUp G n K 28 [some (Rv G 45), some (Rv G x1), some (Iv x2), some (Iv (x3 + 1))] [] μ11))))) :
    pX3_addUp G n K 28 [some (Rv G 45), some (Rv G x1), some (Iv x2), some (Iv x3)] [] μ := by
  refine Z_iload_n dX3_addUp_28 rfl ?_
  refine Z_aload_n dX3_addUp_29 rfl ?_
  refine Y_gi 0 zcX3 fl_X3_9 ⟨by decide, by omega⟩ rfl rfl rfl (by decide) dX3_addUp_30 rfl ?_
  refine Z_icmp_ge (tgt := 70) dX3_addUp_33 (by decide) (fun c1 => ?_) (fun c1 => ?_)
  · have h := h.1 c1
    refine Z_iinc (lv2 := [some (Rv G 45), some (Rv G x1), some (Iv (x2 + 1)), some (Iv x3)]) dX3_addUp_70 rfl rfl (by decide) rfl ?_
    refine Z_goto (tgt := 18) dX3_addUp_73 (by decide) ?_
    exact Z_cut h ⟨rfl, rfl, rfl, trivial, trivial⟩
  · have h := h.2 c1
    refine Z_aload_n dX3_addUp_36 rfl ?_
    refine Z_gr (t := 58) zcX3 fl_X3_33 ⟨by decide, by omega⟩ rfl rfl rfl (by decide) (by decide) dX3_addUp_37 ?_
    refine Z_iload_n dX3_addUp_40 rfl ?_
    refine Z_dup2 dX3_addUp_41 rfl rfl ?_
    obtain ⟨b2, h⟩ := h
    refine Z_iald (zin_c (by decide) (by omega) (by decide) (by decide) b2) dX3_addUp_42 ?_
    refine Z_aload_n dX3_addUp_43 rfl ?_
    refine Z_iload_n dX3_addUp_44 rfl ?_
    obtain ⟨b3, h⟩ := h
    refine Z_aald3 b3 dX3_addUp_45 ?_
    refine Z_iload_n dX3_addUp_46 rfl ?_
    obtain ⟨b4, h⟩ := h
    refine Z_iald b4 dX3_addUp_47 ?_
    refine Z_iadd dX3_addUp_48 ?_
    obtain ⟨b5, h⟩ := h
    refine Z_iast (zin_c (by decide) (by omega) (by decide) (by decide) b5) dX3_addUp_49 ?_
    obtain ⟨μ6, eμ6⟩ : ∃ z : zM, z = zu μ 58 (wr x2) ((μ 58 (wr x2)) + (μ (x1 + 1 + wr x2) (wr x3))) := ⟨_, rfl⟩
    have h := h μ6 eμ6
    refine Z_mem eμ6 ?_
    refine Z_aload_n dX3_addUp_50 rfl ?_
    refine Z_gr (t := 59) zcX3 fl_X3_37 ⟨by decide, by omega⟩ rfl rfl rfl (by decide) (by decide) dX3_addUp_51 ?_
    refine Z_iload_n dX3_addUp_54 rfl ?_
    refine Z_dup2 dX3_addUp_55 rfl rfl ?_
    obtain ⟨b7, h⟩ := h
    refine Z_iald (zin_c (by decide) (by omega) (by decide) (by decide) b7) dX3_addUp_56 ?_
    refine Z_aload_n dX3_addUp_57 rfl ?_
    refine Z_iload_n dX3_addUp_58 rfl ?_
    obtain ⟨b8, h⟩ := h
    refine Z_aald3 b8 dX3_addUp_59 ?_
    refine Z_iload_n dX3_addUp_60 rfl ?_
    obtain ⟨b9, h⟩ := h
    refine Z_iald b9 dX3_addUp_61 ?_
    refine Z_iadd dX3_addUp_62 ?_
    obtain ⟨b10, h⟩ := h
    refine Z_iast (zin_c (by decide) (by omega) (by decide) (by decide) b10) dX3_addUp_63 ?_
    obtain ⟨μ11, eμ11⟩ : ∃ z : zM, z = zu μ6 59 (wr x3) ((μ6 59 (wr x3)) + (μ6 (x1 + 1 + wr x2) (wr x3))) := ⟨_, rfl⟩
    have h := h μ11 eμ11
    refine Z_mem eμ11 ?_
    refine Z_iinc (lv2 := [some (Rv G 45), some (Rv G x1), some (Iv x2), some (Iv (x3 + 1))]) dX3_addUp_64 rfl rfl (by decide) rfl ?_
    refine Z_goto (tgt := 28) dX3_addUp_67 (by decide) ?_
    exact Z_cut h ⟨rfl, rfl, rfl, rfl, trivial⟩
theorem bX3_addUp_83 {G : zG} {n : Nat} (hn : 99 ≤ n) {x2 : Int} {μ : zM} {K : zM → Prop}
    (h : (((wr (μ 45 0) ≤ wr x2 → (K μ)) ∧ (¬ (wr (μ 45 0) ≤ wr x2) → ((0 ≤ wr x2 ∧ wr x2 < 5) ∧ (0 ≤ wr x2 ∧ wr x2 < 5) ∧ ∀ μ4 : zM, μ4 = zu μ 45 3 (max (wr (μ 45 3)) (wr (max (wr (μ 58 (wr x2))) (wr (μ 59 (wr x2)))))) → pX3_addUp G n K 83 [some (Rv G 45), none, some (Iv (x2 + 1)), none] [] μ4))))) :
    pX3_addUp G n K 83 [some (Rv G 45), none, some (Iv x2), none] [] μ := by
  refine Z_iload_n dX3_addUp_83 rfl ?_
  refine Z_aload_n dX3_addUp_84 rfl ?_
  refine Y_gi 0 zcX3 fl_X3_9 ⟨by decide, by omega⟩ rfl rfl rfl (by decide) dX3_addUp_85 rfl ?_
  refine Z_icmp_ge (tgt := 123) dX3_addUp_88 (by decide) (fun c1 => ?_) (fun c1 => ?_)
  · have h := h.1 c1
    exact Z_return dX3_addUp_123 ⟨rfl, h⟩
  · have h := h.2 c1
    refine Z_aload_n dX3_addUp_91 rfl ?_
    refine Z_aload_n dX3_addUp_92 rfl ?_
    refine Y_gi 3 zcX3 fl_X3_22 ⟨by decide, by omega⟩ rfl rfl rfl (by decide) dX3_addUp_93 rfl ?_
    refine Z_aload_n dX3_addUp_96 rfl ?_
    refine Z_gr (t := 58) zcX3 fl_X3_33 ⟨by decide, by omega⟩ rfl rfl rfl (by decide) (by decide) dX3_addUp_97 ?_
    refine Z_iload_n dX3_addUp_100 rfl ?_
    obtain ⟨b2, h⟩ := h
    refine Z_iald (zin_c (by decide) (by omega) (by decide) (by decide) b2) dX3_addUp_101 ?_
    refine Z_aload_n dX3_addUp_102 rfl ?_
    refine Z_gr (t := 59) zcX3 fl_X3_37 ⟨by decide, by omega⟩ rfl rfl rfl (by decide) (by decide) dX3_addUp_103 ?_
    refine Z_iload_n dX3_addUp_106 rfl ?_
    obtain ⟨b3, h⟩ := h
    refine Z_iald (zin_c (by decide) (by omega) (by decide) (by decide) b3) dX3_addUp_107 ?_
    refine Z_max lk_X3_79 mt1_max mt2 mt3_max ⟨by decide, Nat.le_of_ble_eq_true rfl⟩ ⟨Nat.zero_le _, Nat.zero_le _⟩ dX3_addUp_108 ?_
    refine Z_max lk_X3_79 mt1_max mt2 mt3_max ⟨by decide, Nat.le_of_ble_eq_true rfl⟩ ⟨Nat.zero_le _, Nat.zero_le _⟩ dX3_addUp_111 ?_
    refine Y_pi 3 zcX3 fk_X3_22 ⟨by decide, by omega⟩ rfl rfl rfl (by decide) rfl (tyX3_ok 3 (by decide)) dX3_addUp_114 rfl ?_
    obtain ⟨μ4, eμ4⟩ : ∃ z : zM, z = zu μ 45 3 (max (wr (μ 45 3)) (wr (max (wr (μ 58 (wr x2))) (wr (μ 59 (wr x2)))))) := ⟨_, rfl⟩
    have h := h μ4 eμ4
    refine Z_mem eμ4 ?_
    refine Z_iinc (lv2 := [some (Rv G 45), none, some (Iv (x2 + 1)), none]) dX3_addUp_117 rfl rfl (by decide) rfl ?_
    refine Z_goto (tgt := 83) dX3_addUp_120 (by decide) ?_
    exact Z_cut h ⟨rfl, trivial, rfl, trivial, trivial⟩
abbrev mX3_canGiveAny (G : zG) (n : Nat) (x1 x2 : Int) (μ : zM) (K : Int → zM → Prop) : Prop := zMt G n 2 yX3_canGiveAny cX3_canGiveAny 4 (some .boolean) [Rv G 45, Iv x1, Iv x2] μ (zKi K)
abbrev pX3_canGiveAny (G : zG) (n : Nat) (K : Int → zM → Prop) (pc : Nat) (lv : List (Option Value)) (st : List Value) (μ : zM) : Prop := Z G (zrm 2 0 0) RX3 "canGiveAny" cX3_canGiveAny 4 (some .boolean) (zPh G n (zKi K)) 0 0 pc lv st (zE G n μ)
theorem eX3_canGiveAny {G : zG} {n : Nat} (hn : 99 ≤ n) {x1 x2 : Int} {μ : zM} {K : Int → zM → Prop}
    (h : (pX3_canGiveAny G n K 2 [some (Rv G 45), some (Iv x1), some (Iv x2), some (Iv 0)] [] μ)) :
    mX3_canGiveAny G n x1 x2 μ K := by
  refine zMt_of (lv := [some (Rv G 45), some (Iv x1), some (Iv x2), none]) (by decide) rfl (Nat.le_of_ble_eq_true rfl) ?_
  show pX3_canGiveAny G n K 0 [some (Rv G 45), some (Iv x1), some (Iv x2), none] [] μ
  refine Z_iconst dX3_canGiveAny_0 ?_
  refine Z_istore_n (lv2 := [some (Rv G 45), some (Iv x1), some (Iv x2), some (Iv 0)]) dX3_canGiveAny_1 rfl (by decide) rfl ?_
  exact Z_cut h ⟨rfl, rfl, rfl, rfl, trivial⟩
theorem bX3_canGiveAny_2 {G : zG} {n : Nat} (hn : 99 ≤ n) {x1 x2 x3 : Int} {μ : zM} {K : Int → zM → Prop}
    (h : (((wr (μ 45 0) ≤ wr x3 → (K 0 μ)) ∧ (¬ (wr (μ 45 0) ≤ wr x3) → (mX3_canGive G n x1 x3 x2 μ (fun r2 μ3 => ((wr r2 = 0 → (pX3_canGiveAny G n K 2 [some (Rv G 45), some (Iv x1), some (Iv x2), some (Iv (x3 + 1))] [] μ3)) ∧ (¬ (wr r2 = 0) → (K 1 μ3))))))))) :
    pX3_canGiveAny G n K 2 [some (Rv G 45), some (Iv x1), some (Iv x2), some (Iv x3)] [] μ := by
  refine Z_iload_n dX3_canGiveAny_2 rfl ?_
  refine Z_aload_n dX3_canGiveAny_3 rfl ?_
  refine Y_gi 0 zcX3 fl_X3_9 ⟨by decide, by omega⟩ rfl rfl rfl (by decide) dX3_canGiveAny_4 rfl ?_
  refine Z_icmp_ge (tgt := 28) dX3_canGiveAny_7 (by decide) (fun c1 => ?_) (fun c1 => ?_)
  · have h := h.1 c1
    refine Z_iconst dX3_canGiveAny_28 ?_
    exact Z_zreturn dX3_canGiveAny_29 (by decide) ⟨_, rfl, h⟩
  · have h := h.2 c1
    refine Z_aload_n dX3_canGiveAny_10 rfl ?_
    refine Z_iload_n dX3_canGiveAny_11 rfl ?_
    refine Z_iload_n dX3_canGiveAny_12 rfl ?_
    refine Z_iload_n dX3_canGiveAny_13 rfl ?_
    refine Z_callVi h md_X3_canGive sv_X3_canGive lk_X3_88 zcX3 rfl ⟨by decide, by omega⟩ rfl rfl rfl rfl (Nat.le_of_ble_eq_true rfl) dX3_canGiveAny_14 ⟨by decide, Nat.le_of_ble_eq_true rfl⟩ ⟨Nat.zero_le _, Nat.zero_le _⟩ ?_
    intro r2 μ3 h
    refine Z_if_eq (tgt := 22) dX3_canGiveAny_17 (by decide) (fun c4 => ?_) (fun c4 => ?_)
    · have h := h.1 c4
      refine Z_iinc (lv2 := [some (Rv G 45), some (Iv x1), some (Iv x2), some (Iv (x3 + 1))]) dX3_canGiveAny_22 rfl rfl (by decide) rfl ?_
      refine Z_goto (tgt := 2) dX3_canGiveAny_25 (by decide) ?_
      exact Z_cut h ⟨rfl, rfl, rfl, rfl, trivial⟩
    · have h := h.2 c4
      refine Z_iconst dX3_canGiveAny_20 ?_
      exact Z_zreturn dX3_canGiveAny_21 (by decide) ⟨_, rfl, h⟩
abbrev mX3_roundsOf (G : zG) (n : Nat) (x1 : Int) (μ : zM) (K : Int → zM → Prop) : Prop := zMt G n 2 yX3_roundsOf cX3_roundsOf 6 (some .int) [Rv G 45, Rv G x1] μ (zKi K)
abbrev pX3_roundsOf (G : zG) (n : Nat) (K : Int → zM → Prop) (pc : Nat) (lv : List (Option Value)) (st : List Value) (μ : zM) : Prop := Z G (zrm 2 0 0) RX3 "roundsOf" cX3_roundsOf 6 (some .int) (zPh G n (zKi K)) 0 0 pc lv st (zE G n μ)
theorem eX3_roundsOf {G : zG} {n : Nat} (hn : 99 ≤ n) {x1 : Int} {μ : zM} {K : Int → zM → Prop}
    (h : (∀ v1 : Int, v1 = μ 45 3 → pX3_roundsOf G n K 10 [some (Rv G 45), some (Rv G x1), some (Iv v1), some (Iv 0), some (Iv 0), none] [] μ)) :
    mX3_roundsOf G n x1 μ K := by
  refine zMt_of (lv := [some (Rv G 45), some (Rv G x1), none, none, none, none]) (by decide) rfl (Nat.le_of_ble_eq_true rfl) ?_
  show pX3_roundsOf G n K 0 [some (Rv G 45), some (Rv G x1), none, none, none, none] [] μ
  refine Z_aload_n dX3_roundsOf_0 rfl ?_
  refine Y_gi 3 zcX3 fl_X3_22 ⟨by decide, by omega⟩ rfl rfl rfl (by decide) dX3_roundsOf_1 rfl ?_
  obtain ⟨v1, ev1⟩ : ∃ z : Int, z = μ 45 3 := ⟨_, rfl⟩
  have h := h v1 ev1
  refine Z_nmi ev1 ?_
  refine Z_istore_n (lv2 := [some (Rv G 45), some (Rv G x1), some (Iv v1), none, none, none]) dX3_roundsOf_4 rfl (by decide) rfl ?_
  refine Z_iconst dX3_roundsOf_5 ?_
  refine Z_istore_n (lv2 := [some (Rv G 45), some (Rv G x1), some (Iv v1), some (Iv 0), none, none]) dX3_roundsOf_6 rfl (by decide) rfl ?_
  refine Z_iconst dX3_roundsOf_7 ?_
  refine Z_istore (lv2 := [some (Rv G 45), some (Rv G x1), some (Iv v1), some (Iv 0), some (Iv 0), none]) dX3_roundsOf_8 rfl (by decide) rfl ?_
  exact Z_cut h ⟨rfl, rfl, rfl, rfl, rfl, trivial, trivial⟩
theorem bX3_roundsOf_10 {G : zG} {n : Nat} (hn : 99 ≤ n) {x1 x2 x3 x4 : Int} {μ : zM} {K : Int → zM → Prop}
    (h : (((wr (μ 45 0) ≤ wr x4 → (pX3_roundsOf G n K 95 [some (Rv G 45), none, some (Iv x2), some (Iv x3), some (Iv 0), none] [] μ)) ∧ (¬ (wr (μ 45 0) ≤ wr x4) → (zin 0 n x1 x4 ∧ ((wr (μ x1 (wr x4)) = wr ((-9)) → (((wr 0 = 0 → ((0 ≤ wr x4 ∧ wr x4 < 5) ∧ ∀ v6 : Int, v6 = min (wr x2) (wr ((μ 45 3) - (μ 58 (wr x4)))) → ((wr 0 = 0 → (pX3_roundsOf G n K 10 [some (Rv G 45), some (Rv G x1), some (Iv v6), some (Iv x3), some (Iv (x4 + 1)), none] [] μ)) ∧ (¬ (wr 0 = 0) → (zin 0 n x1 x4 ∧ ∀ v9 : Int, v9 = zor x3 (zshl 1 (μ x1 (wr x4))) → pX3_roundsOf G n K 10 [some (Rv G 45), some (Rv G x1), some (Iv v6), some (Iv v9), some (Iv (x4 + 1)), none] [] μ))))) ∧ (¬ (wr 0 = 0) → ((0 ≤ wr x4 ∧ wr x4 < 5) ∧ zin 0 n x1 x4 ∧ (0 ≤ wr (μ x1 (wr x4)) ∧ wr (μ x1 (wr x4)) < 5) ∧ ∀ v13 : Int, v13 = min (wr x2) (wr (μ (52 + 1 + wr x4) (wr (μ x1 (wr x4))))) → ((wr 0 = 0 → (pX3_roundsOf G n K 10 [some (Rv G 45), some (Rv G x1), some (Iv v13), some (Iv x3), some (Iv (x4 + 1)), none] [] μ)) ∧ (¬ (wr 0 = 0) → (zin 0 n x1 x4 ∧ ∀ v16 : Int, v16 = zor x3 (zshl 1 (μ x1 (wr x4))) → pX3_roundsOf G n K 10 [some (Rv G 45), some (Rv G x1), some (Iv v13), some (Iv v16), some (Iv (x4 + 1)), none] [] μ)))))))) ∧ (¬ (wr (μ x1 (wr x4)) = wr ((-9))) → (((wr 1 = 0 → ((0 ≤ wr x4 ∧ wr x4 < 5) ∧ ∀ v19 : Int, v19 = min (wr x2) (wr ((μ 45 3) - (μ 58 (wr x4)))) → ((wr 1 = 0 → (pX3_roundsOf G n K 10 [some (Rv G 45), some (Rv G x1), some (Iv v19), some (Iv x3), some (Iv (x4 + 1)), none] [] μ)) ∧ (¬ (wr 1 = 0) → (zin 0 n x1 x4 ∧ ∀ v22 : Int, v22 = zor x3 (zshl 1 (μ x1 (wr x4))) → pX3_roundsOf G n K 10 [some (Rv G 45), some (Rv G x1), some (Iv v19), some (Iv v22), some (Iv (x4 + 1)), none] [] μ))))) ∧ (¬ (wr 1 = 0) → ((0 ≤ wr x4 ∧ wr x4 < 5) ∧ zin 0 n x1 x4 ∧ (0 ≤ wr (μ x1 (wr x4)) ∧ wr (μ x1 (wr x4)) < 5) ∧ ∀ v26 : Int, v26 = min (wr x2) (wr (μ (52 + 1 + wr x4) (wr (μ x1 (wr x4))))) → ((wr 1 = 0 → (pX3_roundsOf G n K 10 [some (Rv G 45), some (Rv G x1), some (Iv v26), some (Iv x3), some (Iv (x4 + 1)), none] [] μ)) ∧ (¬ (wr 1 = 0) → (zin 0 n x1 x4 ∧ ∀ v29 : Int, v29 = zor x3 (zshl 1 (μ x1 (wr x4))) → pX3_roundsOf G n K 10 [some (Rv G 45), some (Rv G x1), some (Iv v26), some (Iv v29), some (Iv (x4 + 1)), none] [] μ)))))))))))))) :
    pX3_roundsOf G n K 10 [some (Rv G 45), some (Rv G x1), some (Iv x2), some (Iv x3), some (Iv x4), none] [] μ := by
  refine Z_iload dX3_roundsOf_10 rfl ?_
  refine Z_aload_n dX3_roundsOf_12 rfl ?_
  refine Y_gi 0 zcX3 fl_X3_9 ⟨by decide, by omega⟩ rfl rfl rfl (by decide) dX3_roundsOf_13 rfl ?_
  refine Z_icmp_ge (tgt := 92) dX3_roundsOf_16 (by decide) (fun c1 => ?_) (fun c1 => ?_)
  · have h := h.1 c1
    refine Z_iconst dX3_roundsOf_92 ?_
    refine Z_istore (lv2 := [some (Rv G 45), some (Rv G x1), some (Iv x2), some (Iv x3), some (Iv 0), none]) dX3_roundsOf_93 rfl (by decide) rfl ?_
    exact Z_cut h ⟨rfl, trivial, rfl, rfl, rfl, trivial, trivial⟩
  · have h := h.2 c1
    refine Z_aload_n dX3_roundsOf_19 rfl ?_
    refine Z_iload dX3_roundsOf_20 rfl ?_
    obtain ⟨b2, h⟩ := h
    refine Z_iald b2 dX3_roundsOf_22 ?_
    refine Z_bipush dX3_roundsOf_23 (by decide) ?_
    refine Z_icmp_eq (tgt := 32) dX3_roundsOf_25 (by decide) (fun c3 => ?_) (fun c3 => ?_)
    · have h := h.1 c3
      refine Z_iconst dX3_roundsOf_32 ?_
      refine Z_istore (lv2 := [some (Rv G 45), some (Rv G x1), some (Iv x2), some (Iv x3), some (Iv x4), some (Iv 0)]) dX3_roundsOf_33 rfl (by decide) rfl ?_
      refine Z_iload_n dX3_roundsOf_35 rfl ?_
      refine Z_iload dX3_roundsOf_36 rfl ?_
      refine Z_if_eq (tgt := 56) dX3_roundsOf_38 (by decide) (fun c4 => ?_) (fun c4 => ?_)
      · have h := h.1 c4
        refine Z_aload_n dX3_roundsOf_56 rfl ?_
        refine Y_gi 3 zcX3 fl_X3_22 ⟨by decide, by omega⟩ rfl rfl rfl (by decide) dX3_roundsOf_57 rfl ?_
        refine Z_aload_n dX3_roundsOf_60 rfl ?_
        refine Z_gr (t := 58) zcX3 fl_X3_33 ⟨by decide, by omega⟩ rfl rfl rfl (by decide) (by decide) dX3_roundsOf_61 ?_
        refine Z_iload dX3_roundsOf_64 rfl ?_
        obtain ⟨b5, h⟩ := h
        refine Z_iald (zin_c (by decide) (by omega) (by decide) (by decide) b5) dX3_roundsOf_66 ?_
        refine Z_isub dX3_roundsOf_67 ?_
        refine Z_min lk_X3_96 mt1_min mt2 mt3_min ⟨by decide, Nat.le_of_ble_eq_true rfl⟩ ⟨Nat.zero_le _, Nat.zero_le _⟩ dX3_roundsOf_68 ?_
        obtain ⟨v6, ev6⟩ : ∃ z : Int, z = min (wr x2) (wr ((μ 45 3) - (μ 58 (wr x4)))) := ⟨_, rfl⟩
        have h := h v6 ev6
        refine Z_nmi ev6 ?_
        refine Z_istore_n (lv2 := [some (Rv G 45), some (Rv G x1), some (Iv v6), some (Iv x3), some (Iv x4), some (Iv 0)]) dX3_roundsOf_71 rfl (by decide) rfl ?_
        refine Z_iload dX3_roundsOf_72 rfl ?_
        refine Z_if_eq (tgt := 86) dX3_roundsOf_74 (by decide) (fun c7 => ?_) (fun c7 => ?_)
        · have h := h.1 c7
          refine Z_iinc (lv2 := [some (Rv G 45), some (Rv G x1), some (Iv v6), some (Iv x3), some (Iv (x4 + 1)), some (Iv 0)]) dX3_roundsOf_86 rfl rfl (by decide) rfl ?_
          refine Z_goto (tgt := 10) dX3_roundsOf_89 (by decide) ?_
          exact Z_cut h ⟨rfl, rfl, rfl, rfl, rfl, trivial, trivial⟩
        · have h := h.2 c7
          refine Z_iload_n dX3_roundsOf_77 rfl ?_
          refine Z_iconst dX3_roundsOf_78 ?_
          refine Z_aload_n dX3_roundsOf_79 rfl ?_
          refine Z_iload dX3_roundsOf_80 rfl ?_
          obtain ⟨b8, h⟩ := h
          refine Z_iald b8 dX3_roundsOf_82 ?_
          refine Z_ishl dX3_roundsOf_83 ?_
          refine Z_ior dX3_roundsOf_84 ?_
          obtain ⟨v9, ev9⟩ : ∃ z : Int, z = zor x3 (zshl 1 (μ x1 (wr x4))) := ⟨_, rfl⟩
          have h := h v9 ev9
          refine Z_nmi ev9 ?_
          refine Z_istore_n (lv2 := [some (Rv G 45), some (Rv G x1), some (Iv v6), some (Iv v9), some (Iv x4), some (Iv 0)]) dX3_roundsOf_85 rfl (by decide) rfl ?_
          refine Z_iinc (lv2 := [some (Rv G 45), some (Rv G x1), some (Iv v6), some (Iv v9), some (Iv (x4 + 1)), some (Iv 0)]) dX3_roundsOf_86 rfl rfl (by decide) rfl ?_
          refine Z_goto (tgt := 10) dX3_roundsOf_89 (by decide) ?_
          exact Z_cut h ⟨rfl, rfl, rfl, rfl, rfl, trivial, trivial⟩
      · have h := h.2 c4
        refine Z_aload_n dX3_roundsOf_41 rfl ?_
        refine Z_gr (t := 52) zcX3 fl_X3_30 ⟨by decide, by omega⟩ rfl rfl rfl (by decide) (by decide) dX3_roundsOf_42 ?_
        refine Z_iload dX3_roundsOf_45 rfl ?_
        obtain ⟨b10, h⟩ := h
        refine Z_aald3 (zin_c (by decide) (by omega) (by decide) (by decide) b10) dX3_roundsOf_47 ?_
        refine Z_aload_n dX3_roundsOf_48 rfl ?_
        refine Z_iload dX3_roundsOf_49 rfl ?_
        obtain ⟨b11, h⟩ := h
        refine Z_iald b11 dX3_roundsOf_51 ?_
        obtain ⟨b12, h⟩ := h
        refine Z_iald (zin_c (zr_52 b10).1 (by have := b10; omega) (zr_52 b10).2.1 (zr_52 b10).2.2 b12) dX3_roundsOf_52 ?_
        refine Z_goto (tgt := 68) dX3_roundsOf_53 (by decide) ?_
        refine Z_min lk_X3_96 mt1_min mt2 mt3_min ⟨by decide, Nat.le_of_ble_eq_true rfl⟩ ⟨Nat.zero_le _, Nat.zero_le _⟩ dX3_roundsOf_68 ?_
        obtain ⟨v13, ev13⟩ : ∃ z : Int, z = min (wr x2) (wr (μ (52 + 1 + wr x4) (wr (μ x1 (wr x4))))) := ⟨_, rfl⟩
        have h := h v13 ev13
        refine Z_nmi ev13 ?_
        refine Z_istore_n (lv2 := [some (Rv G 45), some (Rv G x1), some (Iv v13), some (Iv x3), some (Iv x4), some (Iv 0)]) dX3_roundsOf_71 rfl (by decide) rfl ?_
        refine Z_iload dX3_roundsOf_72 rfl ?_
        refine Z_if_eq (tgt := 86) dX3_roundsOf_74 (by decide) (fun c14 => ?_) (fun c14 => ?_)
        · have h := h.1 c14
          refine Z_iinc (lv2 := [some (Rv G 45), some (Rv G x1), some (Iv v13), some (Iv x3), some (Iv (x4 + 1)), some (Iv 0)]) dX3_roundsOf_86 rfl rfl (by decide) rfl ?_
          refine Z_goto (tgt := 10) dX3_roundsOf_89 (by decide) ?_
          exact Z_cut h ⟨rfl, rfl, rfl, rfl, rfl, trivial, trivial⟩
        · have h := h.2 c14
          refine Z_iload_n dX3_roundsOf_77 rfl ?_
          refine Z_iconst dX3_roundsOf_78 ?_
          refine Z_aload_n dX3_roundsOf_79 rfl ?_
          refine Z_iload dX3_roundsOf_80 rfl ?_
          obtain ⟨b15, h⟩ := h
          refine Z_iald b15 dX3_roundsOf_82 ?_
          refine Z_ishl dX3_roundsOf_83 ?_
          refine Z_ior dX3_roundsOf_84 ?_
          obtain ⟨v16, ev16⟩ : ∃ z : Int, z = zor x3 (zshl 1 (μ x1 (wr x4))) := ⟨_, rfl⟩
          have h := h v16 ev16
          refine Z_nmi ev16 ?_
          refine Z_istore_n (lv2 := [some (Rv G 45), some (Rv G x1), some (Iv v13), some (Iv v16), some (Iv x4), some (Iv 0)]) dX3_roundsOf_85 rfl (by decide) rfl ?_
          refine Z_iinc (lv2 := [some (Rv G 45), some (Rv G x1), some (Iv v13), some (Iv v16), some (Iv (x4 + 1)), some (Iv 0)]) dX3_roundsOf_86 rfl rfl (by decide) rfl ?_
          refine Z_goto (tgt := 10) dX3_roundsOf_89 (by decide) ?_
          exact Z_cut h ⟨rfl, rfl, rfl, rfl, rfl, trivial, trivial⟩
    · have h := h.2 c3
      refine Z_iconst dX3_roundsOf_28 ?_
      refine Z_goto (tgt := 33) dX3_roundsOf_29 (by decide) ?_
      refine Z_istore (lv2 := [some (Rv G 45), some (Rv G x1), some (Iv x2), some (Iv x3), some (Iv x4), some (Iv 1)]) dX3_roundsOf_33 rfl (by decide) rfl ?_
      refine Z_iload_n dX3_roundsOf_35 rfl ?_
      refine Z_iload dX3_roundsOf_36 rfl ?_
      refine Z_if_eq (tgt := 56) dX3_roundsOf_38 (by decide) (fun c17 => ?_) (fun c17 => ?_)
      · have h := h.1 c17
        refine Z_aload_n dX3_roundsOf_56 rfl ?_
        refine Y_gi 3 zcX3 fl_X3_22 ⟨by decide, by omega⟩ rfl rfl rfl (by decide) dX3_roundsOf_57 rfl ?_
        refine Z_aload_n dX3_roundsOf_60 rfl ?_
        refine Z_gr (t := 58) zcX3 fl_X3_33 ⟨by decide, by omega⟩ rfl rfl rfl (by decide) (by decide) dX3_roundsOf_61 ?_
        refine Z_iload dX3_roundsOf_64 rfl ?_
        obtain ⟨b18, h⟩ := h
        refine Z_iald (zin_c (by decide) (by omega) (by decide) (by decide) b18) dX3_roundsOf_66 ?_
        refine Z_isub dX3_roundsOf_67 ?_
        refine Z_min lk_X3_96 mt1_min mt2 mt3_min ⟨by decide, Nat.le_of_ble_eq_true rfl⟩ ⟨Nat.zero_le _, Nat.zero_le _⟩ dX3_roundsOf_68 ?_
        obtain ⟨v19, ev19⟩ : ∃ z : Int, z = min (wr x2) (wr ((μ 45 3) - (μ 58 (wr x4)))) := ⟨_, rfl⟩
        have h := h v19 ev19
        refine Z_nmi ev19 ?_
        refine Z_istore_n (lv2 := [some (Rv G 45), some (Rv G x1), some (Iv v19), some (Iv x3), some (Iv x4), some (Iv 1)]) dX3_roundsOf_71 rfl (by decide) rfl ?_
        refine Z_iload dX3_roundsOf_72 rfl ?_
        refine Z_if_eq (tgt := 86) dX3_roundsOf_74 (by decide) (fun c20 => ?_) (fun c20 => ?_)
        · have h := h.1 c20
          refine Z_iinc (lv2 := [some (Rv G 45), some (Rv G x1), some (Iv v19), some (Iv x3), some (Iv (x4 + 1)), some (Iv 1)]) dX3_roundsOf_86 rfl rfl (by decide) rfl ?_
          refine Z_goto (tgt := 10) dX3_roundsOf_89 (by decide) ?_
          exact Z_cut h ⟨rfl, rfl, rfl, rfl, rfl, trivial, trivial⟩
        · have h := h.2 c20
          refine Z_iload_n dX3_roundsOf_77 rfl ?_
          refine Z_iconst dX3_roundsOf_78 ?_
          refine Z_aload_n dX3_roundsOf_79 rfl ?_
          refine Z_iload dX3_roundsOf_80 rfl ?_
          obtain ⟨b21, h⟩ := h
          refine Z_iald b21 dX3_roundsOf_82 ?_
          refine Z_ishl dX3_roundsOf_83 ?_
          refine Z_ior dX3_roundsOf_84 ?_
          obtain ⟨v22, ev22⟩ : ∃ z : Int, z = zor x3 (zshl 1 (μ x1 (wr x4))) := ⟨_, rfl⟩
          have h := h v22 ev22
          refine Z_nmi ev22 ?_
          refine Z_istore_n (lv2 := [some (Rv G 45), some (Rv G x1), some (Iv v19), some (Iv v22), some (Iv x4), some (Iv 1)]) dX3_roundsOf_85 rfl (by decide) rfl ?_
          refine Z_iinc (lv2 := [some (Rv G 45), some (Rv G x1), some (Iv v19), some (Iv v22), some (Iv (x4 + 1)), some (Iv 1)]) dX3_roundsOf_86 rfl rfl (by decide) rfl ?_
          refine Z_goto (tgt := 10) dX3_roundsOf_89 (by decide) ?_
          exact Z_cut h ⟨rfl, rfl, rfl, rfl, rfl, trivial, trivial⟩
      · have h := h.2 c17
        refine Z_aload_n dX3_roundsOf_41 rfl ?_
        refine Z_gr (t := 52) zcX3 fl_X3_30 ⟨by decide, by omega⟩ rfl rfl rfl (by decide) (by decide) dX3_roundsOf_42 ?_
        refine Z_iload dX3_roundsOf_45 rfl ?_
        obtain ⟨b23, h⟩ := h
        refine Z_aald3 (zin_c (by decide) (by omega) (by decide) (by decide) b23) dX3_roundsOf_47 ?_
        refine Z_aload_n dX3_roundsOf_48 rfl ?_
        refine Z_iload dX3_roundsOf_49 rfl ?_
        obtain ⟨b24, h⟩ := h
        refine Z_iald b24 dX3_roundsOf_51 ?_
        obtain ⟨b25, h⟩ := h
        refine Z_iald (zin_c (zr_52 b23).1 (by have := b23; omega) (zr_52 b23).2.1 (zr_52 b23).2.2 b25) dX3_roundsOf_52 ?_
        refine Z_goto (tgt := 68) dX3_roundsOf_53 (by decide) ?_
        refine Z_min lk_X3_96 mt1_min mt2 mt3_min ⟨by decide, Nat.le_of_ble_eq_true rfl⟩ ⟨Nat.zero_le _, Nat.zero_le _⟩ dX3_roundsOf_68 ?_
        obtain ⟨v26, ev26⟩ : ∃ z : Int, z = min (wr x2) (wr (μ (52 + 1 + wr x4) (wr (μ x1 (wr x4))))) := ⟨_, rfl⟩
        have h := h v26 ev26
        refine Z_nmi ev26 ?_
        refine Z_istore_n (lv2 := [some (Rv G 45), some (Rv G x1), some (Iv v26), some (Iv x3), some (Iv x4), some (Iv 1)]) dX3_roundsOf_71 rfl (by decide) rfl ?_
        refine Z_iload dX3_roundsOf_72 rfl ?_
        refine Z_if_eq (tgt := 86) dX3_roundsOf_74 (by decide) (fun c27 => ?_) (fun c27 => ?_)
        · have h := h.1 c27
          refine Z_iinc (lv2 := [some (Rv G 45), some (Rv G x1), some (Iv v26), some (Iv x3), some (Iv (x4 + 1)), some (Iv 1)]) dX3_roundsOf_86 rfl rfl (by decide) rfl ?_
          refine Z_goto (tgt := 10) dX3_roundsOf_89 (by decide) ?_
          exact Z_cut h ⟨rfl, rfl, rfl, rfl, rfl, trivial, trivial⟩
        · have h := h.2 c27
          refine Z_iload_n dX3_roundsOf_77 rfl ?_
          refine Z_iconst dX3_roundsOf_78 ?_
          refine Z_aload_n dX3_roundsOf_79 rfl ?_
          refine Z_iload dX3_roundsOf_80 rfl ?_
          obtain ⟨b28, h⟩ := h
          refine Z_iald b28 dX3_roundsOf_82 ?_
          refine Z_ishl dX3_roundsOf_83 ?_
          refine Z_ior dX3_roundsOf_84 ?_
          obtain ⟨v29, ev29⟩ : ∃ z : Int, z = zor x3 (zshl 1 (μ x1 (wr x4))) := ⟨_, rfl⟩
          have h := h v29 ev29
          refine Z_nmi ev29 ?_
          refine Z_istore_n (lv2 := [some (Rv G 45), some (Rv G x1), some (Iv v26), some (Iv v29), some (Iv x4), some (Iv 1)]) dX3_roundsOf_85 rfl (by decide) rfl ?_
          refine Z_iinc (lv2 := [some (Rv G 45), some (Rv G x1), some (Iv v26), some (Iv v29), some (Iv (x4 + 1)), some (Iv 1)]) dX3_roundsOf_86 rfl rfl (by decide) rfl ?_
          refine Z_goto (tgt := 10) dX3_roundsOf_89 (by decide) ?_
          exact Z_cut h ⟨rfl, rfl, rfl, rfl, rfl, trivial, trivial⟩
theorem bX3_roundsOf_95 {G : zG} {n : Nat} (hn : 99 ≤ n) {x2 x3 x4 : Int} {μ : zM} {K : Int → zM → Prop}
    (h : (((wr (μ 45 0) ≤ wr x4 → (K x2 μ)) ∧ (¬ (wr (μ 45 0) ≤ wr x4) → (((¬ wr (zand (zshr x3 x4) 1) = 0 → (pX3_roundsOf G n K 95 [some (Rv G 45), none, some (Iv x2), some (Iv x3), some (Iv (x4 + 1)), none] [] μ)) ∧ (wr (zand (zshr x3 x4) 1) = 0 → ((0 ≤ wr x4 ∧ wr x4 < 5) ∧ ∀ v4 : Int, v4 = min (wr x2) (wr ((μ 45 3) - (μ 59 (wr x4)))) → pX3_roundsOf G n K 95 [some (Rv G 45), none, some (Iv v4), some (Iv x3), some (Iv (x4 + 1)), none] [] μ)))))))) :
    pX3_roundsOf G n K 95 [some (Rv G 45), none, some (Iv x2), some (Iv x3), some (Iv x4), none] [] μ := by
  refine Z_iload dX3_roundsOf_95 rfl ?_
  refine Z_aload_n dX3_roundsOf_97 rfl ?_
  refine Y_gi 0 zcX3 fl_X3_9 ⟨by decide, by omega⟩ rfl rfl rfl (by decide) dX3_roundsOf_98 rfl ?_
  refine Z_icmp_ge (tgt := 136) dX3_roundsOf_101 (by decide) (fun c1 => ?_) (fun c1 => ?_)
  · have h := h.1 c1
    refine Z_iload_n dX3_roundsOf_136 rfl ?_
    exact Z_ireturn dX3_roundsOf_137 ⟨_, rfl, h⟩
  · have h := h.2 c1
    refine Z_iload_n dX3_roundsOf_104 rfl ?_
    refine Z_iload dX3_roundsOf_105 rfl ?_
    refine Z_ishr dX3_roundsOf_107 ?_
    refine Z_iconst dX3_roundsOf_108 ?_
    refine Z_iand dX3_roundsOf_109 ?_
    refine Z_if_ne (tgt := 130) dX3_roundsOf_110 (by decide) (fun c2 => ?_) (fun c2 => ?_)
    · have h := h.1 c2
      refine Z_iinc (lv2 := [some (Rv G 45), none, some (Iv x2), some (Iv x3), some (Iv (x4 + 1)), none]) dX3_roundsOf_130 rfl rfl (by decide) rfl ?_
      refine Z_goto (tgt := 95) dX3_roundsOf_133 (by decide) ?_
      exact Z_cut h ⟨rfl, trivial, rfl, rfl, rfl, trivial, trivial⟩
    · have h := h.2 c2
      refine Z_iload_n dX3_roundsOf_113 rfl ?_
      refine Z_aload_n dX3_roundsOf_114 rfl ?_
      refine Y_gi 3 zcX3 fl_X3_22 ⟨by decide, by omega⟩ rfl rfl rfl (by decide) dX3_roundsOf_115 rfl ?_
      refine Z_aload_n dX3_roundsOf_118 rfl ?_
      refine Z_gr (t := 59) zcX3 fl_X3_37 ⟨by decide, by omega⟩ rfl rfl rfl (by decide) (by decide) dX3_roundsOf_119 ?_
      refine Z_iload dX3_roundsOf_122 rfl ?_
      obtain ⟨b3, h⟩ := h
      refine Z_iald (zin_c (by decide) (by omega) (by decide) (by decide) b3) dX3_roundsOf_124 ?_
      refine Z_isub dX3_roundsOf_125 ?_
      refine Z_min lk_X3_96 mt1_min mt2 mt3_min ⟨by decide, Nat.le_of_ble_eq_true rfl⟩ ⟨Nat.zero_le _, Nat.zero_le _⟩ dX3_roundsOf_126 ?_
      obtain ⟨v4, ev4⟩ : ∃ z : Int, z = min (wr x2) (wr ((μ 45 3) - (μ 59 (wr x4)))) := ⟨_, rfl⟩
      have h := h v4 ev4
      refine Z_nmi ev4 ?_
      refine Z_istore_n (lv2 := [some (Rv G 45), none, some (Iv v4), some (Iv x3), some (Iv x4), none]) dX3_roundsOf_129 rfl (by decide) rfl ?_
      refine Z_iinc (lv2 := [some (Rv G 45), none, some (Iv v4), some (Iv x3), some (Iv (x4 + 1)), none]) dX3_roundsOf_130 rfl rfl (by decide) rfl ?_
      refine Z_goto (tgt := 95) dX3_roundsOf_133 (by decide) ?_
      exact Z_cut h ⟨rfl, trivial, rfl, rfl, rfl, trivial, trivial⟩
abbrev mX3_wholeSpan (G : zG) (n : Nat) (μ : zM) (K : Int → zM → Prop) : Prop := zMt G n 3 yX3_wholeSpan cX3_wholeSpan 1 (some .int) [Rv G 45] μ (zKi K)
abbrev pX3_wholeSpan (G : zG) (n : Nat) (K : Int → zM → Prop) (pc : Nat) (lv : List (Option Value)) (st : List Value) (μ : zM) : Prop := Z G (zrm 3 0 0) RX3 "wholeSpan" cX3_wholeSpan 1 (some .int) (zPh G n (zKi K)) 0 0 pc lv st (zE G n μ)
theorem eX3_wholeSpan {G : zG} {n : Nat} (hn : 99 ≤ n) {μ : zM} {K : Int → zM → Prop}
    (h : (mX3_addUp G n 46 μ (fun μ2 => K (μ2 45 3) μ2))) :
    mX3_wholeSpan G n  μ K := by
  refine zMt_of (lv := [some (Rv G 45)]) (by decide) rfl (Nat.le_of_ble_eq_true rfl) ?_
  show pX3_wholeSpan G n K 0 [some (Rv G 45)] [] μ
  refine Z_aload_n dX3_wholeSpan_0 rfl ?_
  refine Z_aload_n dX3_wholeSpan_1 rfl ?_
  refine Z_gr (t := 46) zcX3 fl_X3_27 ⟨by decide, by omega⟩ rfl rfl rfl (by decide) (by decide) dX3_wholeSpan_2 ?_
  refine Z_callVv h md_X3_addUp sv_X3_addUp lk_X3_55 zcX3 rfl ⟨by decide, by omega⟩ rfl rfl rfl rfl (Nat.le_of_ble_eq_true rfl) dX3_wholeSpan_5 ⟨by decide, Nat.le_of_ble_eq_true rfl⟩ ⟨Nat.zero_le _, Nat.zero_le _⟩ ?_
  intro μ2 h
  refine Z_aload_n dX3_wholeSpan_8 rfl ?_
  refine Y_gi 3 zcX3 fl_X3_22 ⟨by decide, by omega⟩ rfl rfl rfl (by decide) dX3_wholeSpan_9 rfl ?_
  exact Z_ireturn dX3_wholeSpan_12 ⟨_, rfl, h⟩
abbrev mX3_findWhatGoesOn (G : zG) (n : Nat) (μ : zM) (K : zM → Prop) : Prop := zMt G n 3 yX3_findWhatGoesOn cX3_findWhatGoesOn 4 none [Rv G 45] μ (zKv K)
abbrev pX3_findWhatGoesOn (G : zG) (n : Nat) (K : zM → Prop) (pc : Nat) (lv : List (Option Value)) (st : List Value) (μ : zM) : Prop := Z G (zrm 3 0 0) RX3 "findWhatGoesOn" cX3_findWhatGoesOn 4 none (zPh G n (zKv K)) 0 0 pc lv st (zE G n μ)
theorem eX3_findWhatGoesOn {G : zG} {n : Nat} (hn : 99 ≤ n) {μ : zM} {K : zM → Prop}
    (h : (pX3_findWhatGoesOn G n K 4 [some (Rv G 45), some (Iv 0), some (Iv 0), none] [] μ)) :
    mX3_findWhatGoesOn G n  μ K := by
  refine zMt_of (lv := [some (Rv G 45), none, none, none]) (by decide) rfl (Nat.le_of_ble_eq_true rfl) ?_
  show pX3_findWhatGoesOn G n K 0 [some (Rv G 45), none, none, none] [] μ
  refine Z_iconst dX3_findWhatGoesOn_0 ?_
  refine Z_istore_n (lv2 := [some (Rv G 45), some (Iv 0), none, none]) dX3_findWhatGoesOn_1 rfl (by decide) rfl ?_
  refine Z_iconst dX3_findWhatGoesOn_2 ?_
  refine Z_istore_n (lv2 := [some (Rv G 45), some (Iv 0), some (Iv 0), none]) dX3_findWhatGoesOn_3 rfl (by decide) rfl ?_
  exact Z_cut h ⟨rfl, rfl, rfl, trivial, trivial⟩
theorem bX3_findWhatGoesOn_4 {G : zG} {n : Nat} (hn : 99 ≤ n) {x1 x2 : Int} {μ : zM} {K : zM → Prop}
    (h : (((wr (μ 45 0) ≤ wr x2 → ((0 ≤ wr (μ 45 0) ∧ wr (μ 45 0) < 6) ∧ ∀ μ3 : zM, μ3 = zu μ 98 (wr (μ 45 0)) 0 → pX3_findWhatGoesOn G n K 49 [some (Rv G 45), some (Iv x1), some (Iv 0), none] [] μ3)) ∧ (¬ (wr (μ 45 0) ≤ wr x2) → ((0 ≤ wr x2 ∧ wr x2 < 5) ∧ ((¬ wr (μ 59 (wr x2)) = wr (μ 45 3) → (pX3_findWhatGoesOn G n K 4 [some (Rv G 45), some (Iv x1), some (Iv (x2 + 1)), none] [] μ)) ∧ (wr (μ 59 (wr x2)) = wr (μ 45 3) → (∀ v6 : Int, v6 = zor x1 (zshl 1 x2) → pX3_findWhatGoesOn G n K 4 [some (Rv G 45), some (Iv v6), some (Iv (x2 + 1)), none] [] μ)))))))) :
    pX3_findWhatGoesOn G n K 4 [some (Rv G 45), some (Iv x1), some (Iv x2), none] [] μ := by
  refine Z_iload_n dX3_findWhatGoesOn_4 rfl ?_
  refine Z_aload_n dX3_findWhatGoesOn_5 rfl ?_
  refine Y_gi 0 zcX3 fl_X3_9 ⟨by decide, by omega⟩ rfl rfl rfl (by decide) dX3_findWhatGoesOn_6 rfl ?_
  refine Z_icmp_ge (tgt := 37) dX3_findWhatGoesOn_9 (by decide) (fun c1 => ?_) (fun c1 => ?_)
  · have h := h.1 c1
    refine Z_aload_n dX3_findWhatGoesOn_37 rfl ?_
    refine Z_gr (t := 98) zcX3 fl_X3_46 ⟨by decide, by omega⟩ rfl rfl rfl (by decide) (by decide) dX3_findWhatGoesOn_38 ?_
    refine Z_aload_n dX3_findWhatGoesOn_41 rfl ?_
    refine Y_gi 0 zcX3 fl_X3_9 ⟨by decide, by omega⟩ rfl rfl rfl (by decide) dX3_findWhatGoesOn_42 rfl ?_
    refine Z_iconst dX3_findWhatGoesOn_45 ?_
    obtain ⟨b2, h⟩ := h
    refine Z_iast (zin_c (by decide) (by omega) (by decide) (by decide) b2) dX3_findWhatGoesOn_46 ?_
    obtain ⟨μ3, eμ3⟩ : ∃ z : zM, z = zu μ 98 (wr (μ 45 0)) 0 := ⟨_, rfl⟩
    have h := h μ3 eμ3
    refine Z_mem eμ3 ?_
    refine Z_iconst dX3_findWhatGoesOn_47 ?_
    refine Z_istore_n (lv2 := [some (Rv G 45), some (Iv x1), some (Iv 0), none]) dX3_findWhatGoesOn_48 rfl (by decide) rfl ?_
    exact Z_cut h ⟨rfl, rfl, rfl, trivial, trivial⟩
  · have h := h.2 c1
    refine Z_aload_n dX3_findWhatGoesOn_12 rfl ?_
    refine Z_gr (t := 59) zcX3 fl_X3_37 ⟨by decide, by omega⟩ rfl rfl rfl (by decide) (by decide) dX3_findWhatGoesOn_13 ?_
    refine Z_iload_n dX3_findWhatGoesOn_16 rfl ?_
    obtain ⟨b4, h⟩ := h
    refine Z_iald (zin_c (by decide) (by omega) (by decide) (by decide) b4) dX3_findWhatGoesOn_17 ?_
    refine Z_aload_n dX3_findWhatGoesOn_18 rfl ?_
    refine Y_gi 3 zcX3 fl_X3_22 ⟨by decide, by omega⟩ rfl rfl rfl (by decide) dX3_findWhatGoesOn_19 rfl ?_
    refine Z_icmp_ne (tgt := 31) dX3_findWhatGoesOn_22 (by decide) (fun c5 => ?_) (fun c5 => ?_)
    · have h := h.1 c5
      refine Z_iinc (lv2 := [some (Rv G 45), some (Iv x1), some (Iv (x2 + 1)), none]) dX3_findWhatGoesOn_31 rfl rfl (by decide) rfl ?_
      refine Z_goto (tgt := 4) dX3_findWhatGoesOn_34 (by decide) ?_
      exact Z_cut h ⟨rfl, rfl, rfl, trivial, trivial⟩
    · have h := h.2 c5
      refine Z_iload_n dX3_findWhatGoesOn_25 rfl ?_
      refine Z_iconst dX3_findWhatGoesOn_26 ?_
      refine Z_iload_n dX3_findWhatGoesOn_27 rfl ?_
      refine Z_ishl dX3_findWhatGoesOn_28 ?_
      refine Z_ior dX3_findWhatGoesOn_29 ?_
      obtain ⟨v6, ev6⟩ : ∃ z : Int, z = zor x1 (zshl 1 x2) := ⟨_, rfl⟩
      have h := h v6 ev6
      refine Z_nmi ev6 ?_
      refine Z_istore_n (lv2 := [some (Rv G 45), some (Iv v6), some (Iv x2), none]) dX3_findWhatGoesOn_30 rfl (by decide) rfl ?_
      refine Z_iinc (lv2 := [some (Rv G 45), some (Iv v6), some (Iv (x2 + 1)), none]) dX3_findWhatGoesOn_31 rfl rfl (by decide) rfl ?_
      refine Z_goto (tgt := 4) dX3_findWhatGoesOn_34 (by decide) ?_
      exact Z_cut h ⟨rfl, rfl, rfl, trivial, trivial⟩
theorem bX3_findWhatGoesOn_49 {G : zG} {n : Nat} (hn : 99 ≤ n) {x1 x2 : Int} {μ : zM} {K : zM → Prop}
    (h : (((wr (zshl 1 (μ 45 0)) ≤ wr x2 → (∀ v2 : Int, v2 = (μ 45 0) - 1 → pX3_findWhatGoesOn G n K 95 [some (Rv G 45), none, some (Iv v2), none] [] μ)) ∧ (¬ (wr (zshl 1 (μ 45 0)) ≤ wr x2) → (((¬ wr (zand x1 (zxor x2 ((-1)))) = 0 → (pX3_findWhatGoesOn G n K 49 [some (Rv G 45), some (Iv x1), some (Iv (x2 + 1)), none] [] μ)) ∧ (wr (zand x1 (zxor x2 ((-1)))) = 0 → ((0 ≤ wr (μ 45 0) ∧ wr (μ 45 0) < 6) ∧ (0 ≤ wr (μ 45 0) ∧ wr (μ 45 0) < 6) ∧ ∀ μ6 : zM, μ6 = zu μ 98 (wr (μ 45 0)) (zor (μ 98 (wr (μ 45 0))) (zshl 1 x2)) → pX3_findWhatGoesOn G n K 49 [some (Rv G 45), some (Iv x1), some (Iv (x2 + 1)), none] [] μ6)))))))) :
    pX3_findWhatGoesOn G n K 49 [some (Rv G 45), some (Iv x1), some (Iv x2), none] [] μ := by
  refine Z_iload_n dX3_findWhatGoesOn_49 rfl ?_
  refine Z_iconst dX3_findWhatGoesOn_50 ?_
  refine Z_aload_n dX3_findWhatGoesOn_51 rfl ?_
  refine Y_gi 0 zcX3 fl_X3_9 ⟨by decide, by omega⟩ rfl rfl rfl (by decide) dX3_findWhatGoesOn_52 rfl ?_
  refine Z_ishl dX3_findWhatGoesOn_55 ?_
  refine Z_icmp_ge (tgt := 88) dX3_findWhatGoesOn_56 (by decide) (fun c1 => ?_) (fun c1 => ?_)
  · have h := h.1 c1
    refine Z_aload_n dX3_findWhatGoesOn_88 rfl ?_
    refine Y_gi 0 zcX3 fl_X3_9 ⟨by decide, by omega⟩ rfl rfl rfl (by decide) dX3_findWhatGoesOn_89 rfl ?_
    refine Z_iconst dX3_findWhatGoesOn_92 ?_
    refine Z_isub dX3_findWhatGoesOn_93 ?_
    obtain ⟨v2, ev2⟩ : ∃ z : Int, z = (μ 45 0) - 1 := ⟨_, rfl⟩
    have h := h v2 ev2
    refine Z_nmi ev2 ?_
    refine Z_istore_n (lv2 := [some (Rv G 45), some (Iv x1), some (Iv v2), none]) dX3_findWhatGoesOn_94 rfl (by decide) rfl ?_
    exact Z_cut h ⟨rfl, trivial, rfl, trivial, trivial⟩
  · have h := h.2 c1
    refine Z_iload_n dX3_findWhatGoesOn_59 rfl ?_
    refine Z_iload_n dX3_findWhatGoesOn_60 rfl ?_
    refine Z_iconst dX3_findWhatGoesOn_61 ?_
    refine Z_ixor dX3_findWhatGoesOn_62 ?_
    refine Z_iand dX3_findWhatGoesOn_63 ?_
    refine Z_if_ne (tgt := 82) dX3_findWhatGoesOn_64 (by decide) (fun c3 => ?_) (fun c3 => ?_)
    · have h := h.1 c3
      refine Z_iinc (lv2 := [some (Rv G 45), some (Iv x1), some (Iv (x2 + 1)), none]) dX3_findWhatGoesOn_82 rfl rfl (by decide) rfl ?_
      refine Z_goto (tgt := 49) dX3_findWhatGoesOn_85 (by decide) ?_
      exact Z_cut h ⟨rfl, rfl, rfl, trivial, trivial⟩
    · have h := h.2 c3
      refine Z_aload_n dX3_findWhatGoesOn_67 rfl ?_
      refine Z_gr (t := 98) zcX3 fl_X3_46 ⟨by decide, by omega⟩ rfl rfl rfl (by decide) (by decide) dX3_findWhatGoesOn_68 ?_
      refine Z_aload_n dX3_findWhatGoesOn_71 rfl ?_
      refine Y_gi 0 zcX3 fl_X3_9 ⟨by decide, by omega⟩ rfl rfl rfl (by decide) dX3_findWhatGoesOn_72 rfl ?_
      refine Z_dup2 dX3_findWhatGoesOn_75 rfl rfl ?_
      obtain ⟨b4, h⟩ := h
      refine Z_iald (zin_c (by decide) (by omega) (by decide) (by decide) b4) dX3_findWhatGoesOn_76 ?_
      refine Z_iconst dX3_findWhatGoesOn_77 ?_
      refine Z_iload_n dX3_findWhatGoesOn_78 rfl ?_
      refine Z_ishl dX3_findWhatGoesOn_79 ?_
      refine Z_ior dX3_findWhatGoesOn_80 ?_
      obtain ⟨b5, h⟩ := h
      refine Z_iast (zin_c (by decide) (by omega) (by decide) (by decide) b5) dX3_findWhatGoesOn_81 ?_
      obtain ⟨μ6, eμ6⟩ : ∃ z : zM, z = zu μ 98 (wr (μ 45 0)) (zor (μ 98 (wr (μ 45 0))) (zshl 1 x2)) := ⟨_, rfl⟩
      have h := h μ6 eμ6
      refine Z_mem eμ6 ?_
      refine Z_iinc (lv2 := [some (Rv G 45), some (Iv x1), some (Iv (x2 + 1)), none]) dX3_findWhatGoesOn_82 rfl rfl (by decide) rfl ?_
      refine Z_goto (tgt := 49) dX3_findWhatGoesOn_85 (by decide) ?_
      exact Z_cut h ⟨rfl, rfl, rfl, trivial, trivial⟩
theorem bX3_findWhatGoesOn_95 {G : zG} {n : Nat} (hn : 99 ≤ n) {x2 : Int} {μ : zM} {K : zM → Prop}
    (h : (((wr x2 < 0 → (K μ)) ∧ (¬ (wr x2 < 0) → ((0 ≤ wr x2 ∧ wr x2 < 5) ∧ ((wr (μ 45 3) ≤ wr (μ 58 (wr x2)) → ((0 ≤ wr x2 ∧ wr x2 < 6) ∧ ∀ μ5 : zM, μ5 = zu μ 98 (wr x2) 0 → pX3_findWhatGoesOn G n K 132 [some (Rv G 45), none, some (Iv x2), some (Iv 0)] [] μ5)) ∧ (¬ (wr (μ 45 3) ≤ wr (μ 58 (wr x2))) → ((0 ≤ wr (x2 + 1) ∧ wr (x2 + 1) < 6) ∧ (0 ≤ wr x2 ∧ wr x2 < 6) ∧ ∀ μ8 : zM, μ8 = zu μ 98 (wr x2) (μ 98 (wr (x2 + 1))) → pX3_findWhatGoesOn G n K 132 [some (Rv G 45), none, some (Iv x2), some (Iv 0)] [] μ8)))))))) :
    pX3_findWhatGoesOn G n K 95 [some (Rv G 45), none, some (Iv x2), none] [] μ := by
  refine Z_iload_n dX3_findWhatGoesOn_95 rfl ?_
  refine Z_if_lt (tgt := 175) dX3_findWhatGoesOn_96 (by decide) (fun c1 => ?_) (fun c1 => ?_)
  · have h := h.1 c1
    exact Z_return dX3_findWhatGoesOn_175 ⟨rfl, h⟩
  · have h := h.2 c1
    refine Z_aload_n dX3_findWhatGoesOn_99 rfl ?_
    refine Z_gr (t := 98) zcX3 fl_X3_46 ⟨by decide, by omega⟩ rfl rfl rfl (by decide) (by decide) dX3_findWhatGoesOn_100 ?_
    refine Z_iload_n dX3_findWhatGoesOn_103 rfl ?_
    refine Z_aload_n dX3_findWhatGoesOn_104 rfl ?_
    refine Z_gr (t := 58) zcX3 fl_X3_33 ⟨by decide, by omega⟩ rfl rfl rfl (by decide) (by decide) dX3_findWhatGoesOn_105 ?_
    refine Z_iload_n dX3_findWhatGoesOn_108 rfl ?_
    obtain ⟨b2, h⟩ := h
    refine Z_iald (zin_c (by decide) (by omega) (by decide) (by decide) b2) dX3_findWhatGoesOn_109 ?_
    refine Z_aload_n dX3_findWhatGoesOn_110 rfl ?_
    refine Y_gi 3 zcX3 fl_X3_22 ⟨by decide, by omega⟩ rfl rfl rfl (by decide) dX3_findWhatGoesOn_111 rfl ?_
    refine Z_icmp_ge (tgt := 128) dX3_findWhatGoesOn_114 (by decide) (fun c3 => ?_) (fun c3 => ?_)
    · have h := h.1 c3
      refine Z_iconst dX3_findWhatGoesOn_128 ?_
      obtain ⟨b4, h⟩ := h
      refine Z_iast (zin_c (by decide) (by omega) (by decide) (by decide) b4) dX3_findWhatGoesOn_129 ?_
      obtain ⟨μ5, eμ5⟩ : ∃ z : zM, z = zu μ 98 (wr x2) 0 := ⟨_, rfl⟩
      have h := h μ5 eμ5
      refine Z_mem eμ5 ?_
      refine Z_iconst dX3_findWhatGoesOn_130 ?_
      refine Z_istore_n (lv2 := [some (Rv G 45), none, some (Iv x2), some (Iv 0)]) dX3_findWhatGoesOn_131 rfl (by decide) rfl ?_
      exact Z_cut h ⟨rfl, trivial, rfl, rfl, trivial⟩
    · have h := h.2 c3
      refine Z_aload_n dX3_findWhatGoesOn_117 rfl ?_
      refine Z_gr (t := 98) zcX3 fl_X3_46 ⟨by decide, by omega⟩ rfl rfl rfl (by decide) (by decide) dX3_findWhatGoesOn_118 ?_
      refine Z_iload_n dX3_findWhatGoesOn_121 rfl ?_
      refine Z_iconst dX3_findWhatGoesOn_122 ?_
      refine Z_iadd dX3_findWhatGoesOn_123 ?_
      obtain ⟨b6, h⟩ := h
      refine Z_iald (zin_c (by decide) (by omega) (by decide) (by decide) b6) dX3_findWhatGoesOn_124 ?_
      refine Z_goto (tgt := 129) dX3_findWhatGoesOn_125 (by decide) ?_
      obtain ⟨b7, h⟩ := h
      refine Z_iast (zin_c (by decide) (by omega) (by decide) (by decide) b7) dX3_findWhatGoesOn_129 ?_
      obtain ⟨μ8, eμ8⟩ : ∃ z : zM, z = zu μ 98 (wr x2) (μ 98 (wr (x2 + 1))) := ⟨_, rfl⟩
      have h := h μ8 eμ8
      refine Z_mem eμ8 ?_
      refine Z_iconst dX3_findWhatGoesOn_130 ?_
      refine Z_istore_n (lv2 := [some (Rv G 45), none, some (Iv x2), some (Iv 0)]) dX3_findWhatGoesOn_131 rfl (by decide) rfl ?_
      exact Z_cut h ⟨rfl, trivial, rfl, rfl, trivial⟩
theorem bX3_findWhatGoesOn_132 {G : zG} {n : Nat} (hn : 99 ≤ n) {x2 x3 : Int} {μ : zM} {K : zM → Prop}
    (h : (((wr (zshl 1 (μ 45 0)) ≤ wr x3 → (pX3_findWhatGoesOn G n K 95 [some (Rv G 45), none, some (Iv (x2 + (-1))), none] [] μ)) ∧ (¬ (wr (zshl 1 (μ 45 0)) ≤ wr x3) → (mX3_canGiveAny G n x2 x3 μ (fun r2 μ3 => ((wr r2 = 0 → (pX3_findWhatGoesOn G n K 132 [some (Rv G 45), none, some (Iv x2), some (Iv (x3 + 1))] [] μ3)) ∧ (¬ (wr r2 = 0) → ((0 ≤ wr x2 ∧ wr x2 < 6) ∧ (0 ≤ wr x2 ∧ wr x2 < 6) ∧ ∀ μ7 : zM, μ7 = zu μ3 98 (wr x2) (zor (μ3 98 (wr x2)) (zshl 1 x3)) → pX3_findWhatGoesOn G n K 132 [some (Rv G 45), none, some (Iv x2), some (Iv (x3 + 1))] [] μ7))))))))) :
    pX3_findWhatGoesOn G n K 132 [some (Rv G 45), none, some (Iv x2), some (Iv x3)] [] μ := by
  refine Z_iload_n dX3_findWhatGoesOn_132 rfl ?_
  refine Z_iconst dX3_findWhatGoesOn_133 ?_
  refine Z_aload_n dX3_findWhatGoesOn_134 rfl ?_
  refine Y_gi 0 zcX3 fl_X3_9 ⟨by decide, by omega⟩ rfl rfl rfl (by decide) dX3_findWhatGoesOn_135 rfl ?_
  refine Z_ishl dX3_findWhatGoesOn_138 ?_
  refine Z_icmp_ge (tgt := 169) dX3_findWhatGoesOn_139 (by decide) (fun c1 => ?_) (fun c1 => ?_)
  · have h := h.1 c1
    refine Z_iinc (lv2 := [some (Rv G 45), none, some (Iv (x2 + (-1))), some (Iv x3)]) dX3_findWhatGoesOn_169 rfl rfl (by decide) rfl ?_
    refine Z_goto (tgt := 95) dX3_findWhatGoesOn_172 (by decide) ?_
    exact Z_cut h ⟨rfl, trivial, rfl, trivial, trivial⟩
  · have h := h.2 c1
    refine Z_aload_n dX3_findWhatGoesOn_142 rfl ?_
    refine Z_iload_n dX3_findWhatGoesOn_143 rfl ?_
    refine Z_iload_n dX3_findWhatGoesOn_144 rfl ?_
    refine Z_callVi h md_X3_canGiveAny sv_X3_canGiveAny lk_X3_92 zcX3 rfl ⟨by decide, by omega⟩ rfl rfl rfl rfl (Nat.le_of_ble_eq_true rfl) dX3_findWhatGoesOn_145 ⟨by decide, Nat.le_of_ble_eq_true rfl⟩ ⟨Nat.zero_le _, Nat.zero_le _⟩ ?_
    intro r2 μ3 h
    refine Z_if_eq (tgt := 163) dX3_findWhatGoesOn_148 (by decide) (fun c4 => ?_) (fun c4 => ?_)
    · have h := h.1 c4
      refine Z_iinc (lv2 := [some (Rv G 45), none, some (Iv x2), some (Iv (x3 + 1))]) dX3_findWhatGoesOn_163 rfl rfl (by decide) rfl ?_
      refine Z_goto (tgt := 132) dX3_findWhatGoesOn_166 (by decide) ?_
      exact Z_cut h ⟨rfl, trivial, rfl, rfl, trivial⟩
    · have h := h.2 c4
      refine Z_aload_n dX3_findWhatGoesOn_151 rfl ?_
      refine Z_gr (t := 98) zcX3 fl_X3_46 ⟨by decide, by omega⟩ rfl rfl rfl (by decide) (by decide) dX3_findWhatGoesOn_152 ?_
      refine Z_iload_n dX3_findWhatGoesOn_155 rfl ?_
      refine Z_dup2 dX3_findWhatGoesOn_156 rfl rfl ?_
      obtain ⟨b5, h⟩ := h
      refine Z_iald (zin_c (by decide) (by omega) (by decide) (by decide) b5) dX3_findWhatGoesOn_157 ?_
      refine Z_iconst dX3_findWhatGoesOn_158 ?_
      refine Z_iload_n dX3_findWhatGoesOn_159 rfl ?_
      refine Z_ishl dX3_findWhatGoesOn_160 ?_
      refine Z_ior dX3_findWhatGoesOn_161 ?_
      obtain ⟨b6, h⟩ := h
      refine Z_iast (zin_c (by decide) (by omega) (by decide) (by decide) b6) dX3_findWhatGoesOn_162 ?_
      obtain ⟨μ7, eμ7⟩ : ∃ z : zM, z = zu μ3 98 (wr x2) (zor (μ3 98 (wr x2)) (zshl 1 x3)) := ⟨_, rfl⟩
      have h := h μ7 eμ7
      refine Z_mem eμ7 ?_
      refine Z_iinc (lv2 := [some (Rv G 45), none, some (Iv x2), some (Iv (x3 + 1))]) dX3_findWhatGoesOn_163 rfl rfl (by decide) rfl ?_
      refine Z_goto (tgt := 132) dX3_findWhatGoesOn_166 (by decide) ?_
      exact Z_cut h ⟨rfl, trivial, rfl, rfl, trivial⟩
abbrev mX3_chooseRow (G : zG) (n : Nat) (x1 : Int) (μ : zM) (K : zM → Prop) : Prop := zMt G n 4 yX3_chooseRow cX3_chooseRow 5 none [Rv G 45, Rv G x1] μ (zKv K)
abbrev pX3_chooseRow (G : zG) (n : Nat) (K : zM → Prop) (pc : Nat) (lv : List (Option Value)) (st : List Value) (μ : zM) : Prop := Z G (zrm 4 0 0) RX3 "chooseRow" cX3_chooseRow 5 none (zPh G n (zKv K)) 0 0 pc lv st (zE G n μ)
theorem eX3_chooseRow {G : zG} {n : Nat} (hn : 99 ≤ n) {x1 : Int} {μ : zM} {K : zM → Prop}
    (h : (mX3_findWhatGoesOn G n  μ (fun μ2 => pX3_chooseRow G n K 8 [some (Rv G 45), some (Rv G x1), some (Iv 0), some (Iv 0), none] [] μ2))) :
    mX3_chooseRow G n x1 μ K := by
  refine zMt_of (lv := [some (Rv G 45), some (Rv G x1), none, none, none]) (by decide) rfl (Nat.le_of_ble_eq_true rfl) ?_
  show pX3_chooseRow G n K 0 [some (Rv G 45), some (Rv G x1), none, none, none] [] μ
  refine Z_aload_n dX3_chooseRow_0 rfl ?_
  refine Z_callVv h md_X3_findWhatGoesOn sv_X3_findWhatGoesOn lk_X3_85 zcX3 rfl ⟨by decide, by omega⟩ rfl rfl rfl rfl (Nat.le_of_ble_eq_true rfl) dX3_chooseRow_1 ⟨by decide, Nat.le_of_ble_eq_true rfl⟩ ⟨Nat.zero_le _, Nat.zero_le _⟩ ?_
  intro μ2 h
  refine Z_iconst dX3_chooseRow_4 ?_
  refine Z_istore_n (lv2 := [some (Rv G 45), some (Rv G x1), some (Iv 0), none, none]) dX3_chooseRow_5 rfl (by decide) rfl ?_
  refine Z_iconst dX3_chooseRow_6 ?_
  refine Z_istore_n (lv2 := [some (Rv G 45), some (Rv G x1), some (Iv 0), some (Iv 0), none]) dX3_chooseRow_7 rfl (by decide) rfl ?_
  exact Z_cut h ⟨rfl, rfl, rfl, rfl, trivial, trivial⟩
theorem bX3_chooseRow_8 {G : zG} {n : Nat} (hn : 99 ≤ n) {x1 x2 x3 : Int} {μ : zM} {K : zM → Prop}
    (h : (((wr (μ 45 0) ≤ wr x3 → (K μ)) ∧ (¬ (wr (μ 45 0) ≤ wr x3) → (zin 0 n x1 x3 ∧ ∀ μ3 : zM, μ3 = zu μ x1 (wr x3) ((-9)) → pX3_chooseRow G n K 24 [some (Rv G 45), some (Rv G x1), some (Iv x2), some (Iv x3), some (Iv 0)] [] μ3))))) :
    pX3_chooseRow G n K 8 [some (Rv G 45), some (Rv G x1), some (Iv x2), some (Iv x3), none] [] μ := by
  refine Z_iload_n dX3_chooseRow_8 rfl ?_
  refine Z_aload_n dX3_chooseRow_9 rfl ?_
  refine Y_gi 0 zcX3 fl_X3_9 ⟨by decide, by omega⟩ rfl rfl rfl (by decide) dX3_chooseRow_10 rfl ?_
  refine Z_icmp_ge (tgt := 85) dX3_chooseRow_13 (by decide) (fun c1 => ?_) (fun c1 => ?_)
  · have h := h.1 c1
    exact Z_return dX3_chooseRow_85 ⟨rfl, h⟩
  · have h := h.2 c1
    refine Z_aload_n dX3_chooseRow_16 rfl ?_
    refine Z_iload_n dX3_chooseRow_17 rfl ?_
    refine Z_bipush dX3_chooseRow_18 (by decide) ?_
    obtain ⟨b2, h⟩ := h
    refine Z_iast b2 dX3_chooseRow_20 ?_
    obtain ⟨μ3, eμ3⟩ : ∃ z : zM, z = zu μ x1 (wr x3) ((-9)) := ⟨_, rfl⟩
    have h := h μ3 eμ3
    refine Z_mem eμ3 ?_
    refine Z_iconst dX3_chooseRow_21 ?_
    refine Z_istore (lv2 := [some (Rv G 45), some (Rv G x1), some (Iv x2), some (Iv x3), some (Iv 0)]) dX3_chooseRow_22 rfl (by decide) rfl ?_
    exact Z_cut h ⟨rfl, rfl, rfl, rfl, rfl, trivial⟩
theorem bX3_chooseRow_24 {G : zG} {n : Nat} (hn : 99 ≤ n) {x1 x2 x3 x4 : Int} {μ : zM} {K : zM → Prop}
    (h : (((wr (μ 45 0) ≤ wr x4 → (zin 0 n x1 x3 ∧ ((wr (μ x1 (wr x3)) = wr ((-9)) → (pX3_chooseRow G n K 8 [some (Rv G 45), some (Rv G x1), some (Iv x2), some (Iv (x3 + 1)), none] [] μ)) ∧ (¬ (wr (μ x1 (wr x3)) = wr ((-9))) → (zin 0 n x1 x3 ∧ ∀ v5 : Int, v5 = zor x2 (zshl 1 (μ x1 (wr x3))) → pX3_chooseRow G n K 8 [some (Rv G 45), some (Rv G x1), some (Iv v5), some (Iv (x3 + 1)), none] [] μ))))) ∧ (¬ (wr (μ 45 0) ≤ wr x4) → (zin 0 n x1 x3 ∧ ((¬ wr (μ x1 (wr x3)) = wr ((-9)) → (zin 0 n x1 x3 ∧ ((wr (μ x1 (wr x3)) = wr ((-9)) → (pX3_chooseRow G n K 8 [some (Rv G 45), some (Rv G x1), some (Iv x2), some (Iv (x3 + 1)), none] [] μ)) ∧ (¬ (wr (μ x1 (wr x3)) = wr ((-9))) → (zin 0 n x1 x3 ∧ ∀ v11 : Int, v11 = zor x2 (zshl 1 (μ x1 (wr x3))) → pX3_chooseRow G n K 8 [some (Rv G 45), some (Rv G x1), some (Iv v11), some (Iv (x3 + 1)), none] [] μ))))) ∧ (wr (μ x1 (wr x3)) = wr ((-9)) → (mX3_canGive G n x3 x4 x2 μ (fun r12 μ13 => ((wr r12 = 0 → (pX3_chooseRow G n K 24 [some (Rv G 45), some (Rv G x1), some (Iv x2), some (Iv x3), some (Iv (x4 + 1))] [] μ13)) ∧ (¬ (wr r12 = 0) → (zin 0 n x1 x3 ∧ ∀ μ16 : zM, μ16 = zu μ13 x1 (wr x3) x4 → pX3_chooseRow G n K 24 [some (Rv G 45), some (Rv G x1), some (Iv x2), some (Iv x3), some (Iv (x4 + 1))] [] μ16)))))))))))) :
    pX3_chooseRow G n K 24 [some (Rv G 45), some (Rv G x1), some (Iv x2), some (Iv x3), some (Iv x4)] [] μ := by
  refine Z_iload dX3_chooseRow_24 rfl ?_
  refine Z_aload_n dX3_chooseRow_26 rfl ?_
  refine Y_gi 0 zcX3 fl_X3_9 ⟨by decide, by omega⟩ rfl rfl rfl (by decide) dX3_chooseRow_27 rfl ?_
  refine Z_icmp_ge (tgt := 63) dX3_chooseRow_30 (by decide) (fun c1 => ?_) (fun c1 => ?_)
  · have h := h.1 c1
    refine Z_aload_n dX3_chooseRow_63 rfl ?_
    refine Z_iload_n dX3_chooseRow_64 rfl ?_
    obtain ⟨b2, h⟩ := h
    refine Z_iald b2 dX3_chooseRow_65 ?_
    refine Z_bipush dX3_chooseRow_66 (by decide) ?_
    refine Z_icmp_eq (tgt := 79) dX3_chooseRow_68 (by decide) (fun c3 => ?_) (fun c3 => ?_)
    · have h := h.1 c3
      refine Z_iinc (lv2 := [some (Rv G 45), some (Rv G x1), some (Iv x2), some (Iv (x3 + 1)), some (Iv x4)]) dX3_chooseRow_79 rfl rfl (by decide) rfl ?_
      refine Z_goto (tgt := 8) dX3_chooseRow_82 (by decide) ?_
      exact Z_cut h ⟨rfl, rfl, rfl, rfl, trivial, trivial⟩
    · have h := h.2 c3
      refine Z_iload_n dX3_chooseRow_71 rfl ?_
      refine Z_iconst dX3_chooseRow_72 ?_
      refine Z_aload_n dX3_chooseRow_73 rfl ?_
      refine Z_iload_n dX3_chooseRow_74 rfl ?_
      obtain ⟨b4, h⟩ := h
      refine Z_iald b4 dX3_chooseRow_75 ?_
      refine Z_ishl dX3_chooseRow_76 ?_
      refine Z_ior dX3_chooseRow_77 ?_
      obtain ⟨v5, ev5⟩ : ∃ z : Int, z = zor x2 (zshl 1 (μ x1 (wr x3))) := ⟨_, rfl⟩
      have h := h v5 ev5
      refine Z_nmi ev5 ?_
      refine Z_istore_n (lv2 := [some (Rv G 45), some (Rv G x1), some (Iv v5), some (Iv x3), some (Iv x4)]) dX3_chooseRow_78 rfl (by decide) rfl ?_
      refine Z_iinc (lv2 := [some (Rv G 45), some (Rv G x1), some (Iv v5), some (Iv (x3 + 1)), some (Iv x4)]) dX3_chooseRow_79 rfl rfl (by decide) rfl ?_
      refine Z_goto (tgt := 8) dX3_chooseRow_82 (by decide) ?_
      exact Z_cut h ⟨rfl, rfl, rfl, rfl, trivial, trivial⟩
  · have h := h.2 c1
    refine Z_aload_n dX3_chooseRow_33 rfl ?_
    refine Z_iload_n dX3_chooseRow_34 rfl ?_
    obtain ⟨b6, h⟩ := h
    refine Z_iald b6 dX3_chooseRow_35 ?_
    refine Z_bipush dX3_chooseRow_36 (by decide) ?_
    refine Z_icmp_ne (tgt := 63) dX3_chooseRow_38 (by decide) (fun c7 => ?_) (fun c7 => ?_)
    · have h := h.1 c7
      refine Z_aload_n dX3_chooseRow_63 rfl ?_
      refine Z_iload_n dX3_chooseRow_64 rfl ?_
      obtain ⟨b8, h⟩ := h
      refine Z_iald b8 dX3_chooseRow_65 ?_
      refine Z_bipush dX3_chooseRow_66 (by decide) ?_
      refine Z_icmp_eq (tgt := 79) dX3_chooseRow_68 (by decide) (fun c9 => ?_) (fun c9 => ?_)
      · have h := h.1 c9
        refine Z_iinc (lv2 := [some (Rv G 45), some (Rv G x1), some (Iv x2), some (Iv (x3 + 1)), some (Iv x4)]) dX3_chooseRow_79 rfl rfl (by decide) rfl ?_
        refine Z_goto (tgt := 8) dX3_chooseRow_82 (by decide) ?_
        exact Z_cut h ⟨rfl, rfl, rfl, rfl, trivial, trivial⟩
      · have h := h.2 c9
        refine Z_iload_n dX3_chooseRow_71 rfl ?_
        refine Z_iconst dX3_chooseRow_72 ?_
        refine Z_aload_n dX3_chooseRow_73 rfl ?_
        refine Z_iload_n dX3_chooseRow_74 rfl ?_
        obtain ⟨b10, h⟩ := h
        refine Z_iald b10 dX3_chooseRow_75 ?_
        refine Z_ishl dX3_chooseRow_76 ?_
        refine Z_ior dX3_chooseRow_77 ?_
        obtain ⟨v11, ev11⟩ : ∃ z : Int, z = zor x2 (zshl 1 (μ x1 (wr x3))) := ⟨_, rfl⟩
        have h := h v11 ev11
        refine Z_nmi ev11 ?_
        refine Z_istore_n (lv2 := [some (Rv G 45), some (Rv G x1), some (Iv v11), some (Iv x3), some (Iv x4)]) dX3_chooseRow_78 rfl (by decide) rfl ?_
        refine Z_iinc (lv2 := [some (Rv G 45), some (Rv G x1), some (Iv v11), some (Iv (x3 + 1)), some (Iv x4)]) dX3_chooseRow_79 rfl rfl (by decide) rfl ?_
        refine Z_goto (tgt := 8) dX3_chooseRow_82 (by decide) ?_
        exact Z_cut h ⟨rfl, rfl, rfl, rfl, trivial, trivial⟩
    · have h := h.2 c7
      refine Z_aload_n dX3_chooseRow_41 rfl ?_
      refine Z_iload_n dX3_chooseRow_42 rfl ?_
      refine Z_iload dX3_chooseRow_43 rfl ?_
      refine Z_iload_n dX3_chooseRow_45 rfl ?_
      refine Z_callVi h md_X3_canGive sv_X3_canGive lk_X3_88 zcX3 rfl ⟨by decide, by omega⟩ rfl rfl rfl rfl (Nat.le_of_ble_eq_true rfl) dX3_chooseRow_46 ⟨by decide, Nat.le_of_ble_eq_true rfl⟩ ⟨Nat.zero_le _, Nat.zero_le _⟩ ?_
      intro r12 μ13 h
      refine Z_if_eq (tgt := 57) dX3_chooseRow_49 (by decide) (fun c14 => ?_) (fun c14 => ?_)
      · have h := h.1 c14
        refine Z_iinc (lv2 := [some (Rv G 45), some (Rv G x1), some (Iv x2), some (Iv x3), some (Iv (x4 + 1))]) dX3_chooseRow_57 rfl rfl (by decide) rfl ?_
        refine Z_goto (tgt := 24) dX3_chooseRow_60 (by decide) ?_
        exact Z_cut h ⟨rfl, rfl, rfl, rfl, rfl, trivial⟩
      · have h := h.2 c14
        refine Z_aload_n dX3_chooseRow_52 rfl ?_
        refine Z_iload_n dX3_chooseRow_53 rfl ?_
        refine Z_iload dX3_chooseRow_54 rfl ?_
        obtain ⟨b15, h⟩ := h
        refine Z_iast b15 dX3_chooseRow_56 ?_
        obtain ⟨μ16, eμ16⟩ : ∃ z : zM, z = zu μ13 x1 (wr x3) x4 := ⟨_, rfl⟩
        have h := h μ16 eμ16
        refine Z_mem eμ16 ?_
        refine Z_iinc (lv2 := [some (Rv G 45), some (Rv G x1), some (Iv x2), some (Iv x3), some (Iv (x4 + 1))]) dX3_chooseRow_57 rfl rfl (by decide) rfl ?_
        refine Z_goto (tgt := 24) dX3_chooseRow_60 (by decide) ?_
        exact Z_cut h ⟨rfl, rfl, rfl, rfl, rfl, trivial⟩
abbrev mX3_partIfStale (G : zG) (n : Nat) (μ : zM) (K : zM → Prop) : Prop := zMt G n 5 yX3_partIfStale cX3_partIfStale 4 none [Rv G 45] μ (zKv K)
abbrev pX3_partIfStale (G : zG) (n : Nat) (K : zM → Prop) (pc : Nat) (lv : List (Option Value)) (st : List Value) (μ : zM) : Prop := Z G (zrm 5 0 0) RX3 "partIfStale" cX3_partIfStale 4 none (zPh G n (zKv K)) 0 0 pc lv st (zE G n μ)
theorem eX3_partIfStale {G : zG} {n : Nat} (hn : 99 ≤ n) {μ : zM} {K : zM → Prop}
    (h : (((¬ wr (μ 45 2) = 0 → (∀ μ2 : zM, μ2 = zu μ 45 2 0 → pX3_partIfStale G n K 15 [some (Rv G 45), some (Iv 0), none, none] [] μ2)) ∧ (wr (μ 45 2) = 0 → (K μ))))) :
    mX3_partIfStale G n  μ K := by
  refine zMt_of (lv := [some (Rv G 45), none, none, none]) (by decide) rfl (Nat.le_of_ble_eq_true rfl) ?_
  show pX3_partIfStale G n K 0 [some (Rv G 45), none, none, none] [] μ
  refine Z_aload_n dX3_partIfStale_0 rfl ?_
  refine Y_gi 2 zcX3 fl_X3_18 ⟨by decide, by omega⟩ rfl rfl rfl (by decide) dX3_partIfStale_1 rfl ?_
  refine Z_if_ne (tgt := 8) dX3_partIfStale_4 (by decide) (fun c1 => ?_) (fun c1 => ?_)
  · have h := h.1 c1
    refine Z_aload_n dX3_partIfStale_8 rfl ?_
    refine Z_iconst dX3_partIfStale_9 ?_
    refine Y_pz 2 zcX3 fk_X3_18 ⟨by decide, by omega⟩ rfl rfl rfl (by decide) rfl (tyX3_ok 2 (by decide)) (by decide) dX3_partIfStale_10 rfl ?_
    obtain ⟨μ2, eμ2⟩ : ∃ z : zM, z = zu μ 45 2 0 := ⟨_, rfl⟩
    have h := h μ2 eμ2
    refine Z_mem eμ2 ?_
    refine Z_iconst dX3_partIfStale_13 ?_
    refine Z_istore_n (lv2 := [some (Rv G 45), some (Iv 0), none, none]) dX3_partIfStale_14 rfl (by decide) rfl ?_
    exact Z_cut h ⟨rfl, rfl, trivial, trivial, trivial⟩
  · have h := h.2 c1
    exact Z_return dX3_partIfStale_7 ⟨rfl, h⟩
theorem bX3_partIfStale_15 {G : zG} {n : Nat} (hn : 99 ≤ n) {x1 : Int} {μ : zM} {K : zM → Prop}
    (h : (((wr (μ 45 0) ≤ wr x1 → (mX3_addUp G n 52 μ (fun μ3 => ∀ μ4 : zM, μ4 = zu μ3 45 1 0 → pX3_partIfStale G n K 65 [some (Rv G 45), some (Iv 0), none, none] [] μ4))) ∧ (¬ (wr (μ 45 0) ≤ wr x1) → ((0 ≤ wr x1 ∧ wr x1 < 5) ∧ (0 ≤ wr x1 ∧ wr x1 < 5) ∧ (0 ≤ wr 0 ∧ wr 0 + wr (μ 45 0) ≤ 5) ∧ (0 ≤ wr 0 ∧ wr 0 + wr (μ 45 0) ≤ 5) ∧ 0 ≤ wr (μ 45 0) ∧ ∀ μ10 : zM, μ10 = zcp μ (46 + 1 + wr x1) (wr 0) (52 + 1 + wr x1) (wr 0) (wr (μ 45 0)) → pX3_partIfStale G n K 15 [some (Rv G 45), some (Iv (x1 + 1)), none, none] [] μ10))))) :
    pX3_partIfStale G n K 15 [some (Rv G 45), some (Iv x1), none, none] [] μ := by
  refine Z_iload_n dX3_partIfStale_15 rfl ?_
  refine Z_aload_n dX3_partIfStale_16 rfl ?_
  refine Y_gi 0 zcX3 fl_X3_9 ⟨by decide, by omega⟩ rfl rfl rfl (by decide) dX3_partIfStale_17 rfl ?_
  refine Z_icmp_ge (tgt := 50) dX3_partIfStale_20 (by decide) (fun c1 => ?_) (fun c1 => ?_)
  · have h := h.1 c1
    refine Z_aload_n dX3_partIfStale_50 rfl ?_
    refine Z_aload_n dX3_partIfStale_51 rfl ?_
    refine Z_gr (t := 52) zcX3 fl_X3_30 ⟨by decide, by omega⟩ rfl rfl rfl (by decide) (by decide) dX3_partIfStale_52 ?_
    refine Z_callVv h md_X3_addUp sv_X3_addUp lk_X3_55 zcX3 rfl ⟨by decide, by omega⟩ rfl rfl rfl rfl (Nat.le_of_ble_eq_true rfl) dX3_partIfStale_55 ⟨by decide, Nat.le_of_ble_eq_true rfl⟩ ⟨Nat.zero_le _, Nat.zero_le _⟩ ?_
    intro μ3 h
    refine Z_iconst dX3_partIfStale_58 ?_
    refine Z_istore_n (lv2 := [some (Rv G 45), some (Iv 0), none, none]) dX3_partIfStale_59 rfl (by decide) rfl ?_
    refine Z_aload_n dX3_partIfStale_60 rfl ?_
    refine Z_iconst dX3_partIfStale_61 ?_
    refine Y_pi 1 zcX3 fk_X3_15 ⟨by decide, by omega⟩ rfl rfl rfl (by decide) rfl (tyX3_ok 1 (by decide)) dX3_partIfStale_62 rfl ?_
    obtain ⟨μ4, eμ4⟩ : ∃ z : zM, z = zu μ3 45 1 0 := ⟨_, rfl⟩
    have h := h μ4 eμ4
    refine Z_mem eμ4 ?_
    exact Z_cut h ⟨rfl, rfl, trivial, trivial, trivial⟩
  · have h := h.2 c1
    refine Z_aload_n dX3_partIfStale_23 rfl ?_
    refine Z_gr (t := 46) zcX3 fl_X3_27 ⟨by decide, by omega⟩ rfl rfl rfl (by decide) (by decide) dX3_partIfStale_24 ?_
    refine Z_iload_n dX3_partIfStale_27 rfl ?_
    obtain ⟨b5, h⟩ := h
    refine Z_aald3 (zin_c (by decide) (by omega) (by decide) (by decide) b5) dX3_partIfStale_28 ?_
    refine Z_iconst dX3_partIfStale_29 ?_
    refine Z_aload_n dX3_partIfStale_30 rfl ?_
    refine Z_gr (t := 52) zcX3 fl_X3_30 ⟨by decide, by omega⟩ rfl rfl rfl (by decide) (by decide) dX3_partIfStale_31 ?_
    refine Z_iload_n dX3_partIfStale_34 rfl ?_
    obtain ⟨b6, h⟩ := h
    refine Z_aald3 (zin_c (by decide) (by omega) (by decide) (by decide) b6) dX3_partIfStale_35 ?_
    refine Z_iconst dX3_partIfStale_36 ?_
    refine Z_aload_n dX3_partIfStale_37 rfl ?_
    refine Y_gi 0 zcX3 fl_X3_9 ⟨by decide, by omega⟩ rfl rfl rfl (by decide) dX3_partIfStale_38 rfl ?_
    obtain ⟨b7, b8, b9, h⟩ := h
    refine Z_copy lk_X3_62 ac1 ac2 ac3 ⟨(zr_46 b5).1, by have := b5; omega, (zr_46 b5).2.1⟩ ⟨(zr_52 b6).1, by have := b6; omega, (zr_52 b6).2.1⟩ (by rw [(zr_46 b5).2.2]; exact b7) (by rw [(zr_52 b6).2.2]; exact b8) b9 ⟨by decide, Nat.le_of_ble_eq_true rfl⟩ dX3_partIfStale_41 ?_
    obtain ⟨μ10, eμ10⟩ : ∃ z : zM, z = zcp μ (46 + 1 + wr x1) (wr 0) (52 + 1 + wr x1) (wr 0) (wr (μ 45 0)) := ⟨_, rfl⟩
    have h := h μ10 eμ10
    refine Z_mem eμ10 ?_
    refine Z_iinc (lv2 := [some (Rv G 45), some (Iv (x1 + 1)), none, none]) dX3_partIfStale_44 rfl rfl (by decide) rfl ?_
    refine Z_goto (tgt := 15) dX3_partIfStale_47 (by decide) ?_
    exact Z_cut h ⟨rfl, rfl, trivial, trivial, trivial⟩
theorem bX3_partIfStale_65 {G : zG} {n : Nat} (hn : 99 ≤ n) {x1 : Int} {μ : zM} {K : zM → Prop}
    (h : (((wr 36 ≤ wr (μ 45 1) → (K μ)) ∧ (¬ (wr 36 ≤ wr (μ 45 1)) → (((wr (μ 45 3) ≤ 0 → (K μ)) ∧ (¬ (wr (μ 45 3) ≤ 0) → ((0 ≤ wr (μ 45 1) ∧ wr (μ 45 1) < 36) ∧ mX3_chooseRow G n (60 + 1 + wr (μ 45 1)) μ (fun μ5 => mX3_roundsOf G n (60 + 1 + wr (μ 45 1)) μ5 (fun r6 μ7 => mX3_takeOff G n (60 + 1 + wr (μ 45 1)) r6 μ7 (fun μ9 => ∀ v10 : Int, v10 = x1 + r6 → (0 ≤ wr (μ9 45 1) ∧ wr (μ9 45 1) < 36) ∧ ∀ μ12 : zM, μ12 = zu μ9 97 (wr (μ9 45 1)) v10 → mX3_addUp G n 52 μ12 (fun μ14 => ∀ μ15 : zM, μ15 = zu μ14 45 1 ((μ14 45 1) + 1) → pX3_partIfStale G n K 65 [some (Rv G 45), some (Iv v10), none, none] [] μ15)))))))))))) :
    pX3_partIfStale G n K 65 [some (Rv G 45), some (Iv x1), none, none] [] μ := by
  refine Z_aload_n dX3_partIfStale_65 rfl ?_
  refine Y_gi 1 zcX3 fl_X3_15 ⟨by decide, by omega⟩ rfl rfl rfl (by decide) dX3_partIfStale_66 rfl ?_
  refine Z_bipush dX3_partIfStale_69 (by decide) ?_
  refine Z_icmp_ge (tgt := 143) dX3_partIfStale_71 (by decide) (fun c1 => ?_) (fun c1 => ?_)
  · have h := h.1 c1
    exact Z_return dX3_partIfStale_143 ⟨rfl, h⟩
  · have h := h.2 c1
    refine Z_aload_n dX3_partIfStale_74 rfl ?_
    refine Y_gi 3 zcX3 fl_X3_22 ⟨by decide, by omega⟩ rfl rfl rfl (by decide) dX3_partIfStale_75 rfl ?_
    refine Z_if_le (tgt := 143) dX3_partIfStale_78 (by decide) (fun c2 => ?_) (fun c2 => ?_)
    · have h := h.1 c2
      exact Z_return dX3_partIfStale_143 ⟨rfl, h⟩
    · have h := h.2 c2
      refine Z_aload_n dX3_partIfStale_81 rfl ?_
      refine Z_gr (t := 60) zcX3 fl_X3_40 ⟨by decide, by omega⟩ rfl rfl rfl (by decide) (by decide) dX3_partIfStale_82 ?_
      refine Z_aload_n dX3_partIfStale_85 rfl ?_
      refine Y_gi 1 zcX3 fl_X3_15 ⟨by decide, by omega⟩ rfl rfl rfl (by decide) dX3_partIfStale_86 rfl ?_
      obtain ⟨b3, h⟩ := h
      refine Z_aald3 (zin_c (by decide) (by omega) (by decide) (by decide) b3) dX3_partIfStale_89 ?_
      refine Z_astore_n (lv2 := [some (Rv G 45), some (Iv x1), some (Rv G (60 + 1 + wr (μ 45 1))), none]) dX3_partIfStale_90 rfl (by decide) rfl ?_
      refine Z_aload_n dX3_partIfStale_91 rfl ?_
      refine Z_aload_n dX3_partIfStale_92 rfl ?_
      refine Z_callVv h md_X3_chooseRow sv_X3_chooseRow lk_X3_68 zcX3 rfl ⟨by decide, by omega⟩ rfl rfl rfl rfl (Nat.le_of_ble_eq_true rfl) dX3_partIfStale_93 ⟨by decide, Nat.le_of_ble_eq_true rfl⟩ ⟨Nat.zero_le _, Nat.zero_le _⟩ ?_
      intro μ5 h
      refine Z_aload_n dX3_partIfStale_96 rfl ?_
      refine Z_aload_n dX3_partIfStale_97 rfl ?_
      refine Z_callVi h md_X3_roundsOf sv_X3_roundsOf lk_X3_72 zcX3 rfl ⟨by decide, by omega⟩ rfl rfl rfl rfl (Nat.le_of_ble_eq_true rfl) dX3_partIfStale_98 ⟨by decide, Nat.le_of_ble_eq_true rfl⟩ ⟨Nat.zero_le _, Nat.zero_le _⟩ ?_
      intro r6 μ7 h
      refine Z_istore_n (lv2 := [some (Rv G 45), some (Iv x1), some (Rv G (60 + 1 + wr (μ 45 1))), some (Iv r6)]) dX3_partIfStale_101 rfl (by decide) rfl ?_
      refine Z_aload_n dX3_partIfStale_102 rfl ?_
      refine Z_aload_n dX3_partIfStale_103 rfl ?_
      refine Z_iload_n dX3_partIfStale_104 rfl ?_
      refine Z_callVv h md_X3_takeOff sv_X3_takeOff lk_X3_76 zcX3 rfl ⟨by decide, by omega⟩ rfl rfl rfl rfl (Nat.le_of_ble_eq_true rfl) dX3_partIfStale_105 ⟨by decide, Nat.le_of_ble_eq_true rfl⟩ ⟨Nat.zero_le _, Nat.zero_le _⟩ ?_
      intro μ9 h
      refine Z_iload_n dX3_partIfStale_108 rfl ?_
      refine Z_iload_n dX3_partIfStale_109 rfl ?_
      refine Z_iadd dX3_partIfStale_110 ?_
      obtain ⟨v10, ev10⟩ : ∃ z : Int, z = x1 + r6 := ⟨_, rfl⟩
      have h := h v10 ev10
      refine Z_nmi ev10 ?_
      refine Z_istore_n (lv2 := [some (Rv G 45), some (Iv v10), some (Rv G (60 + 1 + wr (μ 45 1))), some (Iv r6)]) dX3_partIfStale_111 rfl (by decide) rfl ?_
      refine Z_aload_n dX3_partIfStale_112 rfl ?_
      refine Z_gr (t := 97) zcX3 fl_X3_43 ⟨by decide, by omega⟩ rfl rfl rfl (by decide) (by decide) dX3_partIfStale_113 ?_
      refine Z_aload_n dX3_partIfStale_116 rfl ?_
      refine Y_gi 1 zcX3 fl_X3_15 ⟨by decide, by omega⟩ rfl rfl rfl (by decide) dX3_partIfStale_117 rfl ?_
      refine Z_iload_n dX3_partIfStale_120 rfl ?_
      obtain ⟨b11, h⟩ := h
      refine Z_iast (zin_c (by decide) (by omega) (by decide) (by decide) b11) dX3_partIfStale_121 ?_
      obtain ⟨μ12, eμ12⟩ : ∃ z : zM, z = zu μ9 97 (wr (μ9 45 1)) v10 := ⟨_, rfl⟩
      have h := h μ12 eμ12
      refine Z_mem eμ12 ?_
      refine Z_aload_n dX3_partIfStale_122 rfl ?_
      refine Z_aload_n dX3_partIfStale_123 rfl ?_
      refine Z_gr (t := 52) zcX3 fl_X3_30 ⟨by decide, by omega⟩ rfl rfl rfl (by decide) (by decide) dX3_partIfStale_124 ?_
      refine Z_callVv h md_X3_addUp sv_X3_addUp lk_X3_55 zcX3 rfl ⟨by decide, by omega⟩ rfl rfl rfl rfl (Nat.le_of_ble_eq_true rfl) dX3_partIfStale_127 ⟨by decide, Nat.le_of_ble_eq_true rfl⟩ ⟨Nat.zero_le _, Nat.zero_le _⟩ ?_
      intro μ14 h
      refine Z_aload_n dX3_partIfStale_130 rfl ?_
      refine Z_dup dX3_partIfStale_131 rfl ?_
      refine Y_gi 1 zcX3 fl_X3_15 ⟨by decide, by omega⟩ rfl rfl rfl (by decide) dX3_partIfStale_132 rfl ?_
      refine Z_iconst dX3_partIfStale_135 ?_
      refine Z_iadd dX3_partIfStale_136 ?_
      refine Y_pi 1 zcX3 fk_X3_15 ⟨by decide, by omega⟩ rfl rfl rfl (by decide) rfl (tyX3_ok 1 (by decide)) dX3_partIfStale_137 rfl ?_
      obtain ⟨μ15, eμ15⟩ : ∃ z : zM, z = zu μ14 45 1 ((μ14 45 1) + 1) := ⟨_, rfl⟩
      have h := h μ15 eμ15
      refine Z_mem eμ15 ?_
      refine Z_goto (tgt := 65) dX3_partIfStale_140 (by decide) ?_
      exact Z_cut h ⟨rfl, rfl, trivial, trivial, trivial⟩
abbrev mX3_phasesInAll (G : zG) (n : Nat) (μ : zM) (K : Int → zM → Prop) : Prop := zMt G n 6 yX3_phasesInAll cX3_phasesInAll 1 (some .int) [Rv G 45] μ (zKi K)
abbrev pX3_phasesInAll (G : zG) (n : Nat) (K : Int → zM → Prop) (pc : Nat) (lv : List (Option Value)) (st : List Value) (μ : zM) : Prop := Z G (zrm 6 0 0) RX3 "phasesInAll" cX3_phasesInAll 1 (some .int) (zPh G n (zKi K)) 0 0 pc lv st (zE G n μ)
theorem eX3_phasesInAll {G : zG} {n : Nat} (hn : 99 ≤ n) {μ : zM} {K : Int → zM → Prop}
    (h : (mX3_partIfStale G n  μ (fun μ2 => K (μ2 45 1) μ2))) :
    mX3_phasesInAll G n  μ K := by
  refine zMt_of (lv := [some (Rv G 45)]) (by decide) rfl (Nat.le_of_ble_eq_true rfl) ?_
  show pX3_phasesInAll G n K 0 [some (Rv G 45)] [] μ
  refine Z_aload_n dX3_phasesInAll_0 rfl ?_
  refine Z_callVv h md_X3_partIfStale sv_X3_partIfStale lk_X3_59 zcX3 rfl ⟨by decide, by omega⟩ rfl rfl rfl rfl (Nat.le_of_ble_eq_true rfl) dX3_phasesInAll_1 ⟨by decide, Nat.le_of_ble_eq_true rfl⟩ ⟨Nat.zero_le _, Nat.zero_le _⟩ ?_
  intro μ2 h
  refine Z_aload_n dX3_phasesInAll_4 rfl ?_
  refine Y_gi 1 zcX3 fl_X3_15 ⟨by decide, by omega⟩ rfl rfl rfl (by decide) dX3_phasesInAll_5 rfl ?_
  exact Z_ireturn dX3_phasesInAll_8 ⟨_, rfl, h⟩
abbrev mX3_outletIn (G : zG) (n : Nat) (x1 x2 : Int) (μ : zM) (K : Int → zM → Prop) : Prop := zMt G n 6 yX3_outletIn cX3_outletIn 4 (some .int) [Rv G 45, Iv x1, Iv x2] μ (zKi K)
abbrev pX3_outletIn (G : zG) (n : Nat) (K : Int → zM → Prop) (pc : Nat) (lv : List (Option Value)) (st : List Value) (μ : zM) : Prop := Z G (zrm 6 0 0) RX3 "outletIn" cX3_outletIn 4 (some .int) (zPh G n (zKi K)) 0 0 pc lv st (zE G n μ)
theorem eX3_outletIn {G : zG} {n : Nat} (hn : 99 ≤ n) {x1 x2 : Int} {μ : zM} {K : Int → zM → Prop}
    (h : (mX3_partIfStale G n  μ (fun μ2 => pX3_outletIn G n K 6 [some (Rv G 45), some (Iv x1), some (Iv x2), some (Iv 0)] [] μ2))) :
    mX3_outletIn G n x1 x2 μ K := by
  refine zMt_of (lv := [some (Rv G 45), some (Iv x1), some (Iv x2), none]) (by decide) rfl (Nat.le_of_ble_eq_true rfl) ?_
  show pX3_outletIn G n K 0 [some (Rv G 45), some (Iv x1), some (Iv x2), none] [] μ
  refine Z_aload_n dX3_outletIn_0 rfl ?_
  refine Z_callVv h md_X3_partIfStale sv_X3_partIfStale lk_X3_59 zcX3 rfl ⟨by decide, by omega⟩ rfl rfl rfl rfl (Nat.le_of_ble_eq_true rfl) dX3_outletIn_1 ⟨by decide, Nat.le_of_ble_eq_true rfl⟩ ⟨Nat.zero_le _, Nat.zero_le _⟩ ?_
  intro μ2 h
  refine Z_iconst dX3_outletIn_4 ?_
  refine Z_istore_n (lv2 := [some (Rv G 45), some (Iv x1), some (Iv x2), some (Iv 0)]) dX3_outletIn_5 rfl (by decide) rfl ?_
  exact Z_cut h ⟨rfl, rfl, rfl, rfl, trivial⟩
theorem bX3_outletIn_6 {G : zG} {n : Nat} (hn : 99 ≤ n) {x1 x2 x3 : Int} {μ : zM} {K : Int → zM → Prop}
    (h : (((wr (μ 45 1) ≤ wr x3 → (K ((-9)) μ)) ∧ (¬ (wr (μ 45 1) ≤ wr x3) → ((0 ≤ wr x3 ∧ wr x3 < 36) ∧ ((wr (μ 97 (wr x3)) ≤ wr x1 → (pX3_outletIn G n K 6 [some (Rv G 45), some (Iv x1), some (Iv x2), some (Iv (x3 + 1))] [] μ)) ∧ (¬ (wr (μ 97 (wr x3)) ≤ wr x1) → ((0 ≤ wr x3 ∧ wr x3 < 36) ∧ (0 ≤ wr x2 ∧ wr x2 < 5) ∧ K (μ (60 + 1 + wr x3) (wr x2)) μ)))))))) :
    pX3_outletIn G n K 6 [some (Rv G 45), some (Iv x1), some (Iv x2), some (Iv x3)] [] μ := by
  refine Z_iload_n dX3_outletIn_6 rfl ?_
  refine Z_aload_n dX3_outletIn_7 rfl ?_
  refine Y_gi 1 zcX3 fl_X3_15 ⟨by decide, by omega⟩ rfl rfl rfl (by decide) dX3_outletIn_8 rfl ?_
  refine Z_icmp_ge (tgt := 39) dX3_outletIn_11 (by decide) (fun c1 => ?_) (fun c1 => ?_)
  · have h := h.1 c1
    refine Z_bipush dX3_outletIn_39 (by decide) ?_
    exact Z_ireturn dX3_outletIn_41 ⟨_, rfl, h⟩
  · have h := h.2 c1
    refine Z_iload_n dX3_outletIn_14 rfl ?_
    refine Z_aload_n dX3_outletIn_15 rfl ?_
    refine Z_gr (t := 97) zcX3 fl_X3_43 ⟨by decide, by omega⟩ rfl rfl rfl (by decide) (by decide) dX3_outletIn_16 ?_
    refine Z_iload_n dX3_outletIn_19 rfl ?_
    obtain ⟨b2, h⟩ := h
    refine Z_iald (zin_c (by decide) (by omega) (by decide) (by decide) b2) dX3_outletIn_20 ?_
    refine Z_icmp_ge (tgt := 33) dX3_outletIn_21 (by decide) (fun c3 => ?_) (fun c3 => ?_)
    · have h := h.1 c3
      refine Z_iinc (lv2 := [some (Rv G 45), some (Iv x1), some (Iv x2), some (Iv (x3 + 1))]) dX3_outletIn_33 rfl rfl (by decide) rfl ?_
      refine Z_goto (tgt := 6) dX3_outletIn_36 (by decide) ?_
      exact Z_cut h ⟨rfl, rfl, rfl, rfl, trivial⟩
    · have h := h.2 c3
      refine Z_aload_n dX3_outletIn_24 rfl ?_
      refine Z_gr (t := 60) zcX3 fl_X3_40 ⟨by decide, by omega⟩ rfl rfl rfl (by decide) (by decide) dX3_outletIn_25 ?_
      refine Z_iload_n dX3_outletIn_28 rfl ?_
      obtain ⟨b4, h⟩ := h
      refine Z_aald3 (zin_c (by decide) (by omega) (by decide) (by decide) b4) dX3_outletIn_29 ?_
      refine Z_iload_n dX3_outletIn_30 rfl ?_
      obtain ⟨b5, h⟩ := h
      refine Z_iald (zin_c (zr_60 b4).1 (by have := b4; omega) (zr_60 b4).2.1 (zr_60 b4).2.2 b5) dX3_outletIn_31 ?_
      exact Z_ireturn dX3_outletIn_32 ⟨_, rfl, h⟩
