abbrev mX0_idleOnes (G : zG) (n : Nat) (μ : zM) (K : Int → zM → Prop) : Prop := zMt G n 1 yX0_idleOnes cX0_idleOnes 3 (some .int) [Rv G 30] μ (zKi K)
abbrev pX0_idleOnes (G : zG) (n : Nat) (K : Int → zM → Prop) (pc : Nat) (lv : List (Option Value)) (st : List Value) (μ : zM) : Prop := Z G (zrm 1 0 0) RX0 "idleOnes" cX0_idleOnes 3 (some .int) (zPh G n (zKi K)) 0 0 pc lv st (zE G n μ)
theorem eX0_idleOnes {G : zG} {n : Nat} (hn : 45 ≤ n) {μ : zM} {K : Int → zM → Prop}
    (h : (pX0_idleOnes G n K 4 [some (Rv G 30), some (Iv 0), some (Iv 0)] [] μ)) :
    mX0_idleOnes G n  μ K := by
  refine zMt_of (lv := [some (Rv G 30), none, none]) (by decide) rfl (Nat.le_of_ble_eq_true rfl) ?_
  show pX0_idleOnes G n K 0 [some (Rv G 30), none, none] [] μ
  refine Z_iconst dX0_idleOnes_0 ?_
  refine Z_istore_n (lv2 := [some (Rv G 30), some (Iv 0), none]) dX0_idleOnes_1 rfl (by decide) rfl ?_
  refine Z_iconst dX0_idleOnes_2 ?_
  refine Z_istore_n (lv2 := [some (Rv G 30), some (Iv 0), some (Iv 0)]) dX0_idleOnes_3 rfl (by decide) rfl ?_
  exact Z_cut h ⟨rfl, rfl, rfl, trivial⟩
theorem bX0_idleOnes_4 {G : zG} {n : Nat} (hn : 45 ≤ n) {x1 x2 : Int} {μ : zM} {K : Int → zM → Prop}
    (h : (((wr (μ 30 1) ≤ wr x2 → (K x1 μ)) ∧ (¬ (wr (μ 30 1) ≤ wr x2) → ((0 ≤ wr x2 ∧ wr x2 < 30) ∧ ((wr (μ 34 (wr x2)) = 0 → (pX0_idleOnes G n K 4 [some (Rv G 30), some (Iv x1), some (Iv (x2 + 1))] [] μ)) ∧ (¬ (wr (μ 34 (wr x2)) = 0) → (pX0_idleOnes G n K 4 [some (Rv G 30), some (Iv (x1 + 1)), some (Iv (x2 + 1))] [] μ)))))))) :
    pX0_idleOnes G n K 4 [some (Rv G 30), some (Iv x1), some (Iv x2)] [] μ := by
  refine Z_iload_n dX0_idleOnes_4 rfl ?_
  refine Z_aload_n dX0_idleOnes_5 rfl ?_
  refine Y_gi 1 zcX0 fl_X0_15 ⟨by decide, by omega⟩ rfl rfl rfl (by decide) dX0_idleOnes_6 rfl ?_
  refine Z_icmp_ge (tgt := 30) dX0_idleOnes_9 (by decide) (fun c1 => ?_) (fun c1 => ?_)
  · have h := h.1 c1
    refine Z_iload_n dX0_idleOnes_30 rfl ?_
    exact Z_ireturn dX0_idleOnes_31 ⟨_, rfl, h⟩
  · have h := h.2 c1
    refine Z_aload_n dX0_idleOnes_12 rfl ?_
    refine Z_gr (t := 34) zcX0 fl_X0_34 ⟨by decide, by omega⟩ rfl rfl rfl (by decide) (by decide) dX0_idleOnes_13 ?_
    refine Z_iload_n dX0_idleOnes_16 rfl ?_
    obtain ⟨b2, h⟩ := h
    refine Z_zald (zin_c (by decide) (by omega) (by decide) (by decide) b2) dX0_idleOnes_17 ?_
    refine Z_if_eq (tgt := 24) dX0_idleOnes_18 (by decide) (fun c3 => ?_) (fun c3 => ?_)
    · have h := h.1 c3
      refine Z_iinc (lv2 := [some (Rv G 30), some (Iv x1), some (Iv (x2 + 1))]) dX0_idleOnes_24 rfl rfl (by decide) rfl ?_
      refine Z_goto (tgt := 4) dX0_idleOnes_27 (by decide) ?_
      exact Z_cut h ⟨rfl, rfl, rfl, trivial⟩
    · have h := h.2 c3
      refine Z_iinc (lv2 := [some (Rv G 30), some (Iv (x1 + 1)), some (Iv x2)]) dX0_idleOnes_21 rfl rfl (by decide) rfl ?_
      refine Z_iinc (lv2 := [some (Rv G 30), some (Iv (x1 + 1)), some (Iv (x2 + 1))]) dX0_idleOnes_24 rfl rfl (by decide) rfl ?_
      refine Z_goto (tgt := 4) dX0_idleOnes_27 (by decide) ?_
      exact Z_cut h ⟨rfl, rfl, rfl, trivial⟩
abbrev mX0_kindOf (G : zG) (n : Nat) (x1 : Int) (μ : zM) (K : Int → zM → Prop) : Prop := zMt G n 1 yX0_kindOf cX0_kindOf 2 (some .int) [Rv G 30, Iv x1] μ (zKi K)
abbrev pX0_kindOf (G : zG) (n : Nat) (K : Int → zM → Prop) (pc : Nat) (lv : List (Option Value)) (st : List Value) (μ : zM) : Prop := Z G (zrm 1 0 0) RX0 "kindOf" cX0_kindOf 2 (some .int) (zPh G n (zKi K)) 0 0 pc lv st (zE G n μ)
theorem eX0_kindOf {G : zG} {n : Nat} (hn : 45 ≤ n) {x1 : Int} {μ : zM} {K : Int → zM → Prop}
    (h : ((0 ≤ wr x1 ∧ wr x1 < 30) ∧ (0 ≤ wr x1 ∧ wr x1 < 30) ∧ ((wr (μ 31 (wr x1)) ≤ wr (μ 32 (wr x1)) → ((0 ≤ wr x1 ∧ wr x1 < 30) ∧ (0 ≤ wr x1 ∧ wr x1 < 30) ∧ ((wr ((μ 32 (wr x1)) - (μ 31 (wr x1))) ≤ wr 1 → (K 0 μ)) ∧ (¬ (wr ((μ 32 (wr x1)) - (μ 31 (wr x1))) ≤ wr 1) → (K 1 μ))))) ∧ (¬ (wr (μ 31 (wr x1)) ≤ wr (μ 32 (wr x1))) → (K 2 μ))))) :
    mX0_kindOf G n x1 μ K := by
  refine zMt_of (lv := [some (Rv G 30), some (Iv x1)]) (by decide) rfl (Nat.le_of_ble_eq_true rfl) ?_
  show pX0_kindOf G n K 0 [some (Rv G 30), some (Iv x1)] [] μ
  refine Z_aload_n dX0_kindOf_0 rfl ?_
  refine Z_gr (t := 31) zcX0 fl_X0_24 ⟨by decide, by omega⟩ rfl rfl rfl (by decide) (by decide) dX0_kindOf_1 ?_
  refine Z_iload_n dX0_kindOf_4 rfl ?_
  obtain ⟨b1, h⟩ := h
  refine Z_iald (zin_c (by decide) (by omega) (by decide) (by decide) b1) dX0_kindOf_5 ?_
  refine Z_aload_n dX0_kindOf_6 rfl ?_
  refine Z_gr (t := 32) zcX0 fl_X0_28 ⟨by decide, by omega⟩ rfl rfl rfl (by decide) (by decide) dX0_kindOf_7 ?_
  refine Z_iload_n dX0_kindOf_10 rfl ?_
  obtain ⟨b2, h⟩ := h
  refine Z_iald (zin_c (by decide) (by omega) (by decide) (by decide) b2) dX0_kindOf_11 ?_
  refine Z_icmp_le (tgt := 17) dX0_kindOf_12 (by decide) (fun c3 => ?_) (fun c3 => ?_)
  · have h := h.1 c3
    refine Z_aload_n dX0_kindOf_17 rfl ?_
    refine Z_gr (t := 32) zcX0 fl_X0_28 ⟨by decide, by omega⟩ rfl rfl rfl (by decide) (by decide) dX0_kindOf_18 ?_
    refine Z_iload_n dX0_kindOf_21 rfl ?_
    obtain ⟨b4, h⟩ := h
    refine Z_iald (zin_c (by decide) (by omega) (by decide) (by decide) b4) dX0_kindOf_22 ?_
    refine Z_aload_n dX0_kindOf_23 rfl ?_
    refine Z_gr (t := 31) zcX0 fl_X0_24 ⟨by decide, by omega⟩ rfl rfl rfl (by decide) (by decide) dX0_kindOf_24 ?_
    refine Z_iload_n dX0_kindOf_27 rfl ?_
    obtain ⟨b5, h⟩ := h
    refine Z_iald (zin_c (by decide) (by omega) (by decide) (by decide) b5) dX0_kindOf_28 ?_
    refine Z_isub dX0_kindOf_29 ?_
    refine Z_iconst dX0_kindOf_30 ?_
    refine Z_icmp_le (tgt := 38) dX0_kindOf_31 (by decide) (fun c6 => ?_) (fun c6 => ?_)
    · have h := h.1 c6
      refine Z_iconst dX0_kindOf_38 ?_
      exact Z_ireturn dX0_kindOf_39 ⟨_, rfl, h⟩
    · have h := h.2 c6
      refine Z_iconst dX0_kindOf_34 ?_
      refine Z_goto (tgt := 39) dX0_kindOf_35 (by decide) ?_
      exact Z_ireturn dX0_kindOf_39 ⟨_, rfl, h⟩
  · have h := h.2 c3
    refine Z_iconst dX0_kindOf_15 ?_
    exact Z_ireturn dX0_kindOf_16 ⟨_, rfl, h⟩
abbrev mX0_leaveTrace (G : zG) (n : Nat) (x1 : Int) (μ : zM) (K : zM → Prop) : Prop := zMt G n 1 yX0_leaveTrace cX0_leaveTrace 2 none [Rv G 30, Iv x1] μ (zKv K)
abbrev pX0_leaveTrace (G : zG) (n : Nat) (K : zM → Prop) (pc : Nat) (lv : List (Option Value)) (st : List Value) (μ : zM) : Prop := Z G (zrm 1 0 0) RX0 "leaveTrace" cX0_leaveTrace 2 none (zPh G n (zKv K)) 0 0 pc lv st (zE G n μ)
theorem eX0_leaveTrace {G : zG} {n : Nat} (hn : 45 ≤ n) {x1 : Int} {μ : zM} {K : zM → Prop}
    (h : (∀ μ1 : zM, μ1 = zu μ 30 3 ((31 * (μ 30 3)) + x1) → K μ1)) :
    mX0_leaveTrace G n x1 μ K := by
  refine zMt_of (lv := [some (Rv G 30), some (Iv x1)]) (by decide) rfl (Nat.le_of_ble_eq_true rfl) ?_
  show pX0_leaveTrace G n K 0 [some (Rv G 30), some (Iv x1)] [] μ
  refine Z_aload_n dX0_leaveTrace_0 rfl ?_
  refine Z_bipush dX0_leaveTrace_1 (by decide) ?_
  refine Z_aload_n dX0_leaveTrace_3 rfl ?_
  refine Y_gi 3 zcX0 fl_X0_21 ⟨by decide, by omega⟩ rfl rfl rfl (by decide) dX0_leaveTrace_4 rfl ?_
  refine Z_imul dX0_leaveTrace_7 ?_
  refine Z_iload_n dX0_leaveTrace_8 rfl ?_
  refine Z_iadd dX0_leaveTrace_9 ?_
  refine Y_pi 3 zcX0 fk_X0_21 ⟨by decide, by omega⟩ rfl rfl rfl (by decide) rfl (tyX0_ok 3 (by decide)) dX0_leaveTrace_10 rfl ?_
  obtain ⟨μ1, eμ1⟩ : ∃ z : zM, z = zu μ 30 3 ((31 * (μ 30 3)) + x1) := ⟨_, rfl⟩
  have h := h μ1 eμ1
  refine Z_mem eμ1 ?_
  exact Z_return dX0_leaveTrace_13 ⟨rfl, h⟩
abbrev mX0_unsortedIn (G : zG) (n : Nat) (x1 : Int) (μ : zM) (K : Int → zM → Prop) : Prop := zMt G n 1 yX0_unsortedIn cX0_unsortedIn 5 (some .long) [Rv G 30, Iv x1] μ (zKl K)
abbrev pX0_unsortedIn (G : zG) (n : Nat) (K : Int → zM → Prop) (pc : Nat) (lv : List (Option Value)) (st : List Value) (μ : zM) : Prop := Z G (zrm 1 0 0) RX0 "unsortedIn" cX0_unsortedIn 5 (some .long) (zPh G n (zKl K)) 0 0 pc lv st (zE G n μ)
theorem eX0_unsortedIn {G : zG} {n : Nat} (hn : 45 ≤ n) {x1 : Int} {μ : zM} {K : Int → zM → Prop}
    (h : (pX0_unsortedIn G n K 5 [some (Rv G 30), some (Iv x1), some (Lv 0), none, some (Iv 0)] [] μ)) :
    mX0_unsortedIn G n x1 μ K := by
  refine zMt_of (lv := [some (Rv G 30), some (Iv x1), none, none, none]) (by decide) rfl (Nat.le_of_ble_eq_true rfl) ?_
  show pX0_unsortedIn G n K 0 [some (Rv G 30), some (Iv x1), none, none, none] [] μ
  refine Z_lconst (a := 0) dX0_unsortedIn_0 (by decide) ?_
  refine Z_lstore_n (lv2 := [some (Rv G 30), some (Iv x1), some (Lv 0), none, none]) dX0_unsortedIn_1 rfl (by decide) rfl ?_
  refine Z_iconst dX0_unsortedIn_2 ?_
  refine Z_istore (lv2 := [some (Rv G 30), some (Iv x1), some (Lv 0), none, some (Iv 0)]) dX0_unsortedIn_3 rfl (by decide) rfl ?_
  exact Z_cut h ⟨rfl, rfl, rfl, trivial, rfl, trivial⟩
theorem bX0_unsortedIn_5 {G : zG} {n : Nat} (hn : 45 ≤ n) {x1 x2 x4 : Int} {μ : zM} {K : Int → zM → Prop}
    (h : (((wr (μ 30 0) ≤ wr (x4 + 1) → (∀ v2 : Int, v2 = zshl 1 (μ 30 0) → ((wr 64 ≤ wr v2 → (K x2 μ)) ∧ (¬ (wr 64 ≤ wr v2) → (K (zland x2 ((zlshl 1 v2) - 1)) μ))))) ∧ (¬ (wr (μ 30 0) ≤ wr (x4 + 1)) → ((0 ≤ wr x4 ∧ wr x4 < 8) ∧ (0 ≤ wr x1 ∧ wr x1 < 4) ∧ (0 ≤ wr (x4 + 1) ∧ wr (x4 + 1) < 8) ∧ (0 ≤ wr x1 ∧ wr x1 < 4) ∧ ∀ v8 : Int, v8 = zlor x2 (zland (μ (36 + 1 + wr x4) (wr x1)) (zlxor (μ (36 + 1 + wr (x4 + 1)) (wr x1)) ((-1)))) → pX0_unsortedIn G n K 5 [some (Rv G 30), some (Iv x1), some (Lv v8), none, some (Iv (x4 + 1))] [] μ))))) :
    pX0_unsortedIn G n K 5 [some (Rv G 30), some (Iv x1), some (Lv x2), none, some (Iv x4)] [] μ := by
  refine Z_iload dX0_unsortedIn_5 rfl ?_
  refine Z_iconst dX0_unsortedIn_7 ?_
  refine Z_iadd dX0_unsortedIn_8 ?_
  refine Z_aload_n dX0_unsortedIn_9 rfl ?_
  refine Y_gi 0 zcX0 fl_X0_9 ⟨by decide, by omega⟩ rfl rfl rfl (by decide) dX0_unsortedIn_10 rfl ?_
  refine Z_icmp_ge (tgt := 50) dX0_unsortedIn_13 (by decide) (fun c1 => ?_) (fun c1 => ?_)
  · have h := h.1 c1
    refine Z_iconst dX0_unsortedIn_50 ?_
    refine Z_aload_n dX0_unsortedIn_51 rfl ?_
    refine Y_gi 0 zcX0 fl_X0_9 ⟨by decide, by omega⟩ rfl rfl rfl (by decide) dX0_unsortedIn_52 rfl ?_
    refine Z_ishl dX0_unsortedIn_55 ?_
    obtain ⟨v2, ev2⟩ : ∃ z : Int, z = zshl 1 (μ 30 0) := ⟨_, rfl⟩
    have h := h v2 ev2
    refine Z_nmi ev2 ?_
    refine Z_istore (lv2 := [some (Rv G 30), some (Iv x1), some (Lv x2), none, some (Iv v2)]) dX0_unsortedIn_56 rfl (by decide) rfl ?_
    refine Z_iload dX0_unsortedIn_58 rfl ?_
    refine Z_bipush dX0_unsortedIn_60 (by decide) ?_
    refine Z_icmp_ge (tgt := 76) dX0_unsortedIn_62 (by decide) (fun c3 => ?_) (fun c3 => ?_)
    · have h := h.1 c3
      refine Z_lload_n dX0_unsortedIn_76 rfl ?_
      exact Z_lreturn dX0_unsortedIn_77 ⟨_, rfl, h⟩
    · have h := h.2 c3
      refine Z_lload_n dX0_unsortedIn_65 rfl ?_
      refine Z_lconst (a := 1) dX0_unsortedIn_66 (by decide) ?_
      refine Z_iload dX0_unsortedIn_67 rfl ?_
      refine Z_lshl dX0_unsortedIn_69 ?_
      refine Z_lconst (a := 1) dX0_unsortedIn_70 (by decide) ?_
      refine Z_lsub dX0_unsortedIn_71 ?_
      refine Z_land dX0_unsortedIn_72 ?_
      refine Z_goto (tgt := 77) dX0_unsortedIn_73 (by decide) ?_
      exact Z_lreturn dX0_unsortedIn_77 ⟨_, rfl, h⟩
  · have h := h.2 c1
    refine Z_lload_n dX0_unsortedIn_16 rfl ?_
    refine Z_aload_n dX0_unsortedIn_17 rfl ?_
    refine Z_gr (t := 36) zcX0 fl_X0_43 ⟨by decide, by omega⟩ rfl rfl rfl (by decide) (by decide) dX0_unsortedIn_18 ?_
    refine Z_iload dX0_unsortedIn_21 rfl ?_
    obtain ⟨b4, h⟩ := h
    refine Z_aald4 (zin_c (by decide) (by omega) (by decide) (by decide) b4) dX0_unsortedIn_23 ?_
    refine Z_iload_n dX0_unsortedIn_24 rfl ?_
    obtain ⟨b5, h⟩ := h
    refine Z_lald (zin_c (zr_36 b4).1 (by have := b4; omega) (zr_36 b4).2.1 (zr_36 b4).2.2 b5) dX0_unsortedIn_25 ?_
    refine Z_aload_n dX0_unsortedIn_26 rfl ?_
    refine Z_gr (t := 36) zcX0 fl_X0_43 ⟨by decide, by omega⟩ rfl rfl rfl (by decide) (by decide) dX0_unsortedIn_27 ?_
    refine Z_iload dX0_unsortedIn_30 rfl ?_
    refine Z_iconst dX0_unsortedIn_32 ?_
    refine Z_iadd dX0_unsortedIn_33 ?_
    obtain ⟨b6, h⟩ := h
    refine Z_aald4 (zin_c (by decide) (by omega) (by decide) (by decide) b6) dX0_unsortedIn_34 ?_
    refine Z_iload_n dX0_unsortedIn_35 rfl ?_
    obtain ⟨b7, h⟩ := h
    refine Z_lald (zin_c (zr_36 b6).1 (by have := b6; omega) (zr_36 b6).2.1 (zr_36 b6).2.2 b7) dX0_unsortedIn_36 ?_
    refine Z_ldc2 (a := -1) dX0_unsortedIn_37 cl_X0_106 (by decide) ?_
    refine Z_lxor dX0_unsortedIn_40 ?_
    refine Z_land dX0_unsortedIn_41 ?_
    refine Z_lor dX0_unsortedIn_42 ?_
    obtain ⟨v8, ev8⟩ : ∃ z : Int, z = zlor x2 (zland (μ (36 + 1 + wr x4) (wr x1)) (zlxor (μ (36 + 1 + wr (x4 + 1)) (wr x1)) ((-1)))) := ⟨_, rfl⟩
    have h := h v8 ev8
    refine Z_nml ev8 ?_
    refine Z_lstore_n (lv2 := [some (Rv G 30), some (Iv x1), some (Lv v8), none, some (Iv x4)]) dX0_unsortedIn_43 rfl (by decide) rfl ?_
    refine Z_iinc (lv2 := [some (Rv G 30), some (Iv x1), some (Lv v8), none, some (Iv (x4 + 1))]) dX0_unsortedIn_44 rfl rfl (by decide) rfl ?_
    refine Z_goto (tgt := 5) dX0_unsortedIn_47 (by decide) ?_
    exact Z_cut h ⟨rfl, rfl, rfl, trivial, rfl, trivial⟩
abbrev mX0_lead (G : zG) (n : Nat) (x1 : Int) (μ : zM) (K : zM → Prop) : Prop := zMt G n 2 yX0_lead cX0_lead 5 none [Rv G 30, Rv G x1] μ (zKv K)
abbrev pX0_lead (G : zG) (n : Nat) (K : zM → Prop) (pc : Nat) (lv : List (Option Value)) (st : List Value) (μ : zM) : Prop := Z G (zrm 2 0 0) RX0 "lead" cX0_lead 5 none (zPh G n (zKv K)) 0 0 pc lv st (zE G n μ)
theorem eX0_lead {G : zG} {n : Nat} (hn : 45 ≤ n) {x1 : Int} {μ : zM} {K : zM → Prop}
    (h : (pX0_lead G n K 2 [some (Rv G 30), some (Rv G x1), some (Iv 0), none, none] [] μ)) :
    mX0_lead G n x1 μ K := by
  refine zMt_of (lv := [some (Rv G 30), some (Rv G x1), none, none, none]) (by decide) rfl (Nat.le_of_ble_eq_true rfl) ?_
  show pX0_lead G n K 0 [some (Rv G 30), some (Rv G x1), none, none, none] [] μ
  refine Z_iconst dX0_lead_0 ?_
  refine Z_istore_n (lv2 := [some (Rv G 30), some (Rv G x1), some (Iv 0), none, none]) dX0_lead_1 rfl (by decide) rfl ?_
  exact Z_cut h ⟨rfl, rfl, rfl, trivial, trivial, trivial⟩
theorem bX0_lead_2 {G : zG} {n : Nat} (hn : 45 ≤ n) {x1 x2 : Int} {μ : zM} {K : zM → Prop}
    (h : (((wr (μ 30 1) ≤ wr x2 → (K μ)) ∧ (¬ (wr (μ 30 1) ≤ wr x2) → ((0 ≤ wr x2 ∧ wr x2 < 30) ∧ zin 0 n x1 (μ 31 (wr x2)) ∧ (0 ≤ wr x2 ∧ wr x2 < 30) ∧ zin 0 n x1 (μ 32 (wr x2)) ∧ ∀ v6 : Int, v6 = min (wr (μ x1 (wr (μ 31 (wr x2))))) (wr (μ x1 (wr (μ 32 (wr x2))))) → (0 ≤ wr x2 ∧ wr x2 < 30) ∧ zin 0 n x1 (μ 31 (wr x2)) ∧ (0 ≤ wr x2 ∧ wr x2 < 30) ∧ zin 0 n x1 (μ 32 (wr x2)) ∧ ∀ v11 : Int, v11 = max (wr (μ x1 (wr (μ 31 (wr x2))))) (wr (μ x1 (wr (μ 32 (wr x2))))) → (0 ≤ wr x2 ∧ wr x2 < 30) ∧ zin 0 n x1 (μ 31 (wr x2)) ∧ ∀ μ14 : zM, μ14 = zu μ x1 (wr (μ 31 (wr x2))) v6 → (0 ≤ wr x2 ∧ wr x2 < 30) ∧ zin 0 n x1 (μ14 32 (wr x2)) ∧ ∀ μ17 : zM, μ17 = zu μ14 x1 (wr (μ14 32 (wr x2))) v11 → pX0_lead G n K 2 [some (Rv G 30), some (Rv G x1), some (Iv (x2 + 1)), none, none] [] μ17))))) :
    pX0_lead G n K 2 [some (Rv G 30), some (Rv G x1), some (Iv x2), none, none] [] μ := by
  refine Z_iload_n dX0_lead_2 rfl ?_
  refine Z_aload_n dX0_lead_3 rfl ?_
  refine Y_gi 1 zcX0 fl_X0_15 ⟨by decide, by omega⟩ rfl rfl rfl (by decide) dX0_lead_4 rfl ?_
  refine Z_icmp_ge (tgt := 76) dX0_lead_7 (by decide) (fun c1 => ?_) (fun c1 => ?_)
  · have h := h.1 c1
    exact Z_return dX0_lead_76 ⟨rfl, h⟩
  · have h := h.2 c1
    refine Z_aload_n dX0_lead_10 rfl ?_
    refine Z_aload_n dX0_lead_11 rfl ?_
    refine Z_gr (t := 31) zcX0 fl_X0_24 ⟨by decide, by omega⟩ rfl rfl rfl (by decide) (by decide) dX0_lead_12 ?_
    refine Z_iload_n dX0_lead_15 rfl ?_
    obtain ⟨b2, h⟩ := h
    refine Z_iald (zin_c (by decide) (by omega) (by decide) (by decide) b2) dX0_lead_16 ?_
    obtain ⟨b3, h⟩ := h
    refine Z_iald b3 dX0_lead_17 ?_
    refine Z_aload_n dX0_lead_18 rfl ?_
    refine Z_aload_n dX0_lead_19 rfl ?_
    refine Z_gr (t := 32) zcX0 fl_X0_28 ⟨by decide, by omega⟩ rfl rfl rfl (by decide) (by decide) dX0_lead_20 ?_
    refine Z_iload_n dX0_lead_23 rfl ?_
    obtain ⟨b4, h⟩ := h
    refine Z_iald (zin_c (by decide) (by omega) (by decide) (by decide) b4) dX0_lead_24 ?_
    obtain ⟨b5, h⟩ := h
    refine Z_iald b5 dX0_lead_25 ?_
    refine Z_min lk_X0_49 mt1_min mt2 mt3_min ⟨by decide, Nat.le_of_ble_eq_true rfl⟩ ⟨Nat.zero_le _, Nat.zero_le _⟩ dX0_lead_26 ?_
    obtain ⟨v6, ev6⟩ : ∃ z : Int, z = min (wr (μ x1 (wr (μ 31 (wr x2))))) (wr (μ x1 (wr (μ 32 (wr x2))))) := ⟨_, rfl⟩
    have h := h v6 ev6
    refine Z_nmi ev6 ?_
    refine Z_istore_n (lv2 := [some (Rv G 30), some (Rv G x1), some (Iv x2), some (Iv v6), none]) dX0_lead_29 rfl (by decide) rfl ?_
    refine Z_aload_n dX0_lead_30 rfl ?_
    refine Z_aload_n dX0_lead_31 rfl ?_
    refine Z_gr (t := 31) zcX0 fl_X0_24 ⟨by decide, by omega⟩ rfl rfl rfl (by decide) (by decide) dX0_lead_32 ?_
    refine Z_iload_n dX0_lead_35 rfl ?_
    obtain ⟨b7, h⟩ := h
    refine Z_iald (zin_c (by decide) (by omega) (by decide) (by decide) b7) dX0_lead_36 ?_
    obtain ⟨b8, h⟩ := h
    refine Z_iald b8 dX0_lead_37 ?_
    refine Z_aload_n dX0_lead_38 rfl ?_
    refine Z_aload_n dX0_lead_39 rfl ?_
    refine Z_gr (t := 32) zcX0 fl_X0_28 ⟨by decide, by omega⟩ rfl rfl rfl (by decide) (by decide) dX0_lead_40 ?_
    refine Z_iload_n dX0_lead_43 rfl ?_
    obtain ⟨b9, h⟩ := h
    refine Z_iald (zin_c (by decide) (by omega) (by decide) (by decide) b9) dX0_lead_44 ?_
    obtain ⟨b10, h⟩ := h
    refine Z_iald b10 dX0_lead_45 ?_
    refine Z_max lk_X0_55 mt1_max mt2 mt3_max ⟨by decide, Nat.le_of_ble_eq_true rfl⟩ ⟨Nat.zero_le _, Nat.zero_le _⟩ dX0_lead_46 ?_
    obtain ⟨v11, ev11⟩ : ∃ z : Int, z = max (wr (μ x1 (wr (μ 31 (wr x2))))) (wr (μ x1 (wr (μ 32 (wr x2))))) := ⟨_, rfl⟩
    have h := h v11 ev11
    refine Z_nmi ev11 ?_
    refine Z_istore (lv2 := [some (Rv G 30), some (Rv G x1), some (Iv x2), some (Iv v6), some (Iv v11)]) dX0_lead_49 rfl (by decide) rfl ?_
    refine Z_aload_n dX0_lead_51 rfl ?_
    refine Z_aload_n dX0_lead_52 rfl ?_
    refine Z_gr (t := 31) zcX0 fl_X0_24 ⟨by decide, by omega⟩ rfl rfl rfl (by decide) (by decide) dX0_lead_53 ?_
    refine Z_iload_n dX0_lead_56 rfl ?_
    obtain ⟨b12, h⟩ := h
    refine Z_iald (zin_c (by decide) (by omega) (by decide) (by decide) b12) dX0_lead_57 ?_
    refine Z_iload_n dX0_lead_58 rfl ?_
    obtain ⟨b13, h⟩ := h
    refine Z_iast b13 dX0_lead_59 ?_
    obtain ⟨μ14, eμ14⟩ : ∃ z : zM, z = zu μ x1 (wr (μ 31 (wr x2))) v6 := ⟨_, rfl⟩
    have h := h μ14 eμ14
    refine Z_mem eμ14 ?_
    refine Z_aload_n dX0_lead_60 rfl ?_
    refine Z_aload_n dX0_lead_61 rfl ?_
    refine Z_gr (t := 32) zcX0 fl_X0_28 ⟨by decide, by omega⟩ rfl rfl rfl (by decide) (by decide) dX0_lead_62 ?_
    refine Z_iload_n dX0_lead_65 rfl ?_
    obtain ⟨b15, h⟩ := h
    refine Z_iald (zin_c (by decide) (by omega) (by decide) (by decide) b15) dX0_lead_66 ?_
    refine Z_iload dX0_lead_67 rfl ?_
    obtain ⟨b16, h⟩ := h
    refine Z_iast b16 dX0_lead_69 ?_
    obtain ⟨μ17, eμ17⟩ : ∃ z : zM, z = zu μ14 x1 (wr (μ14 32 (wr x2))) v11 := ⟨_, rfl⟩
    have h := h μ17 eμ17
    refine Z_mem eμ17 ?_
    refine Z_iinc (lv2 := [some (Rv G 30), some (Rv G x1), some (Iv (x2 + 1)), some (Iv v6), some (Iv v11)]) dX0_lead_70 rfl rfl (by decide) rfl ?_
    refine Z_goto (tgt := 2) dX0_lead_73 (by decide) ?_
    exact Z_cut h ⟨rfl, rfl, rfl, trivial, trivial, trivial⟩
abbrev mX0_shown (G : zG) (n : Nat) (x1 : Int) (μ : zM) (K : Int → zM → Prop) : Prop := zMt G n 2 yX0_shown cX0_shown 3 (some .int) [Rv G 30, Iv x1] μ (zKi K)
abbrev pX0_shown (G : zG) (n : Nat) (K : Int → zM → Prop) (pc : Nat) (lv : List (Option Value)) (st : List Value) (μ : zM) : Prop := Z G (zrm 2 0 0) RX0 "shown" cX0_shown 3 (some .int) (zPh G n (zKi K)) 0 0 pc lv st (zE G n μ)
theorem eX0_shown {G : zG} {n : Nat} (hn : 45 ≤ n) {x1 : Int} {μ : zM} {K : Int → zM → Prop}
    (h : (mX0_kindOf G n x1 μ (fun r1 μ2 => ((¬ wr r1 = wr 2 → (((wr 0 = 0 → (mX0_leaveTrace G n 4 μ2 (fun μ6 => ((wr 0 = 0 → (K x1 μ6)) ∧ (¬ (wr 0 = 0) → (K 30 μ6)))))) ∧ (¬ (wr 0 = 0) → (mX0_leaveTrace G n 5 μ2 (fun μ9 => ((wr 0 = 0 → (K x1 μ9)) ∧ (¬ (wr 0 = 0) → (K 30 μ9))))))))) ∧ (wr r1 = wr 2 → (((wr 1 = 0 → (mX0_leaveTrace G n 4 μ2 (fun μ13 => ((wr 1 = 0 → (K x1 μ13)) ∧ (¬ (wr 1 = 0) → (K 30 μ13)))))) ∧ (¬ (wr 1 = 0) → (mX0_leaveTrace G n 5 μ2 (fun μ16 => ((wr 1 = 0 → (K x1 μ16)) ∧ (¬ (wr 1 = 0) → (K 30 μ16))))))))))))) :
    mX0_shown G n x1 μ K := by
  refine zMt_of (lv := [some (Rv G 30), some (Iv x1), none]) (by decide) rfl (Nat.le_of_ble_eq_true rfl) ?_
  show pX0_shown G n K 0 [some (Rv G 30), some (Iv x1), none] [] μ
  refine Z_aload_n dX0_shown_0 rfl ?_
  refine Z_iload_n dX0_shown_1 rfl ?_
  refine Z_callVi h md_X0_kindOf sv_X0_kindOf lk_X0_72 zcX0 rfl ⟨by decide, by omega⟩ rfl rfl rfl rfl (Nat.le_of_ble_eq_true rfl) dX0_shown_2 ⟨by decide, Nat.le_of_ble_eq_true rfl⟩ ⟨Nat.zero_le _, Nat.zero_le _⟩ ?_
  intro r1 μ2 h
  refine Z_iconst dX0_shown_5 ?_
  refine Z_icmp_ne (tgt := 13) dX0_shown_6 (by decide) (fun c3 => ?_) (fun c3 => ?_)
  · have h := h.1 c3
    refine Z_iconst dX0_shown_13 ?_
    refine Z_istore_n (lv2 := [some (Rv G 30), some (Iv x1), some (Iv 0)]) dX0_shown_14 rfl (by decide) rfl ?_
    refine Z_aload_n dX0_shown_15 rfl ?_
    refine Z_iload_n dX0_shown_16 rfl ?_
    refine Z_if_eq (tgt := 24) dX0_shown_17 (by decide) (fun c4 => ?_) (fun c4 => ?_)
    · have h := h.1 c4
      refine Z_iconst dX0_shown_24 ?_
      refine Z_callVv h md_X0_leaveTrace sv_X0_leaveTrace lk_X0_85 zcX0 rfl ⟨by decide, by omega⟩ rfl rfl rfl rfl (Nat.le_of_ble_eq_true rfl) dX0_shown_25 ⟨by decide, Nat.le_of_ble_eq_true rfl⟩ ⟨Nat.zero_le _, Nat.zero_le _⟩ ?_
      intro μ6 h
      refine Z_iload_n dX0_shown_28 rfl ?_
      refine Z_if_eq (tgt := 37) dX0_shown_29 (by decide) (fun c7 => ?_) (fun c7 => ?_)
      · have h := h.1 c7
        refine Z_iload_n dX0_shown_37 rfl ?_
        exact Z_ireturn dX0_shown_38 ⟨_, rfl, h⟩
      · have h := h.2 c7
        refine Z_bipush dX0_shown_32 (by decide) ?_
        refine Z_goto (tgt := 38) dX0_shown_34 (by decide) ?_
        exact Z_ireturn dX0_shown_38 ⟨_, rfl, h⟩
    · have h := h.2 c4
      refine Z_iconst dX0_shown_20 ?_
      refine Z_goto (tgt := 25) dX0_shown_21 (by decide) ?_
      refine Z_callVv h md_X0_leaveTrace sv_X0_leaveTrace lk_X0_85 zcX0 rfl ⟨by decide, by omega⟩ rfl rfl rfl rfl (Nat.le_of_ble_eq_true rfl) dX0_shown_25 ⟨by decide, Nat.le_of_ble_eq_true rfl⟩ ⟨Nat.zero_le _, Nat.zero_le _⟩ ?_
      intro μ9 h
      refine Z_iload_n dX0_shown_28 rfl ?_
      refine Z_if_eq (tgt := 37) dX0_shown_29 (by decide) (fun c10 => ?_) (fun c10 => ?_)
      · have h := h.1 c10
        refine Z_iload_n dX0_shown_37 rfl ?_
        exact Z_ireturn dX0_shown_38 ⟨_, rfl, h⟩
      · have h := h.2 c10
        refine Z_bipush dX0_shown_32 (by decide) ?_
        refine Z_goto (tgt := 38) dX0_shown_34 (by decide) ?_
        exact Z_ireturn dX0_shown_38 ⟨_, rfl, h⟩
  · have h := h.2 c3
    refine Z_iconst dX0_shown_9 ?_
    refine Z_goto (tgt := 14) dX0_shown_10 (by decide) ?_
    refine Z_istore_n (lv2 := [some (Rv G 30), some (Iv x1), some (Iv 1)]) dX0_shown_14 rfl (by decide) rfl ?_
    refine Z_aload_n dX0_shown_15 rfl ?_
    refine Z_iload_n dX0_shown_16 rfl ?_
    refine Z_if_eq (tgt := 24) dX0_shown_17 (by decide) (fun c11 => ?_) (fun c11 => ?_)
    · have h := h.1 c11
      refine Z_iconst dX0_shown_24 ?_
      refine Z_callVv h md_X0_leaveTrace sv_X0_leaveTrace lk_X0_85 zcX0 rfl ⟨by decide, by omega⟩ rfl rfl rfl rfl (Nat.le_of_ble_eq_true rfl) dX0_shown_25 ⟨by decide, Nat.le_of_ble_eq_true rfl⟩ ⟨Nat.zero_le _, Nat.zero_le _⟩ ?_
      intro μ13 h
      refine Z_iload_n dX0_shown_28 rfl ?_
      refine Z_if_eq (tgt := 37) dX0_shown_29 (by decide) (fun c14 => ?_) (fun c14 => ?_)
      · have h := h.1 c14
        refine Z_iload_n dX0_shown_37 rfl ?_
        exact Z_ireturn dX0_shown_38 ⟨_, rfl, h⟩
      · have h := h.2 c14
        refine Z_bipush dX0_shown_32 (by decide) ?_
        refine Z_goto (tgt := 38) dX0_shown_34 (by decide) ?_
        exact Z_ireturn dX0_shown_38 ⟨_, rfl, h⟩
    · have h := h.2 c11
      refine Z_iconst dX0_shown_20 ?_
      refine Z_goto (tgt := 25) dX0_shown_21 (by decide) ?_
      refine Z_callVv h md_X0_leaveTrace sv_X0_leaveTrace lk_X0_85 zcX0 rfl ⟨by decide, by omega⟩ rfl rfl rfl rfl (Nat.le_of_ble_eq_true rfl) dX0_shown_25 ⟨by decide, Nat.le_of_ble_eq_true rfl⟩ ⟨Nat.zero_le _, Nat.zero_le _⟩ ?_
      intro μ16 h
      refine Z_iload_n dX0_shown_28 rfl ?_
      refine Z_if_eq (tgt := 37) dX0_shown_29 (by decide) (fun c17 => ?_) (fun c17 => ?_)
      · have h := h.1 c17
        refine Z_iload_n dX0_shown_37 rfl ?_
        exact Z_ireturn dX0_shown_38 ⟨_, rfl, h⟩
      · have h := h.2 c17
        refine Z_bipush dX0_shown_32 (by decide) ?_
        refine Z_goto (tgt := 38) dX0_shown_34 (by decide) ?_
        exact Z_ireturn dX0_shown_38 ⟨_, rfl, h⟩
abbrev mX0_toldPlain (G : zG) (n : Nat) (x1 : Int) (μ : zM) (K : Int → zM → Prop) : Prop := zMt G n 2 yX0_toldPlain cX0_toldPlain 2 (some .int) [Rv G 30, Iv x1] μ (zKi K)
abbrev pX0_toldPlain (G : zG) (n : Nat) (K : Int → zM → Prop) (pc : Nat) (lv : List (Option Value)) (st : List Value) (μ : zM) : Prop := Z G (zrm 2 0 0) RX0 "toldPlain" cX0_toldPlain 2 (some .int) (zPh G n (zKi K)) 0 0 pc lv st (zE G n μ)
theorem eX0_toldPlain {G : zG} {n : Nat} (hn : 45 ≤ n) {x1 : Int} {μ : zM} {K : Int → zM → Prop}
    (h : (mX0_leaveTrace G n 1 μ (fun μ2 => (0 ≤ wr x1 ∧ wr x1 < 30) ∧ K (μ2 31 (wr x1)) μ2))) :
    mX0_toldPlain G n x1 μ K := by
  refine zMt_of (lv := [some (Rv G 30), some (Iv x1)]) (by decide) rfl (Nat.le_of_ble_eq_true rfl) ?_
  show pX0_toldPlain G n K 0 [some (Rv G 30), some (Iv x1)] [] μ
  refine Z_aload_n dX0_toldPlain_0 rfl ?_
  refine Z_iconst dX0_toldPlain_1 ?_
  refine Z_callVv h md_X0_leaveTrace sv_X0_leaveTrace lk_X0_85 zcX0 rfl ⟨by decide, by omega⟩ rfl rfl rfl rfl (Nat.le_of_ble_eq_true rfl) dX0_toldPlain_2 ⟨by decide, Nat.le_of_ble_eq_true rfl⟩ ⟨Nat.zero_le _, Nat.zero_le _⟩ ?_
  intro μ2 h
  refine Z_aload_n dX0_toldPlain_5 rfl ?_
  refine Z_gr (t := 31) zcX0 fl_X0_24 ⟨by decide, by omega⟩ rfl rfl rfl (by decide) (by decide) dX0_toldPlain_6 ?_
  refine Z_iload_n dX0_toldPlain_9 rfl ?_
  obtain ⟨b3, h⟩ := h
  refine Z_iald (zin_c (by decide) (by omega) (by decide) (by decide) b3) dX0_toldPlain_10 ?_
  exact Z_ireturn dX0_toldPlain_11 ⟨_, rfl, h⟩
abbrev mX0_words (G : zG) (n : Nat) (μ : zM) (K : Int → zM → Prop) : Prop := zMt G n 2 yX0_words cX0_words 1 (some .int) [Rv G 30] μ (zKi K)
abbrev pX0_words (G : zG) (n : Nat) (K : Int → zM → Prop) (pc : Nat) (lv : List (Option Value)) (st : List Value) (μ : zM) : Prop := Z G (zrm 2 0 0) RX0 "words" cX0_words 1 (some .int) (zPh G n (zKi K)) 0 0 pc lv st (zE G n μ)
theorem eX0_words {G : zG} {n : Nat} (hn : 45 ≤ n) {μ : zM} {K : Int → zM → Prop}
    (h : (K (max (wr 1) (wr (zdiv (zshl 1 (μ 30 0)) 64))) μ)) :
    mX0_words G n  μ K := by
  refine zMt_of (lv := [some (Rv G 30)]) (by decide) rfl (Nat.le_of_ble_eq_true rfl) ?_
  show pX0_words G n K 0 [some (Rv G 30)] [] μ
  refine Z_iconst dX0_words_0 ?_
  refine Z_iconst dX0_words_1 ?_
  refine Z_aload_n dX0_words_2 rfl ?_
  refine Y_gi 0 zcX0 fl_X0_9 ⟨by decide, by omega⟩ rfl rfl rfl (by decide) dX0_words_3 rfl ?_
  refine Z_ishl dX0_words_6 ?_
  refine Z_bipush dX0_words_7 (by decide) ?_
  refine Z_idiv dX0_words_9 (by decide) ?_
  refine Z_max lk_X0_55 mt1_max mt2 mt3_max ⟨by decide, Nat.le_of_ble_eq_true rfl⟩ ⟨Nat.zero_le _, Nat.zero_le _⟩ dX0_words_10 ?_
  exact Z_ireturn dX0_words_13 ⟨_, rfl, h⟩
abbrev mX0_firstUnsorted (G : zG) (n : Nat) (μ : zM) (K : Int → zM → Prop) : Prop := zMt G n 3 yX0_firstUnsorted cX0_firstUnsorted 4 (some .int) [Rv G 30] μ (zKi K)
abbrev pX0_firstUnsorted (G : zG) (n : Nat) (K : Int → zM → Prop) (pc : Nat) (lv : List (Option Value)) (st : List Value) (μ : zM) : Prop := Z G (zrm 3 0 0) RX0 "firstUnsorted" cX0_firstUnsorted 4 (some .int) (zPh G n (zKi K)) 0 0 pc lv st (zE G n μ)
theorem eX0_firstUnsorted {G : zG} {n : Nat} (hn : 45 ≤ n) {μ : zM} {K : Int → zM → Prop}
    (h : (pX0_firstUnsorted G n K 2 [some (Rv G 30), some (Iv 0), none, none] [] μ)) :
    mX0_firstUnsorted G n  μ K := by
  refine zMt_of (lv := [some (Rv G 30), none, none, none]) (by decide) rfl (Nat.le_of_ble_eq_true rfl) ?_
  show pX0_firstUnsorted G n K 0 [some (Rv G 30), none, none, none] [] μ
  refine Z_iconst dX0_firstUnsorted_0 ?_
  refine Z_istore_n (lv2 := [some (Rv G 30), some (Iv 0), none, none]) dX0_firstUnsorted_1 rfl (by decide) rfl ?_
  exact Z_cut h ⟨rfl, rfl, trivial, trivial, trivial⟩
theorem bX0_firstUnsorted_2 {G : zG} {n : Nat} (hn : 45 ≤ n) {x1 : Int} {μ : zM} {K : Int → zM → Prop}
    (h : (mX0_words G n  μ (fun r1 μ2 => ((wr r1 ≤ wr x1 → (K ((-9)) μ2)) ∧ (¬ (wr r1 ≤ wr x1) → (mX0_unsortedIn G n x1 μ2 (fun r4 μ5 => ((wr (zlcmp r4 0) = 0 → (pX0_firstUnsorted G n K 2 [some (Rv G 30), some (Iv (x1 + 1)), none, none] [] μ5)) ∧ (¬ (wr (zlcmp r4 0) = 0) → (mJ13_bitCount_95d88 G n ((zland r4 (-r4)) - 1) μ5 (fun r7 μ8 => K ((x1 * 64) + r7) μ8))))))))))) :
    pX0_firstUnsorted G n K 2 [some (Rv G 30), some (Iv x1), none, none] [] μ := by
  refine Z_iload_n dX0_firstUnsorted_2 rfl ?_
  refine Z_aload_n dX0_firstUnsorted_3 rfl ?_
  refine Z_callVi h md_X0_words sv_X0_words lk_X0_58 zcX0 rfl ⟨by decide, by omega⟩ rfl rfl rfl rfl (Nat.le_of_ble_eq_true rfl) dX0_firstUnsorted_4 ⟨by decide, Nat.le_of_ble_eq_true rfl⟩ ⟨Nat.zero_le _, Nat.zero_le _⟩ ?_
  intro r1 μ2 h
  refine Z_icmp_ge (tgt := 43) dX0_firstUnsorted_7 (by decide) (fun c3 => ?_) (fun c3 => ?_)
  · have h := h.1 c3
    refine Z_bipush dX0_firstUnsorted_43 (by decide) ?_
    exact Z_ireturn dX0_firstUnsorted_45 ⟨_, rfl, h⟩
  · have h := h.2 c3
    refine Z_aload_n dX0_firstUnsorted_10 rfl ?_
    refine Z_iload_n dX0_firstUnsorted_11 rfl ?_
    refine Z_callVl h md_X0_unsortedIn sv_X0_unsortedIn lk_X0_62 zcX0 rfl ⟨by decide, by omega⟩ rfl rfl rfl rfl (Nat.le_of_ble_eq_true rfl) dX0_firstUnsorted_12 ⟨by decide, Nat.le_of_ble_eq_true rfl⟩ ⟨Nat.zero_le _, Nat.zero_le _⟩ ?_
    intro r4 μ5 h
    refine Z_lstore_n (lv2 := [some (Rv G 30), some (Iv x1), some (Lv r4), none]) dX0_firstUnsorted_15 rfl (by decide) rfl ?_
    refine Z_lload_n dX0_firstUnsorted_16 rfl ?_
    refine Z_lconst (a := 0) dX0_firstUnsorted_17 (by decide) ?_
    refine Z_lcmp dX0_firstUnsorted_18 ?_
    refine Z_if_eq (tgt := 37) dX0_firstUnsorted_19 (by decide) (fun c6 => ?_) (fun c6 => ?_)
    · have h := h.1 c6
      refine Z_iinc (lv2 := [some (Rv G 30), some (Iv (x1 + 1)), some (Lv r4), none]) dX0_firstUnsorted_37 rfl rfl (by decide) rfl ?_
      refine Z_goto (tgt := 2) dX0_firstUnsorted_40 (by decide) ?_
      exact Z_cut h ⟨rfl, rfl, trivial, trivial, trivial⟩
    · have h := h.2 c6
      refine Z_iload_n dX0_firstUnsorted_22 rfl ?_
      refine Z_bipush dX0_firstUnsorted_23 (by decide) ?_
      refine Z_imul dX0_firstUnsorted_25 ?_
      refine Z_lload_n dX0_firstUnsorted_26 rfl ?_
      refine Z_lload_n dX0_firstUnsorted_27 rfl ?_
      refine Z_lneg dX0_firstUnsorted_28 ?_
      refine Z_land dX0_firstUnsorted_29 ?_
      refine Z_lconst (a := 1) dX0_firstUnsorted_30 (by decide) ?_
      refine Z_lsub dX0_firstUnsorted_31 ?_
      refine Z_callSi h md_J13_bitCount_95d88 sv_J13_bitCount_95d88 lk_X0_66 rfl rfl (Nat.le_of_ble_eq_true rfl) dX0_firstUnsorted_32 ⟨by decide, Nat.le_of_ble_eq_true rfl⟩ ⟨Nat.zero_le _, Nat.zero_le _⟩ ?_
      intro r7 μ8 h
      refine Z_iadd dX0_firstUnsorted_35 ?_
      exact Z_ireturn dX0_firstUnsorted_36 ⟨_, rfl, h⟩
abbrev mX0_sortedRows (G : zG) (n : Nat) (μ : zM) (K : Int → zM → Prop) : Prop := zMt G n 3 yX0_sortedRows cX0_sortedRows 3 (some .int) [Rv G 30] μ (zKi K)
abbrev pX0_sortedRows (G : zG) (n : Nat) (K : Int → zM → Prop) (pc : Nat) (lv : List (Option Value)) (st : List Value) (μ : zM) : Prop := Z G (zrm 3 0 0) RX0 "sortedRows" cX0_sortedRows 3 (some .int) (zPh G n (zKi K)) 0 0 pc lv st (zE G n μ)
theorem eX0_sortedRows {G : zG} {n : Nat} (hn : 45 ≤ n) {μ : zM} {K : Int → zM → Prop}
    (h : (∀ v1 : Int, v1 = zshl 1 (μ 30 0) → pX0_sortedRows G n K 9 [some (Rv G 30), some (Iv v1), some (Iv 0)] [] μ)) :
    mX0_sortedRows G n  μ K := by
  refine zMt_of (lv := [some (Rv G 30), none, none]) (by decide) rfl (Nat.le_of_ble_eq_true rfl) ?_
  show pX0_sortedRows G n K 0 [some (Rv G 30), none, none] [] μ
  refine Z_iconst dX0_sortedRows_0 ?_
  refine Z_aload_n dX0_sortedRows_1 rfl ?_
  refine Y_gi 0 zcX0 fl_X0_9 ⟨by decide, by omega⟩ rfl rfl rfl (by decide) dX0_sortedRows_2 rfl ?_
  refine Z_ishl dX0_sortedRows_5 ?_
  obtain ⟨v1, ev1⟩ : ∃ z : Int, z = zshl 1 (μ 30 0) := ⟨_, rfl⟩
  have h := h v1 ev1
  refine Z_nmi ev1 ?_
  refine Z_istore_n (lv2 := [some (Rv G 30), some (Iv v1), none]) dX0_sortedRows_6 rfl (by decide) rfl ?_
  refine Z_iconst dX0_sortedRows_7 ?_
  refine Z_istore_n (lv2 := [some (Rv G 30), some (Iv v1), some (Iv 0)]) dX0_sortedRows_8 rfl (by decide) rfl ?_
  exact Z_cut h ⟨rfl, rfl, rfl, trivial⟩
theorem bX0_sortedRows_9 {G : zG} {n : Nat} (hn : 45 ≤ n) {x1 x2 : Int} {μ : zM} {K : Int → zM → Prop}
    (h : (mX0_words G n  μ (fun r1 μ2 => ((wr r1 ≤ wr x2 → (K x1 μ2)) ∧ (¬ (wr r1 ≤ wr x2) → (mX0_unsortedIn G n x2 μ2 (fun r4 μ5 => mJ13_bitCount_95d88 G n r4 μ5 (fun r6 μ7 => ∀ v8 : Int, v8 = x1 - r6 → pX0_sortedRows G n K 9 [some (Rv G 30), some (Iv v8), some (Iv (x2 + 1))] [] μ7)))))))) :
    pX0_sortedRows G n K 9 [some (Rv G 30), some (Iv x1), some (Iv x2)] [] μ := by
  refine Z_iload_n dX0_sortedRows_9 rfl ?_
  refine Z_aload_n dX0_sortedRows_10 rfl ?_
  refine Z_callVi h md_X0_words sv_X0_words lk_X0_58 zcX0 rfl ⟨by decide, by omega⟩ rfl rfl rfl rfl (Nat.le_of_ble_eq_true rfl) dX0_sortedRows_11 ⟨by decide, Nat.le_of_ble_eq_true rfl⟩ ⟨Nat.zero_le _, Nat.zero_le _⟩ ?_
  intro r1 μ2 h
  refine Z_icmp_ge (tgt := 34) dX0_sortedRows_14 (by decide) (fun c3 => ?_) (fun c3 => ?_)
  · have h := h.1 c3
    refine Z_iload_n dX0_sortedRows_34 rfl ?_
    exact Z_ireturn dX0_sortedRows_35 ⟨_, rfl, h⟩
  · have h := h.2 c3
    refine Z_iload_n dX0_sortedRows_17 rfl ?_
    refine Z_aload_n dX0_sortedRows_18 rfl ?_
    refine Z_iload_n dX0_sortedRows_19 rfl ?_
    refine Z_callVl h md_X0_unsortedIn sv_X0_unsortedIn lk_X0_62 zcX0 rfl ⟨by decide, by omega⟩ rfl rfl rfl rfl (Nat.le_of_ble_eq_true rfl) dX0_sortedRows_20 ⟨by decide, Nat.le_of_ble_eq_true rfl⟩ ⟨Nat.zero_le _, Nat.zero_le _⟩ ?_
    intro r4 μ5 h
    refine Z_callSi h md_J13_bitCount_95d88 sv_J13_bitCount_95d88 lk_X0_66 rfl rfl (Nat.le_of_ble_eq_true rfl) dX0_sortedRows_23 ⟨by decide, Nat.le_of_ble_eq_true rfl⟩ ⟨Nat.zero_le _, Nat.zero_le _⟩ ?_
    intro r6 μ7 h
    refine Z_isub dX0_sortedRows_26 ?_
    obtain ⟨v8, ev8⟩ : ∃ z : Int, z = x1 - r6 := ⟨_, rfl⟩
    have h := h v8 ev8
    refine Z_nmi ev8 ?_
    refine Z_istore_n (lv2 := [some (Rv G 30), some (Iv v8), some (Iv x2)]) dX0_sortedRows_27 rfl (by decide) rfl ?_
    refine Z_iinc (lv2 := [some (Rv G 30), some (Iv v8), some (Iv (x2 + 1))]) dX0_sortedRows_28 rfl rfl (by decide) rfl ?_
    refine Z_goto (tgt := 9) dX0_sortedRows_31 (by decide) ?_
    exact Z_cut h ⟨rfl, rfl, rfl, trivial⟩
abbrev mX0_toldLong (G : zG) (n : Nat) (x1 : Int) (μ : zM) (K : Int → zM → Prop) : Prop := zMt G n 3 yX0_toldLong cX0_toldLong 2 (some .int) [Rv G 30, Iv x1] μ (zKi K)
abbrev pX0_toldLong (G : zG) (n : Nat) (K : Int → zM → Prop) (pc : Nat) (lv : List (Option Value)) (st : List Value) (μ : zM) : Prop := Z G (zrm 3 0 0) RX0 "toldLong" cX0_toldLong 2 (some .int) (zPh G n (zKi K)) 0 0 pc lv st (zE G n μ)
theorem eX0_toldLong {G : zG} {n : Nat} (hn : 45 ≤ n) {x1 : Int} {μ : zM} {K : Int → zM → Prop}
    (h : (mX0_leaveTrace G n 2 μ (fun μ2 => mX0_toldPlain G n x1 μ2 (fun r3 μ4 => (0 ≤ wr x1 ∧ wr x1 < 30) ∧ K (r3 + (μ4 32 (wr x1))) μ4)))) :
    mX0_toldLong G n x1 μ K := by
  refine zMt_of (lv := [some (Rv G 30), some (Iv x1)]) (by decide) rfl (Nat.le_of_ble_eq_true rfl) ?_
  show pX0_toldLong G n K 0 [some (Rv G 30), some (Iv x1)] [] μ
  refine Z_aload_n dX0_toldLong_0 rfl ?_
  refine Z_iconst dX0_toldLong_1 ?_
  refine Z_callVv h md_X0_leaveTrace sv_X0_leaveTrace lk_X0_85 zcX0 rfl ⟨by decide, by omega⟩ rfl rfl rfl rfl (Nat.le_of_ble_eq_true rfl) dX0_toldLong_2 ⟨by decide, Nat.le_of_ble_eq_true rfl⟩ ⟨Nat.zero_le _, Nat.zero_le _⟩ ?_
  intro μ2 h
  refine Z_aload_n dX0_toldLong_5 rfl ?_
  refine Z_iload_n dX0_toldLong_6 rfl ?_
  refine Z_callVi h md_X0_toldPlain sv_X0_toldPlain lk_X0_82 zcX0 rfl ⟨by decide, by omega⟩ rfl rfl rfl rfl (Nat.le_of_ble_eq_true rfl) dX0_toldLong_7 ⟨by decide, Nat.le_of_ble_eq_true rfl⟩ ⟨Nat.zero_le _, Nat.zero_le _⟩ ?_
  intro r3 μ4 h
  refine Z_aload_n dX0_toldLong_10 rfl ?_
  refine Z_gr (t := 32) zcX0 fl_X0_28 ⟨by decide, by omega⟩ rfl rfl rfl (by decide) (by decide) dX0_toldLong_11 ?_
  refine Z_iload_n dX0_toldLong_14 rfl ?_
  obtain ⟨b5, h⟩ := h
  refine Z_iald (zin_c (by decide) (by omega) (by decide) (by decide) b5) dX0_toldLong_15 ?_
  refine Z_iadd dX0_toldLong_16 ?_
  exact Z_ireturn dX0_toldLong_17 ⟨_, rfl, h⟩
abbrev mX0_layAllRows (G : zG) (n : Nat) (μ : zM) (K : zM → Prop) : Prop := zMt G n 3 yX0_layAllRows cX0_layAllRows 4 none [Rv G 30] μ (zKv K)
abbrev pX0_layAllRows (G : zG) (n : Nat) (K : zM → Prop) (pc : Nat) (lv : List (Option Value)) (st : List Value) (μ : zM) : Prop := Z G (zrm 3 0 0) RX0 "layAllRows" cX0_layAllRows 4 none (zPh G n (zKv K)) 0 0 pc lv st (zE G n μ)
theorem eX0_layAllRows {G : zG} {n : Nat} (hn : 45 ≤ n) {μ : zM} {K : zM → Prop}
    (h : (pX0_layAllRows G n K 7 [some (Rv G 30), some (Iv 6), some (Iv 0), none] [] μ)) :
    mX0_layAllRows G n  μ K := by
  refine zMt_of (lv := [some (Rv G 30), none, none, none]) (by decide) rfl (Nat.le_of_ble_eq_true rfl) ?_
  show pX0_layAllRows G n K 0 [some (Rv G 30), none, none, none] [] μ
  refine Z_gsR fs_X0_102 dX0_layAllRows_0 ?_
  refine Z_lenR dX0_layAllRows_3 ?_
  refine Z_istore_n (lv2 := [some (Rv G 30), some (Iv 6), none, none]) dX0_layAllRows_4 rfl (by decide) rfl ?_
  refine Z_iconst dX0_layAllRows_5 ?_
  refine Z_istore_n (lv2 := [some (Rv G 30), some (Iv 6), some (Iv 0), none]) dX0_layAllRows_6 rfl (by decide) rfl ?_
  exact Z_cut h ⟨rfl, rfl, rfl, trivial, trivial⟩
theorem bX0_layAllRows_7 {G : zG} {n : Nat} (hn : 45 ≤ n) {x1 x2 : Int} {μ : zM} {K : zM → Prop}
    (h : (((wr (μ 30 0) ≤ wr x2 → (K μ)) ∧ (¬ (wr (μ 30 0) ≤ wr x2) → (pX0_layAllRows G n K 17 [some (Rv G 30), some (Iv x1), some (Iv x2), some (Iv 0)] [] μ))))) :
    pX0_layAllRows G n K 7 [some (Rv G 30), some (Iv x1), some (Iv x2), none] [] μ := by
  refine Z_iload_n dX0_layAllRows_7 rfl ?_
  refine Z_aload_n dX0_layAllRows_8 rfl ?_
  refine Y_gi 0 zcX0 fl_X0_9 ⟨by decide, by omega⟩ rfl rfl rfl (by decide) dX0_layAllRows_9 rfl ?_
  refine Z_icmp_ge (tgt := 67) dX0_layAllRows_12 (by decide) (fun c1 => ?_) (fun c1 => ?_)
  · have h := h.1 c1
    exact Z_return dX0_layAllRows_67 ⟨rfl, h⟩
  · have h := h.2 c1
    refine Z_iconst dX0_layAllRows_15 ?_
    refine Z_istore_n (lv2 := [some (Rv G 30), some (Iv x1), some (Iv x2), some (Iv 0)]) dX0_layAllRows_16 rfl (by decide) rfl ?_
    exact Z_cut h ⟨rfl, rfl, rfl, rfl, trivial⟩
theorem bX0_layAllRows_17 {G : zG} {n : Nat} (hn : 45 ≤ n) {x1 x2 x3 : Int} {μ : zM} {K : zM → Prop}
    (h : (mX0_words G n  μ (fun r1 μ2 => ((wr r1 ≤ wr x3 → (pX0_layAllRows G n K 7 [some (Rv G 30), some (Iv x1), some (Iv (x2 + 1)), none] [] μ2)) ∧ (¬ (wr r1 ≤ wr x3) → ((0 ≤ wr x2 ∧ wr x2 < 8) ∧ ((wr x1 ≤ wr x2 → ((0 ≤ wr x3 ∧ wr x3 < 4) ∧ ∀ μ7 : zM, μ7 = zu μ2 (36 + 1 + wr x2) (wr x3) (-(wr (zand (zshr x3 (x2 - x1)) 1))) → pX0_layAllRows G n K 17 [some (Rv G 30), some (Iv x1), some (Iv x2), some (Iv (x3 + 1))] [] μ7)) ∧ (¬ (wr x1 ≤ wr x2) → ((0 ≤ wr x2 ∧ wr x2 < 6) ∧ (0 ≤ wr x3 ∧ wr x3 < 4) ∧ ∀ μ10 : zM, μ10 = zu μ2 (36 + 1 + wr x2) (wr x3) (zrows (wr x2).toNat) → pX0_layAllRows G n K 17 [some (Rv G 30), some (Iv x1), some (Iv x2), some (Iv (x3 + 1))] [] μ10))))))))) :
    pX0_layAllRows G n K 17 [some (Rv G 30), some (Iv x1), some (Iv x2), some (Iv x3)] [] μ := by
  refine Z_iload_n dX0_layAllRows_17 rfl ?_
  refine Z_aload_n dX0_layAllRows_18 rfl ?_
  refine Z_callVi h md_X0_words sv_X0_words lk_X0_58 zcX0 rfl ⟨by decide, by omega⟩ rfl rfl rfl rfl (Nat.le_of_ble_eq_true rfl) dX0_layAllRows_19 ⟨by decide, Nat.le_of_ble_eq_true rfl⟩ ⟨Nat.zero_le _, Nat.zero_le _⟩ ?_
  intro r1 μ2 h
  refine Z_icmp_ge (tgt := 61) dX0_layAllRows_22 (by decide) (fun c3 => ?_) (fun c3 => ?_)
  · have h := h.1 c3
    refine Z_iinc (lv2 := [some (Rv G 30), some (Iv x1), some (Iv (x2 + 1)), some (Iv x3)]) dX0_layAllRows_61 rfl rfl (by decide) rfl ?_
    refine Z_goto (tgt := 7) dX0_layAllRows_64 (by decide) ?_
    exact Z_cut h ⟨rfl, rfl, rfl, trivial, trivial⟩
  · have h := h.2 c3
    refine Z_aload_n dX0_layAllRows_25 rfl ?_
    refine Z_gr (t := 36) zcX0 fl_X0_43 ⟨by decide, by omega⟩ rfl rfl rfl (by decide) (by decide) dX0_layAllRows_26 ?_
    refine Z_iload_n dX0_layAllRows_29 rfl ?_
    obtain ⟨b4, h⟩ := h
    refine Z_aald4 (zin_c (by decide) (by omega) (by decide) (by decide) b4) dX0_layAllRows_30 ?_
    refine Z_iload_n dX0_layAllRows_31 rfl ?_
    refine Z_iload_n dX0_layAllRows_32 rfl ?_
    refine Z_iload_n dX0_layAllRows_33 rfl ?_
    refine Z_icmp_ge (tgt := 45) dX0_layAllRows_34 (by decide) (fun c5 => ?_) (fun c5 => ?_)
    · have h := h.1 c5
      refine Z_iload_n dX0_layAllRows_45 rfl ?_
      refine Z_iload_n dX0_layAllRows_46 rfl ?_
      refine Z_iload_n dX0_layAllRows_47 rfl ?_
      refine Z_isub dX0_layAllRows_48 ?_
      refine Z_ishr dX0_layAllRows_49 ?_
      refine Z_iconst dX0_layAllRows_50 ?_
      refine Z_iand dX0_layAllRows_51 ?_
      refine Z_i2l dX0_layAllRows_52 ?_
      refine Z_lneg dX0_layAllRows_53 ?_
      obtain ⟨b6, h⟩ := h
      refine Z_last (zin_c (zr_36 b4).1 (by have := b4; omega) (zr_36 b4).2.1 (zr_36 b4).2.2 b6) dX0_layAllRows_54 ?_
      obtain ⟨μ7, eμ7⟩ : ∃ z : zM, z = zu μ2 (36 + 1 + wr x2) (wr x3) (-(wr (zand (zshr x3 (x2 - x1)) 1))) := ⟨_, rfl⟩
      have h := h μ7 eμ7
      refine Z_mem eμ7 ?_
      refine Z_iinc (lv2 := [some (Rv G 30), some (Iv x1), some (Iv x2), some (Iv (x3 + 1))]) dX0_layAllRows_55 rfl rfl (by decide) rfl ?_
      refine Z_goto (tgt := 17) dX0_layAllRows_58 (by decide) ?_
      exact Z_cut h ⟨rfl, rfl, rfl, rfl, trivial⟩
    · have h := h.2 c5
      refine Z_gsR fs_X0_102 dX0_layAllRows_37 ?_
      refine Z_iload_n dX0_layAllRows_40 rfl ?_
      obtain ⟨b8, h⟩ := h
      refine Z_laldR b8 dX0_layAllRows_41 ?_
      refine Z_goto (tgt := 54) dX0_layAllRows_42 (by decide) ?_
      obtain ⟨b9, h⟩ := h
      refine Z_last (zin_c (zr_36 b4).1 (by have := b4; omega) (zr_36 b4).2.1 (zr_36 b4).2.2 b9) dX0_layAllRows_54 ?_
      obtain ⟨μ10, eμ10⟩ : ∃ z : zM, z = zu μ2 (36 + 1 + wr x2) (wr x3) (zrows (wr x2).toNat) := ⟨_, rfl⟩
      have h := h μ10 eμ10
      refine Z_mem eμ10 ?_
      refine Z_iinc (lv2 := [some (Rv G 30), some (Iv x1), some (Iv x2), some (Iv (x3 + 1))]) dX0_layAllRows_55 rfl rfl (by decide) rfl ?_
      refine Z_goto (tgt := 17) dX0_layAllRows_58 (by decide) ?_
      exact Z_cut h ⟨rfl, rfl, rfl, rfl, trivial⟩
abbrev mX0_changesRows (G : zG) (n : Nat) (x1 x2 : Int) (μ : zM) (K : Int → zM → Prop) : Prop := zMt G n 3 yX0_changesRows cX0_changesRows 8 (some .boolean) [Rv G 30, Rv G x1, Rv G x2] μ (zKi K)
abbrev pX0_changesRows (G : zG) (n : Nat) (K : Int → zM → Prop) (pc : Nat) (lv : List (Option Value)) (st : List Value) (μ : zM) : Prop := Z G (zrm 3 0 0) RX0 "changesRows" cX0_changesRows 8 (some .boolean) (zPh G n (zKi K)) 0 0 pc lv st (zE G n μ)
theorem eX0_changesRows {G : zG} {n : Nat} (hn : 45 ≤ n) {x1 x2 : Int} {μ : zM} {K : Int → zM → Prop}
    (h : (pX0_changesRows G n K 5 [some (Rv G 30), some (Rv G x1), some (Rv G x2), some (Lv 0), none, some (Iv 0), none, none] [] μ)) :
    mX0_changesRows G n x1 x2 μ K := by
  refine zMt_of (lv := [some (Rv G 30), some (Rv G x1), some (Rv G x2), none, none, none, none, none]) (by decide) rfl (Nat.le_of_ble_eq_true rfl) ?_
  show pX0_changesRows G n K 0 [some (Rv G 30), some (Rv G x1), some (Rv G x2), none, none, none, none, none] [] μ
  refine Z_lconst (a := 0) dX0_changesRows_0 (by decide) ?_
  refine Z_lstore_n (lv2 := [some (Rv G 30), some (Rv G x1), some (Rv G x2), some (Lv 0), none, none, none, none]) dX0_changesRows_1 rfl (by decide) rfl ?_
  refine Z_iconst dX0_changesRows_2 ?_
  refine Z_istore (lv2 := [some (Rv G 30), some (Rv G x1), some (Rv G x2), some (Lv 0), none, some (Iv 0), none, none]) dX0_changesRows_3 rfl (by decide) rfl ?_
  exact Z_cut h ⟨rfl, rfl, rfl, rfl, trivial, rfl, trivial, trivial, trivial⟩
theorem bX0_changesRows_5 {G : zG} {n : Nat} (hn : 45 ≤ n) {x1 x2 x3 x5 : Int} {μ : zM} {K : Int → zM → Prop}
    (h : (mX0_words G n  μ (fun r1 μ2 => ((wr r1 ≤ wr x5 → (((wr (zlcmp x3 0) = 0 → (K 0 μ2)) ∧ (¬ (wr (zlcmp x3 0) = 0) → (K 1 μ2))))) ∧ (¬ (wr r1 ≤ wr x5) → (zin 1 n x1 x5 ∧ zin 1 n x2 x5 ∧ ∀ v7 : Int, v7 = zland (μ2 x1 (wr x5)) (zlxor (μ2 x2 (wr x5)) ((-1))) → zin 1 n x1 x5 ∧ zin 1 n x1 x5 ∧ ∀ μ10 : zM, μ10 = zu μ2 x1 (wr x5) (zlxor (μ2 x1 (wr x5)) v7) → zin 1 n x2 x5 ∧ zin 1 n x2 x5 ∧ ∀ μ13 : zM, μ13 = zu μ10 x2 (wr x5) (zlxor (μ10 x2 (wr x5)) v7) → ∀ v14 : Int, v14 = zlor x3 v7 → pX0_changesRows G n K 5 [some (Rv G 30), some (Rv G x1), some (Rv G x2), some (Lv v14), none, some (Iv (x5 + 1)), none, none] [] μ13)))))) :
    pX0_changesRows G n K 5 [some (Rv G 30), some (Rv G x1), some (Rv G x2), some (Lv x3), none, some (Iv x5), none, none] [] μ := by
  refine Z_iload dX0_changesRows_5 rfl ?_
  refine Z_aload_n dX0_changesRows_7 rfl ?_
  refine Z_callVi h md_X0_words sv_X0_words lk_X0_58 zcX0 rfl ⟨by decide, by omega⟩ rfl rfl rfl rfl (Nat.le_of_ble_eq_true rfl) dX0_changesRows_8 ⟨by decide, Nat.le_of_ble_eq_true rfl⟩ ⟨Nat.zero_le _, Nat.zero_le _⟩ ?_
  intro r1 μ2 h
  refine Z_icmp_ge (tgt := 58) dX0_changesRows_11 (by decide) (fun c3 => ?_) (fun c3 => ?_)
  · have h := h.1 c3
    refine Z_lload_n dX0_changesRows_58 rfl ?_
    refine Z_lconst (a := 0) dX0_changesRows_59 (by decide) ?_
    refine Z_lcmp dX0_changesRows_60 ?_
    refine Z_if_eq (tgt := 68) dX0_changesRows_61 (by decide) (fun c4 => ?_) (fun c4 => ?_)
    · have h := h.1 c4
      refine Z_iconst dX0_changesRows_68 ?_
      exact Z_zreturn dX0_changesRows_69 (by decide) ⟨_, rfl, h⟩
    · have h := h.2 c4
      refine Z_iconst dX0_changesRows_64 ?_
      refine Z_goto (tgt := 69) dX0_changesRows_65 (by decide) ?_
      exact Z_zreturn dX0_changesRows_69 (by decide) ⟨_, rfl, h⟩
  · have h := h.2 c3
    refine Z_aload_n dX0_changesRows_14 rfl ?_
    refine Z_iload dX0_changesRows_15 rfl ?_
    obtain ⟨b5, h⟩ := h
    refine Z_lald b5 dX0_changesRows_17 ?_
    refine Z_aload_n dX0_changesRows_18 rfl ?_
    refine Z_iload dX0_changesRows_19 rfl ?_
    obtain ⟨b6, h⟩ := h
    refine Z_lald b6 dX0_changesRows_21 ?_
    refine Z_ldc2 (a := -1) dX0_changesRows_22 cl_X0_106 (by decide) ?_
    refine Z_lxor dX0_changesRows_25 ?_
    refine Z_land dX0_changesRows_26 ?_
    obtain ⟨v7, ev7⟩ : ∃ z : Int, z = zland (μ2 x1 (wr x5)) (zlxor (μ2 x2 (wr x5)) ((-1))) := ⟨_, rfl⟩
    have h := h v7 ev7
    refine Z_nml ev7 ?_
    refine Z_lstore (lv2 := [some (Rv G 30), some (Rv G x1), some (Rv G x2), some (Lv x3), none, some (Iv x5), some (Lv v7), none]) dX0_changesRows_27 rfl (by decide) rfl ?_
    refine Z_aload_n dX0_changesRows_29 rfl ?_
    refine Z_iload dX0_changesRows_30 rfl ?_
    refine Z_dup2 dX0_changesRows_32 rfl rfl ?_
    obtain ⟨b8, h⟩ := h
    refine Z_lald b8 dX0_changesRows_33 ?_
    refine Z_lload dX0_changesRows_34 rfl ?_
    refine Z_lxor dX0_changesRows_36 ?_
    obtain ⟨b9, h⟩ := h
    refine Z_last b9 dX0_changesRows_37 ?_
    obtain ⟨μ10, eμ10⟩ : ∃ z : zM, z = zu μ2 x1 (wr x5) (zlxor (μ2 x1 (wr x5)) v7) := ⟨_, rfl⟩
    have h := h μ10 eμ10
    refine Z_mem eμ10 ?_
    refine Z_aload_n dX0_changesRows_38 rfl ?_
    refine Z_iload dX0_changesRows_39 rfl ?_
    refine Z_dup2 dX0_changesRows_41 rfl rfl ?_
    obtain ⟨b11, h⟩ := h
    refine Z_lald b11 dX0_changesRows_42 ?_
    refine Z_lload dX0_changesRows_43 rfl ?_
    refine Z_lxor dX0_changesRows_45 ?_
    obtain ⟨b12, h⟩ := h
    refine Z_last b12 dX0_changesRows_46 ?_
    obtain ⟨μ13, eμ13⟩ : ∃ z : zM, z = zu μ10 x2 (wr x5) (zlxor (μ10 x2 (wr x5)) v7) := ⟨_, rfl⟩
    have h := h μ13 eμ13
    refine Z_mem eμ13 ?_
    refine Z_lload_n dX0_changesRows_47 rfl ?_
    refine Z_lload dX0_changesRows_48 rfl ?_
    refine Z_lor dX0_changesRows_50 ?_
    obtain ⟨v14, ev14⟩ : ∃ z : Int, z = zlor x3 v7 := ⟨_, rfl⟩
    have h := h v14 ev14
    refine Z_nml ev14 ?_
    refine Z_lstore_n (lv2 := [some (Rv G 30), some (Rv G x1), some (Rv G x2), some (Lv v14), none, some (Iv x5), some (Lv v7), none]) dX0_changesRows_51 rfl (by decide) rfl ?_
    refine Z_iinc (lv2 := [some (Rv G 30), some (Rv G x1), some (Rv G x2), some (Lv v14), none, some (Iv (x5 + 1)), some (Lv v7), none]) dX0_changesRows_52 rfl rfl (by decide) rfl ?_
    refine Z_goto (tgt := 5) dX0_changesRows_55 (by decide) ?_
    exact Z_cut h ⟨rfl, rfl, rfl, rfl, trivial, rfl, trivial, trivial, trivial⟩
abbrev mX0_toldTurned (G : zG) (n : Nat) (x1 : Int) (μ : zM) (K : Int → zM → Prop) : Prop := zMt G n 4 yX0_toldTurned cX0_toldTurned 2 (some .int) [Rv G 30, Iv x1] μ (zKi K)
abbrev pX0_toldTurned (G : zG) (n : Nat) (K : Int → zM → Prop) (pc : Nat) (lv : List (Option Value)) (st : List Value) (μ : zM) : Prop := Z G (zrm 4 0 0) RX0 "toldTurned" cX0_toldTurned 2 (some .int) (zPh G n (zKi K)) 0 0 pc lv st (zE G n μ)
theorem eX0_toldTurned {G : zG} {n : Nat} (hn : 45 ≤ n) {x1 : Int} {μ : zM} {K : Int → zM → Prop}
    (h : (mX0_leaveTrace G n 3 μ (fun μ2 => mX0_toldLong G n x1 μ2 (fun r3 μ4 => mX0_toldPlain G n x1 μ4 (fun r5 μ6 => K (r3 + r5) μ6))))) :
    mX0_toldTurned G n x1 μ K := by
  refine zMt_of (lv := [some (Rv G 30), some (Iv x1)]) (by decide) rfl (Nat.le_of_ble_eq_true rfl) ?_
  show pX0_toldTurned G n K 0 [some (Rv G 30), some (Iv x1)] [] μ
  refine Z_aload_n dX0_toldTurned_0 rfl ?_
  refine Z_iconst dX0_toldTurned_1 ?_
  refine Z_callVv h md_X0_leaveTrace sv_X0_leaveTrace lk_X0_85 zcX0 rfl ⟨by decide, by omega⟩ rfl rfl rfl rfl (Nat.le_of_ble_eq_true rfl) dX0_toldTurned_2 ⟨by decide, Nat.le_of_ble_eq_true rfl⟩ ⟨Nat.zero_le _, Nat.zero_le _⟩ ?_
  intro μ2 h
  refine Z_aload_n dX0_toldTurned_5 rfl ?_
  refine Z_iload_n dX0_toldTurned_6 rfl ?_
  refine Z_callVi h md_X0_toldLong sv_X0_toldLong lk_X0_79 zcX0 rfl ⟨by decide, by omega⟩ rfl rfl rfl rfl (Nat.le_of_ble_eq_true rfl) dX0_toldTurned_7 ⟨by decide, Nat.le_of_ble_eq_true rfl⟩ ⟨Nat.zero_le _, Nat.zero_le _⟩ ?_
  intro r3 μ4 h
  refine Z_aload_n dX0_toldTurned_10 rfl ?_
  refine Z_iload_n dX0_toldTurned_11 rfl ?_
  refine Z_callVi h md_X0_toldPlain sv_X0_toldPlain lk_X0_82 zcX0 rfl ⟨by decide, by omega⟩ rfl rfl rfl rfl (Nat.le_of_ble_eq_true rfl) dX0_toldTurned_12 ⟨by decide, Nat.le_of_ble_eq_true rfl⟩ ⟨Nat.zero_le _, Nat.zero_le _⟩ ?_
  intro r5 μ6 h
  refine Z_iadd dX0_toldTurned_15 ?_
  exact Z_ireturn dX0_toldTurned_16 ⟨_, rfl, h⟩
abbrev mX0_leadAllRows (G : zG) (n : Nat) (μ : zM) (K : zM → Prop) : Prop := zMt G n 4 yX0_leadAllRows cX0_leadAllRows 2 none [Rv G 30] μ (zKv K)
abbrev pX0_leadAllRows (G : zG) (n : Nat) (K : zM → Prop) (pc : Nat) (lv : List (Option Value)) (st : List Value) (μ : zM) : Prop := Z G (zrm 4 0 0) RX0 "leadAllRows" cX0_leadAllRows 2 none (zPh G n (zKv K)) 0 0 pc lv st (zE G n μ)
theorem eX0_leadAllRows {G : zG} {n : Nat} (hn : 45 ≤ n) {μ : zM} {K : zM → Prop}
    (h : (∀ μ1 : zM, μ1 = zu μ 30 2 0 → mJ7_fill_53178 G n 35 0 μ1 (fun μ3 => mX0_layAllRows G n  μ3 (fun μ5 => pX0_leadAllRows G n K 19 [some (Rv G 30), some (Iv 0)] [] μ5)))) :
    mX0_leadAllRows G n  μ K := by
  refine zMt_of (lv := [some (Rv G 30), none]) (by decide) rfl (Nat.le_of_ble_eq_true rfl) ?_
  show pX0_leadAllRows G n K 0 [some (Rv G 30), none] [] μ
  refine Z_aload_n dX0_leadAllRows_0 rfl ?_
  refine Z_iconst dX0_leadAllRows_1 ?_
  refine Y_pi 2 zcX0 fk_X0_18 ⟨by decide, by omega⟩ rfl rfl rfl (by decide) rfl (tyX0_ok 2 (by decide)) dX0_leadAllRows_2 rfl ?_
  obtain ⟨μ1, eμ1⟩ : ∃ z : zM, z = zu μ 30 2 0 := ⟨_, rfl⟩
  have h := h μ1 eμ1
  refine Z_mem eμ1 ?_
  refine Z_aload_n dX0_leadAllRows_5 rfl ?_
  refine Z_gr (t := 35) zcX0 fl_X0_38 ⟨by decide, by omega⟩ rfl rfl rfl (by decide) (by decide) dX0_leadAllRows_6 ?_
  refine Z_iconst dX0_leadAllRows_9 ?_
  refine Z_callSv h md_J7_fill_53178 sv_J7_fill_53178 lk_X0_89 rfl rfl (Nat.le_of_ble_eq_true rfl) dX0_leadAllRows_10 ⟨by decide, Nat.le_of_ble_eq_true rfl⟩ ⟨Nat.zero_le _, Nat.zero_le _⟩ ?_
  intro μ3 h
  refine Z_aload_n dX0_leadAllRows_13 rfl ?_
  refine Z_callVv h md_X0_layAllRows sv_X0_layAllRows lk_X0_95 zcX0 rfl ⟨by decide, by omega⟩ rfl rfl rfl rfl (Nat.le_of_ble_eq_true rfl) dX0_leadAllRows_14 ⟨by decide, Nat.le_of_ble_eq_true rfl⟩ ⟨Nat.zero_le _, Nat.zero_le _⟩ ?_
  intro μ5 h
  refine Z_iconst dX0_leadAllRows_17 ?_
  refine Z_istore_n (lv2 := [some (Rv G 30), some (Iv 0)]) dX0_leadAllRows_18 rfl (by decide) rfl ?_
  exact Z_cut h ⟨rfl, rfl, trivial⟩
theorem bX0_leadAllRows_19 {G : zG} {n : Nat} (hn : 45 ≤ n) {x1 : Int} {μ : zM} {K : zM → Prop}
    (h : (((wr (μ 30 1) ≤ wr x1 → (K μ)) ∧ (¬ (wr (μ 30 1) ≤ wr x1) → ((0 ≤ wr x1 ∧ wr x1 < 30) ∧ (0 ≤ wr (μ 31 (wr x1)) ∧ wr (μ 31 (wr x1)) < 8) ∧ (0 ≤ wr x1 ∧ wr x1 < 30) ∧ (0 ≤ wr (μ 32 (wr x1)) ∧ wr (μ 32 (wr x1)) < 8) ∧ (0 ≤ wr x1 ∧ wr x1 < 30) ∧ ∀ μ7 : zM, μ7 = zu μ 33 (wr x1) (max (wr (μ 35 (wr (μ 31 (wr x1))))) (wr (μ 35 (wr (μ 32 (wr x1)))))) → (0 ≤ wr x1 ∧ wr x1 < 30) ∧ (0 ≤ wr x1 ∧ wr x1 < 30) ∧ (0 ≤ wr (μ7 31 (wr x1)) ∧ wr (μ7 31 (wr x1)) < 8) ∧ ∀ μ11 : zM, μ11 = zu μ7 35 (wr (μ7 31 (wr x1))) ((μ7 33 (wr x1)) + 1) → (0 ≤ wr x1 ∧ wr x1 < 30) ∧ (0 ≤ wr x1 ∧ wr x1 < 30) ∧ (0 ≤ wr (μ11 32 (wr x1)) ∧ wr (μ11 32 (wr x1)) < 8) ∧ ∀ μ15 : zM, μ15 = zu μ11 35 (wr (μ11 32 (wr x1))) ((μ11 33 (wr x1)) + 1) → (0 ≤ wr x1 ∧ wr x1 < 30) ∧ ∀ μ17 : zM, μ17 = zu μ15 30 2 (max (wr (μ15 30 2)) (wr ((μ15 33 (wr x1)) + 1))) → (0 ≤ wr x1 ∧ wr x1 < 30) ∧ (0 ≤ wr (μ17 31 (wr x1)) ∧ wr (μ17 31 (wr x1)) < 8) ∧ (0 ≤ wr x1 ∧ wr x1 < 30) ∧ (0 ≤ wr (μ17 32 (wr x1)) ∧ wr (μ17 32 (wr x1)) < 8) ∧ mX0_changesRows G n (36 + 1 + wr (μ17 31 (wr x1))) (36 + 1 + wr (μ17 32 (wr x1))) μ17 (fun r22 μ23 => ((¬ wr r22 = 0 → ((0 ≤ wr x1 ∧ wr x1 < 30) ∧ ∀ μ26 : zM, μ26 = zu μ23 34 (wr x1) 0 → pX0_leadAllRows G n K 19 [some (Rv G 30), some (Iv (x1 + 1))] [] μ26)) ∧ (wr r22 = 0 → ((0 ≤ wr x1 ∧ wr x1 < 30) ∧ ∀ μ28 : zM, μ28 = zu μ23 34 (wr x1) 1 → pX0_leadAllRows G n K 19 [some (Rv G 30), some (Iv (x1 + 1))] [] μ28))))))))) :
    pX0_leadAllRows G n K 19 [some (Rv G 30), some (Iv x1)] [] μ := by
  refine Z_iload_n dX0_leadAllRows_19 rfl ?_
  refine Z_aload_n dX0_leadAllRows_20 rfl ?_
  refine Y_gi 1 zcX0 fl_X0_15 ⟨by decide, by omega⟩ rfl rfl rfl (by decide) dX0_leadAllRows_21 rfl ?_
  refine Z_icmp_ge (tgt := 161) dX0_leadAllRows_24 (by decide) (fun c1 => ?_) (fun c1 => ?_)
  · have h := h.1 c1
    exact Z_return dX0_leadAllRows_161 ⟨rfl, h⟩
  · have h := h.2 c1
    refine Z_aload_n dX0_leadAllRows_27 rfl ?_
    refine Z_gr (t := 33) zcX0 fl_X0_31 ⟨by decide, by omega⟩ rfl rfl rfl (by decide) (by decide) dX0_leadAllRows_28 ?_
    refine Z_iload_n dX0_leadAllRows_31 rfl ?_
    refine Z_aload_n dX0_leadAllRows_32 rfl ?_
    refine Z_gr (t := 35) zcX0 fl_X0_38 ⟨by decide, by omega⟩ rfl rfl rfl (by decide) (by decide) dX0_leadAllRows_33 ?_
    refine Z_aload_n dX0_leadAllRows_36 rfl ?_
    refine Z_gr (t := 31) zcX0 fl_X0_24 ⟨by decide, by omega⟩ rfl rfl rfl (by decide) (by decide) dX0_leadAllRows_37 ?_
    refine Z_iload_n dX0_leadAllRows_40 rfl ?_
    obtain ⟨b2, h⟩ := h
    refine Z_iald (zin_c (by decide) (by omega) (by decide) (by decide) b2) dX0_leadAllRows_41 ?_
    obtain ⟨b3, h⟩ := h
    refine Z_iald (zin_c (by decide) (by omega) (by decide) (by decide) b3) dX0_leadAllRows_42 ?_
    refine Z_aload_n dX0_leadAllRows_43 rfl ?_
    refine Z_gr (t := 35) zcX0 fl_X0_38 ⟨by decide, by omega⟩ rfl rfl rfl (by decide) (by decide) dX0_leadAllRows_44 ?_
    refine Z_aload_n dX0_leadAllRows_47 rfl ?_
    refine Z_gr (t := 32) zcX0 fl_X0_28 ⟨by decide, by omega⟩ rfl rfl rfl (by decide) (by decide) dX0_leadAllRows_48 ?_
    refine Z_iload_n dX0_leadAllRows_51 rfl ?_
    obtain ⟨b4, h⟩ := h
    refine Z_iald (zin_c (by decide) (by omega) (by decide) (by decide) b4) dX0_leadAllRows_52 ?_
    obtain ⟨b5, h⟩ := h
    refine Z_iald (zin_c (by decide) (by omega) (by decide) (by decide) b5) dX0_leadAllRows_53 ?_
    refine Z_max lk_X0_55 mt1_max mt2 mt3_max ⟨by decide, Nat.le_of_ble_eq_true rfl⟩ ⟨Nat.zero_le _, Nat.zero_le _⟩ dX0_leadAllRows_54 ?_
    obtain ⟨b6, h⟩ := h
    refine Z_iast (zin_c (by decide) (by omega) (by decide) (by decide) b6) dX0_leadAllRows_57 ?_
    obtain ⟨μ7, eμ7⟩ : ∃ z : zM, z = zu μ 33 (wr x1) (max (wr (μ 35 (wr (μ 31 (wr x1))))) (wr (μ 35 (wr (μ 32 (wr x1)))))) := ⟨_, rfl⟩
    have h := h μ7 eμ7
    refine Z_mem eμ7 ?_
    refine Z_aload_n dX0_leadAllRows_58 rfl ?_
    refine Z_gr (t := 35) zcX0 fl_X0_38 ⟨by decide, by omega⟩ rfl rfl rfl (by decide) (by decide) dX0_leadAllRows_59 ?_
    refine Z_aload_n dX0_leadAllRows_62 rfl ?_
    refine Z_gr (t := 31) zcX0 fl_X0_24 ⟨by decide, by omega⟩ rfl rfl rfl (by decide) (by decide) dX0_leadAllRows_63 ?_
    refine Z_iload_n dX0_leadAllRows_66 rfl ?_
    obtain ⟨b8, h⟩ := h
    refine Z_iald (zin_c (by decide) (by omega) (by decide) (by decide) b8) dX0_leadAllRows_67 ?_
    refine Z_aload_n dX0_leadAllRows_68 rfl ?_
    refine Z_gr (t := 33) zcX0 fl_X0_31 ⟨by decide, by omega⟩ rfl rfl rfl (by decide) (by decide) dX0_leadAllRows_69 ?_
    refine Z_iload_n dX0_leadAllRows_72 rfl ?_
    obtain ⟨b9, h⟩ := h
    refine Z_iald (zin_c (by decide) (by omega) (by decide) (by decide) b9) dX0_leadAllRows_73 ?_
    refine Z_iconst dX0_leadAllRows_74 ?_
    refine Z_iadd dX0_leadAllRows_75 ?_
    obtain ⟨b10, h⟩ := h
    refine Z_iast (zin_c (by decide) (by omega) (by decide) (by decide) b10) dX0_leadAllRows_76 ?_
    obtain ⟨μ11, eμ11⟩ : ∃ z : zM, z = zu μ7 35 (wr (μ7 31 (wr x1))) ((μ7 33 (wr x1)) + 1) := ⟨_, rfl⟩
    have h := h μ11 eμ11
    refine Z_mem eμ11 ?_
    refine Z_aload_n dX0_leadAllRows_77 rfl ?_
    refine Z_gr (t := 35) zcX0 fl_X0_38 ⟨by decide, by omega⟩ rfl rfl rfl (by decide) (by decide) dX0_leadAllRows_78 ?_
    refine Z_aload_n dX0_leadAllRows_81 rfl ?_
    refine Z_gr (t := 32) zcX0 fl_X0_28 ⟨by decide, by omega⟩ rfl rfl rfl (by decide) (by decide) dX0_leadAllRows_82 ?_
    refine Z_iload_n dX0_leadAllRows_85 rfl ?_
    obtain ⟨b12, h⟩ := h
    refine Z_iald (zin_c (by decide) (by omega) (by decide) (by decide) b12) dX0_leadAllRows_86 ?_
    refine Z_aload_n dX0_leadAllRows_87 rfl ?_
    refine Z_gr (t := 33) zcX0 fl_X0_31 ⟨by decide, by omega⟩ rfl rfl rfl (by decide) (by decide) dX0_leadAllRows_88 ?_
    refine Z_iload_n dX0_leadAllRows_91 rfl ?_
    obtain ⟨b13, h⟩ := h
    refine Z_iald (zin_c (by decide) (by omega) (by decide) (by decide) b13) dX0_leadAllRows_92 ?_
    refine Z_iconst dX0_leadAllRows_93 ?_
    refine Z_iadd dX0_leadAllRows_94 ?_
    obtain ⟨b14, h⟩ := h
    refine Z_iast (zin_c (by decide) (by omega) (by decide) (by decide) b14) dX0_leadAllRows_95 ?_
    obtain ⟨μ15, eμ15⟩ : ∃ z : zM, z = zu μ11 35 (wr (μ11 32 (wr x1))) ((μ11 33 (wr x1)) + 1) := ⟨_, rfl⟩
    have h := h μ15 eμ15
    refine Z_mem eμ15 ?_
    refine Z_aload_n dX0_leadAllRows_96 rfl ?_
    refine Z_aload_n dX0_leadAllRows_97 rfl ?_
    refine Y_gi 2 zcX0 fl_X0_18 ⟨by decide, by omega⟩ rfl rfl rfl (by decide) dX0_leadAllRows_98 rfl ?_
    refine Z_aload_n dX0_leadAllRows_101 rfl ?_
    refine Z_gr (t := 33) zcX0 fl_X0_31 ⟨by decide, by omega⟩ rfl rfl rfl (by decide) (by decide) dX0_leadAllRows_102 ?_
    refine Z_iload_n dX0_leadAllRows_105 rfl ?_
    obtain ⟨b16, h⟩ := h
    refine Z_iald (zin_c (by decide) (by omega) (by decide) (by decide) b16) dX0_leadAllRows_106 ?_
    refine Z_iconst dX0_leadAllRows_107 ?_
    refine Z_iadd dX0_leadAllRows_108 ?_
    refine Z_max lk_X0_55 mt1_max mt2 mt3_max ⟨by decide, Nat.le_of_ble_eq_true rfl⟩ ⟨Nat.zero_le _, Nat.zero_le _⟩ dX0_leadAllRows_109 ?_
    refine Y_pi 2 zcX0 fk_X0_18 ⟨by decide, by omega⟩ rfl rfl rfl (by decide) rfl (tyX0_ok 2 (by decide)) dX0_leadAllRows_112 rfl ?_
    obtain ⟨μ17, eμ17⟩ : ∃ z : zM, z = zu μ15 30 2 (max (wr (μ15 30 2)) (wr ((μ15 33 (wr x1)) + 1))) := ⟨_, rfl⟩
    have h := h μ17 eμ17
    refine Z_mem eμ17 ?_
    refine Z_aload_n dX0_leadAllRows_115 rfl ?_
    refine Z_gr (t := 34) zcX0 fl_X0_34 ⟨by decide, by omega⟩ rfl rfl rfl (by decide) (by decide) dX0_leadAllRows_116 ?_
    refine Z_iload_n dX0_leadAllRows_119 rfl ?_
    refine Z_aload_n dX0_leadAllRows_120 rfl ?_
    refine Z_aload_n dX0_leadAllRows_121 rfl ?_
    refine Z_gr (t := 36) zcX0 fl_X0_43 ⟨by decide, by omega⟩ rfl rfl rfl (by decide) (by decide) dX0_leadAllRows_122 ?_
    refine Z_aload_n dX0_leadAllRows_125 rfl ?_
    refine Z_gr (t := 31) zcX0 fl_X0_24 ⟨by decide, by omega⟩ rfl rfl rfl (by decide) (by decide) dX0_leadAllRows_126 ?_
    refine Z_iload_n dX0_leadAllRows_129 rfl ?_
    obtain ⟨b18, h⟩ := h
    refine Z_iald (zin_c (by decide) (by omega) (by decide) (by decide) b18) dX0_leadAllRows_130 ?_
    obtain ⟨b19, h⟩ := h
    refine Z_aald4 (zin_c (by decide) (by omega) (by decide) (by decide) b19) dX0_leadAllRows_131 ?_
    refine Z_aload_n dX0_leadAllRows_132 rfl ?_
    refine Z_gr (t := 36) zcX0 fl_X0_43 ⟨by decide, by omega⟩ rfl rfl rfl (by decide) (by decide) dX0_leadAllRows_133 ?_
    refine Z_aload_n dX0_leadAllRows_136 rfl ?_
    refine Z_gr (t := 32) zcX0 fl_X0_28 ⟨by decide, by omega⟩ rfl rfl rfl (by decide) (by decide) dX0_leadAllRows_137 ?_
    refine Z_iload_n dX0_leadAllRows_140 rfl ?_
    obtain ⟨b20, h⟩ := h
    refine Z_iald (zin_c (by decide) (by omega) (by decide) (by decide) b20) dX0_leadAllRows_141 ?_
    obtain ⟨b21, h⟩ := h
    refine Z_aald4 (zin_c (by decide) (by omega) (by decide) (by decide) b21) dX0_leadAllRows_142 ?_
    refine Z_callVi h md_X0_changesRows sv_X0_changesRows lk_X0_98 zcX0 rfl ⟨by decide, by omega⟩ rfl rfl rfl rfl (Nat.le_of_ble_eq_true rfl) dX0_leadAllRows_143 ⟨by decide, Nat.le_of_ble_eq_true rfl⟩ ⟨Nat.zero_le _, Nat.zero_le _⟩ ?_
    intro r22 μ23 h
    refine Z_if_ne (tgt := 153) dX0_leadAllRows_146 (by decide) (fun c24 => ?_) (fun c24 => ?_)
    · have h := h.1 c24
      refine Z_iconst dX0_leadAllRows_153 ?_
      obtain ⟨b25, h⟩ := h
      refine Z_zast (zin_c (by decide) (by omega) (by decide) (by decide) b25) (by decide) dX0_leadAllRows_154 ?_
      obtain ⟨μ26, eμ26⟩ : ∃ z : zM, z = zu μ23 34 (wr x1) 0 := ⟨_, rfl⟩
      have h := h μ26 eμ26
      refine Z_mem eμ26 ?_
      refine Z_iinc (lv2 := [some (Rv G 30), some (Iv (x1 + 1))]) dX0_leadAllRows_155 rfl rfl (by decide) rfl ?_
      refine Z_goto (tgt := 19) dX0_leadAllRows_158 (by decide) ?_
      exact Z_cut h ⟨rfl, rfl, trivial⟩
    · have h := h.2 c24
      refine Z_iconst dX0_leadAllRows_149 ?_
      refine Z_goto (tgt := 154) dX0_leadAllRows_150 (by decide) ?_
      obtain ⟨b27, h⟩ := h
      refine Z_zast (zin_c (by decide) (by omega) (by decide) (by decide) b27) (by decide) dX0_leadAllRows_154 ?_
      obtain ⟨μ28, eμ28⟩ : ∃ z : zM, z = zu μ23 34 (wr x1) 1 := ⟨_, rfl⟩
      have h := h μ28 eμ28
      refine Z_mem eμ28 ?_
      refine Z_iinc (lv2 := [some (Rv G 30), some (Iv (x1 + 1))]) dX0_leadAllRows_155 rfl rfl (by decide) rfl ?_
      refine Z_goto (tgt := 19) dX0_leadAllRows_158 (by decide) ?_
      exact Z_cut h ⟨rfl, rfl, trivial⟩
abbrev mX0_begin (G : zG) (n : Nat) (x1 : Int) (μ : zM) (K : zM → Prop) : Prop := zMt G n 5 yX0_begin cX0_begin 2 none [Rv G 30, Iv x1] μ (zKv K)
abbrev pX0_begin (G : zG) (n : Nat) (K : zM → Prop) (pc : Nat) (lv : List (Option Value)) (st : List Value) (μ : zM) : Prop := Z G (zrm 5 0 0) RX0 "begin" cX0_begin 2 none (zPh G n (zKv K)) 0 0 pc lv st (zE G n μ)
theorem eX0_begin {G : zG} {n : Nat} (hn : 45 ≤ n) {x1 : Int} {μ : zM} {K : zM → Prop}
    (h : (∀ μ1 : zM, μ1 = zu μ 30 0 x1 → ∀ μ2 : zM, μ2 = zu μ1 30 1 0 → mX0_leadAllRows G n  μ2 (fun μ4 => K μ4))) :
    mX0_begin G n x1 μ K := by
  refine zMt_of (lv := [some (Rv G 30), some (Iv x1)]) (by decide) rfl (Nat.le_of_ble_eq_true rfl) ?_
  show pX0_begin G n K 0 [some (Rv G 30), some (Iv x1)] [] μ
  refine Z_aload_n dX0_begin_0 rfl ?_
  refine Z_iload_n dX0_begin_1 rfl ?_
  refine Y_pi 0 zcX0 fk_X0_9 ⟨by decide, by omega⟩ rfl rfl rfl (by decide) rfl (tyX0_ok 0 (by decide)) dX0_begin_2 rfl ?_
  obtain ⟨μ1, eμ1⟩ : ∃ z : zM, z = zu μ 30 0 x1 := ⟨_, rfl⟩
  have h := h μ1 eμ1
  refine Z_mem eμ1 ?_
  refine Z_aload_n dX0_begin_5 rfl ?_
  refine Z_iconst dX0_begin_6 ?_
  refine Y_pi 1 zcX0 fk_X0_15 ⟨by decide, by omega⟩ rfl rfl rfl (by decide) rfl (tyX0_ok 1 (by decide)) dX0_begin_7 rfl ?_
  obtain ⟨μ2, eμ2⟩ : ∃ z : zM, z = zu μ1 30 1 0 := ⟨_, rfl⟩
  have h := h μ2 eμ2
  refine Z_mem eμ2 ?_
  refine Z_aload_n dX0_begin_10 rfl ?_
  refine Z_callVv h md_X0_leadAllRows sv_X0_leadAllRows lk_X0_46 zcX0 rfl ⟨by decide, by omega⟩ rfl rfl rfl rfl (Nat.le_of_ble_eq_true rfl) dX0_begin_11 ⟨by decide, Nat.le_of_ble_eq_true rfl⟩ ⟨Nat.zero_le _, Nat.zero_le _⟩ ?_
  intro μ4 h
  exact Z_return dX0_begin_14 ⟨rfl, h⟩
abbrev mX0_append (G : zG) (n : Nat) (x1 x2 : Int) (μ : zM) (K : Int → zM → Prop) : Prop := zMt G n 5 yX0_append cX0_append 3 (some .int) [Rv G 30, Iv x1, Iv x2] μ (zKi K)
abbrev pX0_append (G : zG) (n : Nat) (K : Int → zM → Prop) (pc : Nat) (lv : List (Option Value)) (st : List Value) (μ : zM) : Prop := Z G (zrm 5 0 0) RX0 "append" cX0_append 3 (some .int) (zPh G n (zKi K)) 0 0 pc lv st (zE G n μ)
theorem eX0_append {G : zG} {n : Nat} (hn : 45 ≤ n) {x1 x2 : Int} {μ : zM} {K : Int → zM → Prop}
    (h : ((0 ≤ wr (μ 30 1) ∧ wr (μ 30 1) < 30) ∧ ∀ μ2 : zM, μ2 = zu μ 31 (wr (μ 30 1)) x1 → (0 ≤ wr (μ2 30 1) ∧ wr (μ2 30 1) < 30) ∧ ∀ μ4 : zM, μ4 = zu μ2 32 (wr (μ2 30 1)) x2 → ∀ μ5 : zM, μ5 = zu μ4 30 1 ((μ4 30 1) + 1) → mX0_leadAllRows G n  μ5 (fun μ7 => K ((μ7 30 1) - 1) μ7))) :
    mX0_append G n x1 x2 μ K := by
  refine zMt_of (lv := [some (Rv G 30), some (Iv x1), some (Iv x2)]) (by decide) rfl (Nat.le_of_ble_eq_true rfl) ?_
  show pX0_append G n K 0 [some (Rv G 30), some (Iv x1), some (Iv x2)] [] μ
  refine Z_aload_n dX0_append_0 rfl ?_
  refine Z_gr (t := 31) zcX0 fl_X0_24 ⟨by decide, by omega⟩ rfl rfl rfl (by decide) (by decide) dX0_append_1 ?_
  refine Z_aload_n dX0_append_4 rfl ?_
  refine Y_gi 1 zcX0 fl_X0_15 ⟨by decide, by omega⟩ rfl rfl rfl (by decide) dX0_append_5 rfl ?_
  refine Z_iload_n dX0_append_8 rfl ?_
  obtain ⟨b1, h⟩ := h
  refine Z_iast (zin_c (by decide) (by omega) (by decide) (by decide) b1) dX0_append_9 ?_
  obtain ⟨μ2, eμ2⟩ : ∃ z : zM, z = zu μ 31 (wr (μ 30 1)) x1 := ⟨_, rfl⟩
  have h := h μ2 eμ2
  refine Z_mem eμ2 ?_
  refine Z_aload_n dX0_append_10 rfl ?_
  refine Z_gr (t := 32) zcX0 fl_X0_28 ⟨by decide, by omega⟩ rfl rfl rfl (by decide) (by decide) dX0_append_11 ?_
  refine Z_aload_n dX0_append_14 rfl ?_
  refine Y_gi 1 zcX0 fl_X0_15 ⟨by decide, by omega⟩ rfl rfl rfl (by decide) dX0_append_15 rfl ?_
  refine Z_iload_n dX0_append_18 rfl ?_
  obtain ⟨b3, h⟩ := h
  refine Z_iast (zin_c (by decide) (by omega) (by decide) (by decide) b3) dX0_append_19 ?_
  obtain ⟨μ4, eμ4⟩ : ∃ z : zM, z = zu μ2 32 (wr (μ2 30 1)) x2 := ⟨_, rfl⟩
  have h := h μ4 eμ4
  refine Z_mem eμ4 ?_
  refine Z_aload_n dX0_append_20 rfl ?_
  refine Z_dup dX0_append_21 rfl ?_
  refine Y_gi 1 zcX0 fl_X0_15 ⟨by decide, by omega⟩ rfl rfl rfl (by decide) dX0_append_22 rfl ?_
  refine Z_iconst dX0_append_25 ?_
  refine Z_iadd dX0_append_26 ?_
  refine Y_pi 1 zcX0 fk_X0_15 ⟨by decide, by omega⟩ rfl rfl rfl (by decide) rfl (tyX0_ok 1 (by decide)) dX0_append_27 rfl ?_
  obtain ⟨μ5, eμ5⟩ : ∃ z : zM, z = zu μ4 30 1 ((μ4 30 1) + 1) := ⟨_, rfl⟩
  have h := h μ5 eμ5
  refine Z_mem eμ5 ?_
  refine Z_aload_n dX0_append_30 rfl ?_
  refine Z_callVv h md_X0_leadAllRows sv_X0_leadAllRows lk_X0_46 zcX0 rfl ⟨by decide, by omega⟩ rfl rfl rfl rfl (Nat.le_of_ble_eq_true rfl) dX0_append_31 ⟨by decide, Nat.le_of_ble_eq_true rfl⟩ ⟨Nat.zero_le _, Nat.zero_le _⟩ ?_
  intro μ7 h
  refine Z_aload_n dX0_append_34 rfl ?_
  refine Y_gi 1 zcX0 fl_X0_15 ⟨by decide, by omega⟩ rfl rfl rfl (by decide) dX0_append_35 rfl ?_
  refine Z_iconst dX0_append_38 ?_
  refine Z_isub dX0_append_39 ?_
  exact Z_ireturn dX0_append_40 ⟨_, rfl, h⟩
abbrev mX0_dropLatest (G : zG) (n : Nat) (μ : zM) (K : Int → zM → Prop) : Prop := zMt G n 5 yX0_dropLatest cX0_dropLatest 1 (some .int) [Rv G 30] μ (zKi K)
abbrev pX0_dropLatest (G : zG) (n : Nat) (K : Int → zM → Prop) (pc : Nat) (lv : List (Option Value)) (st : List Value) (μ : zM) : Prop := Z G (zrm 5 0 0) RX0 "dropLatest" cX0_dropLatest 1 (some .int) (zPh G n (zKi K)) 0 0 pc lv st (zE G n μ)
theorem eX0_dropLatest {G : zG} {n : Nat} (hn : 45 ≤ n) {μ : zM} {K : Int → zM → Prop}
    (h : (∀ μ1 : zM, μ1 = zu μ 30 1 ((μ 30 1) - 1) → mX0_leadAllRows G n  μ1 (fun μ3 => K (μ3 30 1) μ3))) :
    mX0_dropLatest G n  μ K := by
  refine zMt_of (lv := [some (Rv G 30)]) (by decide) rfl (Nat.le_of_ble_eq_true rfl) ?_
  show pX0_dropLatest G n K 0 [some (Rv G 30)] [] μ
  refine Z_aload_n dX0_dropLatest_0 rfl ?_
  refine Z_dup dX0_dropLatest_1 rfl ?_
  refine Y_gi 1 zcX0 fl_X0_15 ⟨by decide, by omega⟩ rfl rfl rfl (by decide) dX0_dropLatest_2 rfl ?_
  refine Z_iconst dX0_dropLatest_5 ?_
  refine Z_isub dX0_dropLatest_6 ?_
  refine Y_pi 1 zcX0 fk_X0_15 ⟨by decide, by omega⟩ rfl rfl rfl (by decide) rfl (tyX0_ok 1 (by decide)) dX0_dropLatest_7 rfl ?_
  obtain ⟨μ1, eμ1⟩ : ∃ z : zM, z = zu μ 30 1 ((μ 30 1) - 1) := ⟨_, rfl⟩
  have h := h μ1 eμ1
  refine Z_mem eμ1 ?_
  refine Z_aload_n dX0_dropLatest_10 rfl ?_
  refine Z_callVv h md_X0_leadAllRows sv_X0_leadAllRows lk_X0_46 zcX0 rfl ⟨by decide, by omega⟩ rfl rfl rfl rfl (Nat.le_of_ble_eq_true rfl) dX0_dropLatest_11 ⟨by decide, Nat.le_of_ble_eq_true rfl⟩ ⟨Nat.zero_le _, Nat.zero_le _⟩ ?_
  intro μ3 h
  refine Z_aload_n dX0_dropLatest_14 rfl ?_
  refine Y_gi 1 zcX0 fl_X0_15 ⟨by decide, by omega⟩ rfl rfl rfl (by decide) dX0_dropLatest_15 rfl ?_
  exact Z_ireturn dX0_dropLatest_18 ⟨_, rfl, h⟩
abbrev mX0_told (G : zG) (n : Nat) (x1 : Int) (μ : zM) (K : Int → zM → Prop) : Prop := zMt G n 5 yX0_told cX0_told 2 (some .int) [Rv G 30, Iv x1] μ (zKi K)
abbrev pX0_told (G : zG) (n : Nat) (K : Int → zM → Prop) (pc : Nat) (lv : List (Option Value)) (st : List Value) (μ : zM) : Prop := Z G (zrm 5 0 0) RX0 "told" cX0_told 2 (some .int) (zPh G n (zKi K)) 0 0 pc lv st (zE G n μ)
theorem eX0_told {G : zG} {n : Nat} (hn : 45 ≤ n) {x1 : Int} {μ : zM} {K : Int → zM → Prop}
    (h : (mX0_kindOf G n x1 μ (fun r1 μ2 => ((wr r1 = 1 → (mX0_toldLong G n x1 μ2 (fun r4 μ5 => K r4 μ5))) ∧ (wr r1 = 2 → (mX0_toldTurned G n x1 μ2 (fun r6 μ7 => K r6 μ7))) ∧ ((¬ wr r1 = 1 ∧ ¬ wr r1 = 2) → (mX0_toldPlain G n x1 μ2 (fun r8 μ9 => K r8 μ9))))))) :
    mX0_told G n x1 μ K := by
  refine zMt_of (lv := [some (Rv G 30), some (Iv x1)]) (by decide) rfl (Nat.le_of_ble_eq_true rfl) ?_
  show pX0_told G n K 0 [some (Rv G 30), some (Iv x1)] [] μ
  refine Z_aload_n dX0_told_0 rfl ?_
  refine Z_iload_n dX0_told_1 rfl ?_
  refine Z_callVi h md_X0_kindOf sv_X0_kindOf lk_X0_72 zcX0 rfl ⟨by decide, by omega⟩ rfl rfl rfl rfl (Nat.le_of_ble_eq_true rfl) dX0_told_2 ⟨by decide, Nat.le_of_ble_eq_true rfl⟩ ⟨Nat.zero_le _, Nat.zero_le _⟩ ?_
  intro r1 μ2 h
  by_cases c3_0 : wr r1 = 1
  · have h := h.1 c3_0
    refine Z_lookup (tgt := 38) (off := 33) dX0_told_5 (by decide) (by rw [c3_0]; rfl) (by decide) ?_
    refine Z_aload_n dX0_told_38 rfl ?_
    refine Z_iload_n dX0_told_39 rfl ?_
    refine Z_callVi h md_X0_toldLong sv_X0_toldLong lk_X0_79 zcX0 rfl ⟨by decide, by omega⟩ rfl rfl rfl rfl (Nat.le_of_ble_eq_true rfl) dX0_told_40 ⟨by decide, Nat.le_of_ble_eq_true rfl⟩ ⟨Nat.zero_le _, Nat.zero_le _⟩ ?_
    intro r4 μ5 h
    exact Z_ireturn dX0_told_43 ⟨_, rfl, h⟩
  · skip
    by_cases c3_1 : wr r1 = 2
    · have h := h.2.1 c3_1
      refine Z_lookup (tgt := 32) (off := 27) dX0_told_5 (by decide) (by rw [c3_1]; rfl) (by decide) ?_
      refine Z_aload_n dX0_told_32 rfl ?_
      refine Z_iload_n dX0_told_33 rfl ?_
      refine Z_callVi h md_X0_toldTurned sv_X0_toldTurned lk_X0_76 zcX0 rfl ⟨by decide, by omega⟩ rfl rfl rfl rfl (Nat.le_of_ble_eq_true rfl) dX0_told_34 ⟨by decide, Nat.le_of_ble_eq_true rfl⟩ ⟨Nat.zero_le _, Nat.zero_le _⟩ ?_
      intro r6 μ7 h
      exact Z_ireturn dX0_told_37 ⟨_, rfl, h⟩
    · skip
      have h := h.2.2 ⟨c3_0, c3_1⟩
      refine Z_lookup (tgt := 44) (off := 39) dX0_told_5 (by decide) (by have q0 : ¬ (1 : Int) = wr r1 := fun q => c3_0 q.symm; have q1 : ¬ (2 : Int) = wr r1 := fun q => c3_1 q.symm; simp [Op.lookupswitch.offset, q0, q1]) (by decide) ?_
      refine Z_aload_n dX0_told_44 rfl ?_
      refine Z_iload_n dX0_told_45 rfl ?_
      refine Z_callVi h md_X0_toldPlain sv_X0_toldPlain lk_X0_82 zcX0 rfl ⟨by decide, by omega⟩ rfl rfl rfl rfl (Nat.le_of_ble_eq_true rfl) dX0_told_46 ⟨by decide, Nat.le_of_ble_eq_true rfl⟩ ⟨Nat.zero_le _, Nat.zero_le _⟩ ?_
      intro r8 μ9 h
      exact Z_ireturn dX0_told_49 ⟨_, rfl, h⟩
