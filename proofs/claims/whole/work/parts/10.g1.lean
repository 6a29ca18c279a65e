abbrev mX1_width (G : zG) (n : Nat) (μ : zM) (K : Int → zM → Prop) : Prop := zMt G n 1 yX1_width cX1_width 1 (some .int) [Rv G 19] μ (zKi K)
abbrev pX1_width (G : zG) (n : Nat) (K : Int → zM → Prop) (pc : Nat) (lv : List (Option Value)) (st : List Value) (μ : zM) : Prop := Z G (zrm 1 0 0) RX1 "width" cX1_width 1 (some .int) (zPh G n (zKi K)) 0 0 pc lv st (zE G n μ)
theorem eX1_width {G : zG} {n : Nat} (hn : 26 ≤ n) {μ : zM} {K : Int → zM → Prop}
    (h : (K (zshl 1 (μ 19 0)) μ)) :
    mX1_width G n  μ K := by
  refine zMt_of (lv := [some (Rv G 19)]) (by decide) rfl (Nat.le_of_ble_eq_true rfl) ?_
  show pX1_width G n K 0 [some (Rv G 19)] [] μ
  refine Z_iconst dX1_width_0 ?_
  refine Z_aload_n dX1_width_1 rfl ?_
  refine Y_gi 0 zcX1 fl_X1_9 ⟨by decide, by omega⟩ rfl rfl rfl (by decide) dX1_width_2 rfl ?_
  refine Z_ishl dX1_width_5 ?_
  exact Z_ireturn dX1_width_6 ⟨_, rfl, h⟩
abbrev mX1_bit (G : zG) (n : Nat) (x0 x1 : Int) (μ : zM) (K : Int → zM → Prop) : Prop := zMt G n 1 yX1_bit cX1_bit 2 (some .int) [Iv x0, Iv x1] μ (zKi K)
abbrev pX1_bit (G : zG) (n : Nat) (K : Int → zM → Prop) (pc : Nat) (lv : List (Option Value)) (st : List Value) (μ : zM) : Prop := Z G (zrm 1 0 0) RX1 "bit" cX1_bit 2 (some .int) (zPh G n (zKi K)) 0 0 pc lv st (zE G n μ)
theorem eX1_bit {G : zG} {n : Nat} (hn : 26 ≤ n) {x0 x1 : Int} {μ : zM} {K : Int → zM → Prop}
    (h : (K (zand (zshr x0 x1) 1) μ)) :
    mX1_bit G n x0 x1 μ K := by
  refine zMt_of (lv := [some (Iv x0), some (Iv x1)]) (by decide) rfl (Nat.le_of_ble_eq_true rfl) ?_
  show pX1_bit G n K 0 [some (Iv x0), some (Iv x1)] [] μ
  refine Z_iload_n dX1_bit_0 rfl ?_
  refine Z_iload_n dX1_bit_1 rfl ?_
  refine Z_ishr dX1_bit_2 ?_
  refine Z_iconst dX1_bit_3 ?_
  refine Z_iand dX1_bit_4 ?_
  exact Z_ireturn dX1_bit_5 ⟨_, rfl, h⟩
abbrev mX1_takeOrder (G : zG) (n : Nat) (x1 x2 : Int) (μ : zM) (K : Int → zM → Prop) : Prop := zMt G n 2 yX1_takeOrder cX1_takeOrder 6 (some .boolean) [Rv G 19, Iv x1, Rv G x2] μ (zKi K)
abbrev pX1_takeOrder (G : zG) (n : Nat) (K : Int → zM → Prop) (pc : Nat) (lv : List (Option Value)) (st : List Value) (μ : zM) : Prop := Z G (zrm 2 0 0) RX1 "takeOrder" cX1_takeOrder 6 (some .boolean) (zPh G n (zKi K)) 0 0 pc lv st (zE G n μ)
theorem eX1_takeOrder {G : zG} {n : Nat} (hn : 26 ≤ n) {x1 x2 : Int} {μ : zM} {K : Int → zM → Prop}
    (h : (∀ v1 : Int, v1 = zshl 1 x1 → pX1_takeOrder G n K 10 [some (Rv G 19), some (Iv x1), some (Rv G x2), some (Iv v1), some (Iv 0), some (Iv 0)] [] μ)) :
    mX1_takeOrder G n x1 x2 μ K := by
  refine zMt_of (lv := [some (Rv G 19), some (Iv x1), some (Rv G x2), none, none, none]) (by decide) rfl (Nat.le_of_ble_eq_true rfl) ?_
  show pX1_takeOrder G n K 0 [some (Rv G 19), some (Iv x1), some (Rv G x2), none, none, none] [] μ
  refine Z_iconst dX1_takeOrder_0 ?_
  refine Z_iload_n dX1_takeOrder_1 rfl ?_
  refine Z_ishl dX1_takeOrder_2 ?_
  obtain ⟨v1, ev1⟩ : ∃ z : Int, z = zshl 1 x1 := ⟨_, rfl⟩
  have h := h v1 ev1
  refine Z_nmi ev1 ?_
  refine Z_istore_n (lv2 := [some (Rv G 19), some (Iv x1), some (Rv G x2), some (Iv v1), none, none]) dX1_takeOrder_3 rfl (by decide) rfl ?_
  refine Z_iconst dX1_takeOrder_4 ?_
  refine Z_istore (lv2 := [some (Rv G 19), some (Iv x1), some (Rv G x2), some (Iv v1), some (Iv 0), none]) dX1_takeOrder_5 rfl (by decide) rfl ?_
  refine Z_iconst dX1_takeOrder_7 ?_
  refine Z_istore (lv2 := [some (Rv G 19), some (Iv x1), some (Rv G x2), some (Iv v1), some (Iv 0), some (Iv 0)]) dX1_takeOrder_8 rfl (by decide) rfl ?_
  exact Z_cut h ⟨rfl, rfl, rfl, rfl, rfl, rfl, trivial⟩
theorem bX1_takeOrder_10 {G : zG} {n : Nat} (hn : 26 ≤ n) {x1 x2 x3 x4 x5 : Int} {μ : zM} {K : Int → zM → Prop}
    (h : (((wr x3 ≤ wr x5 → (((wr x4 = wr ((zshl 1 x3) - 1) → (∀ μ3 : zM, μ3 = zu μ 19 0 x1 → ((0 ≤ x2 ∧ x2 < n ∧ zk x2 = 0) ∧ 0 ≤ wr 0 ∧ wr 0 + wr x3 ≤ zn x2) ∧ (0 ≤ wr 0 ∧ wr 0 + wr x3 ≤ 8) ∧ 0 ≤ wr x3 ∧ ∀ μ7 : zM, μ7 = zcp μ3 x2 (wr 0) 20 (wr 0) (wr x3) → K 1 μ7)) ∧ (¬ (wr x4 = wr ((zshl 1 x3) - 1)) → (K 0 μ))))) ∧ (¬ (wr x3 ≤ wr x5) → (zin 0 n x2 x5 ∧ mX7_within G n (μ x2 (wr x5)) 0 (x3 - 1) μ (fun r9 μ10 => ((¬ wr r9 = 0 → (zin 0 n x2 x5 ∧ ∀ v13 : Int, v13 = zor x4 (zshl 1 (μ10 x2 (wr x5))) → pX1_takeOrder G n K 10 [some (Rv G 19), some (Iv x1), some (Rv G x2), some (Iv x3), some (Iv v13), some (Iv (x5 + 1))] [] μ10)) ∧ (wr r9 = 0 → (K 0 μ10))))))))) :
    pX1_takeOrder G n K 10 [some (Rv G 19), some (Iv x1), some (Rv G x2), some (Iv x3), some (Iv x4), some (Iv x5)] [] μ := by
  refine Z_iload dX1_takeOrder_10 rfl ?_
  refine Z_iload_n dX1_takeOrder_12 rfl ?_
  refine Z_icmp_ge (tgt := 49) dX1_takeOrder_13 (by decide) (fun c1 => ?_) (fun c1 => ?_)
  · have h := h.1 c1
    refine Z_iload dX1_takeOrder_49 rfl ?_
    refine Z_iconst dX1_takeOrder_51 ?_
    refine Z_iload_n dX1_takeOrder_52 rfl ?_
    refine Z_ishl dX1_takeOrder_53 ?_
    refine Z_iconst dX1_takeOrder_54 ?_
    refine Z_isub dX1_takeOrder_55 ?_
    refine Z_icmp_eq (tgt := 61) dX1_takeOrder_56 (by decide) (fun c2 => ?_) (fun c2 => ?_)
    · have h := h.1 c2
      refine Z_aload_n dX1_takeOrder_61 rfl ?_
      refine Z_iload_n dX1_takeOrder_62 rfl ?_
      refine Y_pi 0 zcX1 fk_X1_9 ⟨by decide, by omega⟩ rfl rfl rfl (by decide) rfl (tyX1_ok 0 (by decide)) dX1_takeOrder_63 rfl ?_
      obtain ⟨μ3, eμ3⟩ : ∃ z : zM, z = zu μ 19 0 x1 := ⟨_, rfl⟩
      have h := h μ3 eμ3
      refine Z_mem eμ3 ?_
      refine Z_aload_n dX1_takeOrder_66 rfl ?_
      refine Z_iconst dX1_takeOrder_67 ?_
      refine Z_aload_n dX1_takeOrder_68 rfl ?_
      refine Z_gr (t := 20) zcX1 fl_X1_15 ⟨by decide, by omega⟩ rfl rfl rfl (by decide) (by decide) dX1_takeOrder_69 ?_
      refine Z_iconst dX1_takeOrder_72 ?_
      refine Z_iload_n dX1_takeOrder_73 rfl ?_
      obtain ⟨b4, b5, b6, h⟩ := h
      refine Z_copy lk_X1_28 ac1 ac2 ac3 b4.1 ⟨by decide, by omega, by decide⟩ b4.2 (zcpb (by decide) b5) b6 ⟨by decide, Nat.le_of_ble_eq_true rfl⟩ dX1_takeOrder_74 ?_
      obtain ⟨μ7, eμ7⟩ : ∃ z : zM, z = zcp μ3 x2 (wr 0) 20 (wr 0) (wr x3) := ⟨_, rfl⟩
      have h := h μ7 eμ7
      refine Z_mem eμ7 ?_
      refine Z_iconst dX1_takeOrder_77 ?_
      exact Z_zreturn dX1_takeOrder_78 (by decide) ⟨_, rfl, h⟩
    · have h := h.2 c2
      refine Z_iconst dX1_takeOrder_59 ?_
      exact Z_zreturn dX1_takeOrder_60 (by decide) ⟨_, rfl, h⟩
  · have h := h.2 c1
    refine Z_aload_n dX1_takeOrder_16 rfl ?_
    refine Z_iload dX1_takeOrder_17 rfl ?_
    obtain ⟨b8, h⟩ := h
    refine Z_iald b8 dX1_takeOrder_19 ?_
    refine Z_iconst dX1_takeOrder_20 ?_
    refine Z_iload_n dX1_takeOrder_21 rfl ?_
    refine Z_iconst dX1_takeOrder_22 ?_
    refine Z_isub dX1_takeOrder_23 ?_
    refine Z_callSi h md_X7_within sv_X7_within lk_X1_24 rfl rfl (Nat.le_of_ble_eq_true rfl) dX1_takeOrder_24 ⟨by decide, Nat.le_of_ble_eq_true rfl⟩ ⟨Nat.zero_le _, Nat.zero_le _⟩ ?_
    intro r9 μ10 h
    refine Z_if_ne (tgt := 32) dX1_takeOrder_27 (by decide) (fun c11 => ?_) (fun c11 => ?_)
    · have h := h.1 c11
      refine Z_iload dX1_takeOrder_32 rfl ?_
      refine Z_iconst dX1_takeOrder_34 ?_
      refine Z_aload_n dX1_takeOrder_35 rfl ?_
      refine Z_iload dX1_takeOrder_36 rfl ?_
      obtain ⟨b12, h⟩ := h
      refine Z_iald b12 dX1_takeOrder_38 ?_
      refine Z_ishl dX1_takeOrder_39 ?_
      refine Z_ior dX1_takeOrder_40 ?_
      obtain ⟨v13, ev13⟩ : ∃ z : Int, z = zor x4 (zshl 1 (μ10 x2 (wr x5))) := ⟨_, rfl⟩
      have h := h v13 ev13
      refine Z_nmi ev13 ?_
      refine Z_istore (lv2 := [some (Rv G 19), some (Iv x1), some (Rv G x2), some (Iv x3), some (Iv v13), some (Iv x5)]) dX1_takeOrder_41 rfl (by decide) rfl ?_
      refine Z_iinc (lv2 := [some (Rv G 19), some (Iv x1), some (Rv G x2), some (Iv x3), some (Iv v13), some (Iv (x5 + 1))]) dX1_takeOrder_43 rfl rfl (by decide) rfl ?_
      refine Z_goto (tgt := 10) dX1_takeOrder_46 (by decide) ?_
      exact Z_cut h ⟨rfl, rfl, rfl, rfl, rfl, rfl, trivial⟩
    · have h := h.2 c11
      refine Z_iconst dX1_takeOrder_30 ?_
      exact Z_zreturn dX1_takeOrder_31 (by decide) ⟨_, rfl, h⟩
abbrev mX1_carried (G : zG) (n : Nat) (d : Nat) (x0 x1 x2 : Int) (μ : zM) (K : Int → zM → Prop) : Prop := zMt G n (2 + d) yX1_carried cX1_carried 7 (some .int) [Iv x0, Iv x1, Iv x2] μ (zKi K)
abbrev pX1_carried (G : zG) (n : Nat) (d : Nat) (K : Int → zM → Prop) (pc : Nat) (lv : List (Option Value)) (st : List Value) (μ : zM) : Prop := Z G (zrm (2 + (d + 1)) 0 0) RX1 "carried" cX1_carried 7 (some .int) (zPh G n (zKi K)) 0 0 pc lv st (zE G n μ)
theorem eX1_carried {G : zG} {n : Nat} (hn : 26 ≤ n) {d : Nat} {x0 x1 x2 : Int} {μ : zM} {K : Int → zM → Prop}
    (h : (((wr 1 < wr x0 → (∀ v2 : Int, v2 = zshl 1 x0 → mX1_bit G n x1 (zshr x2 1) μ (fun r3 μ4 => ∀ v5 : Int, v5 = zxor (zand x2 1) r3 → (0 ≤ wr (x0 - 1) ∧ wr (x0 - 1) < 4) ∧ ∀ v7 : Int, v7 = zshr x1 (v2 + (v5 * (zpairs (wr (x0 - 1)).toNat))) → mX1_carried G n d (x0 - 1) v7 (zshr x2 1) μ4 (fun r8 μ9 => mX1_bit G n x1 ((zdiv v2 2) + r8) μ9 (fun r10 μ11 => K ((2 * r8) + (zxor v5 r10)) μ11))))) ∧ (¬ (wr 1 < wr x0) → (K (zxor x2 (zand x1 1)) μ))))) :
    mX1_carried G n (d + 1) x0 x1 x2 μ K := by
  refine zMt_of (lv := [some (Iv x0), some (Iv x1), some (Iv x2), none, none, none, none]) (by decide) rfl (Nat.le_of_ble_eq_true rfl) ?_
  show pX1_carried G n d K 0 [some (Iv x0), some (Iv x1), some (Iv x2), none, none, none, none] [] μ
  refine Z_iload_n dX1_carried_0 rfl ?_
  refine Z_iconst dX1_carried_1 ?_
  refine Z_icmp_gt (tgt := 11) dX1_carried_2 (by decide) (fun c1 => ?_) (fun c1 => ?_)
  · have h := h.1 c1
    refine Z_iconst dX1_carried_11 ?_
    refine Z_iload_n dX1_carried_12 rfl ?_
    refine Z_ishl dX1_carried_13 ?_
    obtain ⟨v2, ev2⟩ : ∃ z : Int, z = zshl 1 x0 := ⟨_, rfl⟩
    have h := h v2 ev2
    refine Z_nmi ev2 ?_
    refine Z_istore_n (lv2 := [some (Iv x0), some (Iv x1), some (Iv x2), some (Iv v2), none, none, none]) dX1_carried_14 rfl (by decide) rfl ?_
    refine Z_iload_n dX1_carried_15 rfl ?_
    refine Z_iconst dX1_carried_16 ?_
    refine Z_iand dX1_carried_17 ?_
    refine Z_iload_n dX1_carried_18 rfl ?_
    refine Z_iload_n dX1_carried_19 rfl ?_
    refine Z_iconst dX1_carried_20 ?_
    refine Z_ishr dX1_carried_21 ?_
    refine Z_callSi h md_X1_bit sv_X1_bit lk_X1_49 rfl rfl (Nat.le_of_ble_eq_true rfl) dX1_carried_22 (by constructor <;> simp only [zrm, List.map, Value.category, List.sum_cons, List.sum_nil] <;> omega) ⟨Nat.zero_le _, Nat.zero_le _⟩ ?_
    intro r3 μ4 h
    refine Z_ixor dX1_carried_25 ?_
    obtain ⟨v5, ev5⟩ : ∃ z : Int, z = zxor (zand x2 1) r3 := ⟨_, rfl⟩
    have h := h v5 ev5
    refine Z_nmi ev5 ?_
    refine Z_istore (lv2 := [some (Iv x0), some (Iv x1), some (Iv x2), some (Iv v2), some (Iv v5), none, none]) dX1_carried_26 rfl (by decide) rfl ?_
    refine Z_iload_n dX1_carried_28 rfl ?_
    refine Z_iload_n dX1_carried_29 rfl ?_
    refine Z_iload dX1_carried_30 rfl ?_
    refine Z_gsP fs_X1_53 dX1_carried_32 ?_
    refine Z_iload_n dX1_carried_35 rfl ?_
    refine Z_iconst dX1_carried_36 ?_
    refine Z_isub dX1_carried_37 ?_
    obtain ⟨b6, h⟩ := h
    refine Z_ialdP b6 dX1_carried_38 ?_
    refine Z_imul dX1_carried_39 ?_
    refine Z_iadd dX1_carried_40 ?_
    refine Z_ishr dX1_carried_41 ?_
    obtain ⟨v7, ev7⟩ : ∃ z : Int, z = zshr x1 (v2 + (v5 * (zpairs (wr (x0 - 1)).toNat))) := ⟨_, rfl⟩
    have h := h v7 ev7
    refine Z_nmi ev7 ?_
    refine Z_istore (lv2 := [some (Iv x0), some (Iv x1), some (Iv x2), some (Iv v2), some (Iv v5), some (Iv v7), none]) dX1_carried_42 rfl (by decide) rfl ?_
    refine Z_iload_n dX1_carried_44 rfl ?_
    refine Z_iconst dX1_carried_45 ?_
    refine Z_isub dX1_carried_46 ?_
    refine Z_iload dX1_carried_47 rfl ?_
    refine Z_iload_n dX1_carried_49 rfl ?_
    refine Z_iconst dX1_carried_50 ?_
    refine Z_ishr dX1_carried_51 ?_
    refine Z_callSi h md_X1_carried sv_X1_carried lk_X1_38 rfl rfl (Nat.le_of_ble_eq_true rfl) dX1_carried_52 (by constructor <;> simp only [zrm, List.map, Value.category, List.sum_cons, List.sum_nil] <;> omega) ⟨Nat.zero_le _, Nat.zero_le _⟩ ?_
    intro r8 μ9 h
    refine Z_istore (lv2 := [some (Iv x0), some (Iv x1), some (Iv x2), some (Iv v2), some (Iv v5), some (Iv v7), some (Iv r8)]) dX1_carried_55 rfl (by decide) rfl ?_
    refine Z_iconst dX1_carried_57 ?_
    refine Z_iload dX1_carried_58 rfl ?_
    refine Z_imul dX1_carried_60 ?_
    refine Z_iload dX1_carried_61 rfl ?_
    refine Z_iload_n dX1_carried_63 rfl ?_
    refine Z_iload_n dX1_carried_64 rfl ?_
    refine Z_iconst dX1_carried_65 ?_
    refine Z_idiv dX1_carried_66 (by decide) ?_
    refine Z_iload dX1_carried_67 rfl ?_
    refine Z_iadd dX1_carried_69 ?_
    refine Z_callSi h md_X1_bit sv_X1_bit lk_X1_49 rfl rfl (Nat.le_of_ble_eq_true rfl) dX1_carried_70 (by constructor <;> simp only [zrm, List.map, Value.category, List.sum_cons, List.sum_nil] <;> omega) ⟨Nat.zero_le _, Nat.zero_le _⟩ ?_
    intro r10 μ11 h
    refine Z_ixor dX1_carried_73 ?_
    refine Z_iadd dX1_carried_74 ?_
    exact Z_ireturn dX1_carried_75 ⟨_, rfl, h⟩
  · have h := h.2 c1
    refine Z_iload_n dX1_carried_5 rfl ?_
    refine Z_iload_n dX1_carried_6 rfl ?_
    refine Z_iconst dX1_carried_7 ?_
    refine Z_iand dX1_carried_8 ?_
    refine Z_ixor dX1_carried_9 ?_
    exact Z_ireturn dX1_carried_10 ⟨_, rfl, h⟩
abbrev mX1_splitBy (G : zG) (n : Nat) (x1 x2 x3 : Int) (μ : zM) (K : Int → zM → Prop) : Prop := zMt G n 2 yX1_splitBy cX1_splitBy 12 (some .int) [Rv G 19, Iv x1, Iv x2, Iv x3] μ (zKi K)
abbrev pX1_splitBy (G : zG) (n : Nat) (K : Int → zM → Prop) (pc : Nat) (lv : List (Option Value)) (st : List Value) (μ : zM) : Prop := Z G (zrm 2 0 0) RX1 "splitBy" cX1_splitBy 12 (some .int) (zPh G n (zKi K)) 0 0 pc lv st (zE G n μ)
theorem eX1_splitBy {G : zG} {n : Nat} (hn : 26 ≤ n) {x1 x2 x3 : Int} {μ : zM} {K : Int → zM → Prop}
    (h : (∀ v1 : Int, v1 = zshl 1 x2 → ∀ v2 : Int, v2 = zdiv v1 2 → pX1_splitBy G n K 20 [some (Rv G 19), some (Iv x1), some (Iv x2), some (Iv x3), some (Iv v1), some (Iv v2), some (Iv 0), some (Iv 0), some (Iv 0), none, none, none] [] μ)) :
    mX1_splitBy G n x1 x2 x3 μ K := by
  refine zMt_of (lv := [some (Rv G 19), some (Iv x1), some (Iv x2), some (Iv x3), none, none, none, none, none, none, none, none]) (by decide) rfl (Nat.le_of_ble_eq_true rfl) ?_
  show pX1_splitBy G n K 0 [some (Rv G 19), some (Iv x1), some (Iv x2), some (Iv x3), none, none, none, none, none, none, none, none] [] μ
  refine Z_iconst dX1_splitBy_0 ?_
  refine Z_iload_n dX1_splitBy_1 rfl ?_
  refine Z_ishl dX1_splitBy_2 ?_
  obtain ⟨v1, ev1⟩ : ∃ z : Int, z = zshl 1 x2 := ⟨_, rfl⟩
  have h := h v1 ev1
  refine Z_nmi ev1 ?_
  refine Z_istore (lv2 := [some (Rv G 19), some (Iv x1), some (Iv x2), some (Iv x3), some (Iv v1), none, none, none, none, none, none, none]) dX1_splitBy_3 rfl (by decide) rfl ?_
  refine Z_iload dX1_splitBy_5 rfl ?_
  refine Z_iconst dX1_splitBy_7 ?_
  refine Z_idiv dX1_splitBy_8 (by decide) ?_
  obtain ⟨v2, ev2⟩ : ∃ z : Int, z = zdiv v1 2 := ⟨_, rfl⟩
  have h := h v2 ev2
  refine Z_nmi ev2 ?_
  refine Z_istore (lv2 := [some (Rv G 19), some (Iv x1), some (Iv x2), some (Iv x3), some (Iv v1), some (Iv v2), none, none, none, none, none, none]) dX1_splitBy_9 rfl (by decide) rfl ?_
  refine Z_iconst dX1_splitBy_11 ?_
  refine Z_istore (lv2 := [some (Rv G 19), some (Iv x1), some (Iv x2), some (Iv x3), some (Iv v1), some (Iv v2), some (Iv 0), none, none, none, none, none]) dX1_splitBy_12 rfl (by decide) rfl ?_
  refine Z_iconst dX1_splitBy_14 ?_
  refine Z_istore (lv2 := [some (Rv G 19), some (Iv x1), some (Iv x2), some (Iv x3), some (Iv v1), some (Iv v2), some (Iv 0), some (Iv 0), none, none, none, none]) dX1_splitBy_15 rfl (by decide) rfl ?_
  refine Z_iconst dX1_splitBy_17 ?_
  refine Z_istore (lv2 := [some (Rv G 19), some (Iv x1), some (Iv x2), some (Iv x3), some (Iv v1), some (Iv v2), some (Iv 0), some (Iv 0), some (Iv 0), none, none, none]) dX1_splitBy_18 rfl (by decide) rfl ?_
  exact Z_cut h ⟨rfl, rfl, rfl, rfl, rfl, rfl, rfl, rfl, rfl, trivial, trivial, trivial, trivial⟩
theorem bX1_splitBy_20 {G : zG} {n : Nat} (hn : 26 ≤ n) {x1 x2 x3 x4 x5 x6 x7 x8 : Int} {μ : zM} {K : Int → zM → Prop}
    (h : (((wr x4 ≤ wr x8 → (K x6 μ)) ∧ (¬ (wr x4 ≤ wr x8) → ((0 ≤ wr x2 ∧ wr x2 < 4) ∧ (0 ≤ wr (x3 + x8) ∧ wr (x3 + x8) < 8) ∧ ∀ v4 : Int, v4 = μ (21 + 1 + wr x2) (wr (x3 + x8)) → mX1_bit G n x1 (zshr x8 1) μ (fun r5 μ6 => ∀ v7 : Int, v7 = zxor (zand x8 1) r5 → ∀ v8 : Int, v8 = (v7 * x5) + (zshr v4 1) → mX1_bit G n x7 v8 μ6 (fun r9 μ10 => ((¬ wr r9 = wr 1 → (∀ v12 : Int, v12 = zor x7 (zshl 1 v8) → ∀ v13 : Int, v13 = zor x6 (zshl (zxor v7 (zand v4 1)) (zshr v4 1)) → (0 ≤ wr (x2 - 1) ∧ wr (x2 - 1) < 4) ∧ (0 ≤ wr ((v7 * x5) + (zshr x8 1)) ∧ wr ((v7 * x5) + (zshr x8 1)) < 8) ∧ ∀ μ16 : zM, μ16 = zu μ10 (21 + 1 + wr (x2 - 1)) (wr ((v7 * x5) + (zshr x8 1))) (zshr v4 1) → pX1_splitBy G n K 20 [some (Rv G 19), some (Iv x1), some (Iv x2), some (Iv x3), some (Iv x4), some (Iv x5), some (Iv v13), some (Iv v12), some (Iv (x8 + 1)), none, none, none] [] μ16)) ∧ (wr r9 = wr 1 → (K ((-9)) μ10)))))))))) :
    pX1_splitBy G n K 20 [some (Rv G 19), some (Iv x1), some (Iv x2), some (Iv x3), some (Iv x4), some (Iv x5), some (Iv x6), some (Iv x7), some (Iv x8), none, none, none] [] μ := by
  refine Z_iload dX1_splitBy_20 rfl ?_
  refine Z_iload dX1_splitBy_22 rfl ?_
  refine Z_icmp_ge (tgt := 136) dX1_splitBy_24 (by decide) (fun c1 => ?_) (fun c1 => ?_)
  · have h := h.1 c1
    refine Z_iload dX1_splitBy_136 rfl ?_
    exact Z_ireturn dX1_splitBy_138 ⟨_, rfl, h⟩
  · have h := h.2 c1
    refine Z_aload_n dX1_splitBy_27 rfl ?_
    refine Z_gr (t := 21) zcX1 fl_X1_21 ⟨by decide, by omega⟩ rfl rfl rfl (by decide) (by decide) dX1_splitBy_28 ?_
    refine Z_iload_n dX1_splitBy_31 rfl ?_
    obtain ⟨b2, h⟩ := h
    refine Z_aald3 (zin_c (by decide) (by omega) (by decide) (by decide) b2) dX1_splitBy_32 ?_
    refine Z_iload_n dX1_splitBy_33 rfl ?_
    refine Z_iload dX1_splitBy_34 rfl ?_
    refine Z_iadd dX1_splitBy_36 ?_
    obtain ⟨b3, h⟩ := h
    refine Z_iald (zin_c (zr_21 b2).1 (by have := b2; omega) (zr_21 b2).2.1 (zr_21 b2).2.2 b3) dX1_splitBy_37 ?_
    obtain ⟨v4, ev4⟩ : ∃ z : Int, z = μ (21 + 1 + wr x2) (wr (x3 + x8)) := ⟨_, rfl⟩
    have h := h v4 ev4
    refine Z_nmi ev4 ?_
    refine Z_istore (lv2 := [some (Rv G 19), some (Iv x1), some (Iv x2), some (Iv x3), some (Iv x4), some (Iv x5), some (Iv x6), some (Iv x7), some (Iv x8), some (Iv v4), none, none]) dX1_splitBy_38 rfl (by decide) rfl ?_
    refine Z_iload dX1_splitBy_40 rfl ?_
    refine Z_iconst dX1_splitBy_42 ?_
    refine Z_iand dX1_splitBy_43 ?_
    refine Z_iload_n dX1_splitBy_44 rfl ?_
    refine Z_iload dX1_splitBy_45 rfl ?_
    refine Z_iconst dX1_splitBy_47 ?_
    refine Z_ishr dX1_splitBy_48 ?_
    refine Z_callSi h md_X1_bit sv_X1_bit lk_X1_49 rfl rfl (Nat.le_of_ble_eq_true rfl) dX1_splitBy_49 ⟨by decide, Nat.le_of_ble_eq_true rfl⟩ ⟨Nat.zero_le _, Nat.zero_le _⟩ ?_
    intro r5 μ6 h
    refine Z_ixor dX1_splitBy_52 ?_
    obtain ⟨v7, ev7⟩ : ∃ z : Int, z = zxor (zand x8 1) r5 := ⟨_, rfl⟩
    have h := h v7 ev7
    refine Z_nmi ev7 ?_
    refine Z_istore (lv2 := [some (Rv G 19), some (Iv x1), some (Iv x2), some (Iv x3), some (Iv x4), some (Iv x5), some (Iv x6), some (Iv x7), some (Iv x8), some (Iv v4), some (Iv v7), none]) dX1_splitBy_53 rfl (by decide) rfl ?_
    refine Z_iload dX1_splitBy_55 rfl ?_
    refine Z_iload dX1_splitBy_57 rfl ?_
    refine Z_imul dX1_splitBy_59 ?_
    refine Z_iload dX1_splitBy_60 rfl ?_
    refine Z_iconst dX1_splitBy_62 ?_
    refine Z_ishr dX1_splitBy_63 ?_
    refine Z_iadd dX1_splitBy_64 ?_
    obtain ⟨v8, ev8⟩ : ∃ z : Int, z = (v7 * x5) + (zshr v4 1) := ⟨_, rfl⟩
    have h := h v8 ev8
    refine Z_nmi ev8 ?_
    refine Z_istore (lv2 := [some (Rv G 19), some (Iv x1), some (Iv x2), some (Iv x3), some (Iv x4), some (Iv x5), some (Iv x6), some (Iv x7), some (Iv x8), some (Iv v4), some (Iv v7), some (Iv v8)]) dX1_splitBy_65 rfl (by decide) rfl ?_
    refine Z_iload dX1_splitBy_67 rfl ?_
    refine Z_iload dX1_splitBy_69 rfl ?_
    refine Z_callSi h md_X1_bit sv_X1_bit lk_X1_49 rfl rfl (Nat.le_of_ble_eq_true rfl) dX1_splitBy_71 ⟨by decide, Nat.le_of_ble_eq_true rfl⟩ ⟨Nat.zero_le _, Nat.zero_le _⟩ ?_
    intro r9 μ10 h
    refine Z_iconst dX1_splitBy_74 ?_
    refine Z_icmp_ne (tgt := 81) dX1_splitBy_75 (by decide) (fun c11 => ?_) (fun c11 => ?_)
    · have h := h.1 c11
      refine Z_iload dX1_splitBy_81 rfl ?_
      refine Z_iconst dX1_splitBy_83 ?_
      refine Z_iload dX1_splitBy_84 rfl ?_
      refine Z_ishl dX1_splitBy_86 ?_
      refine Z_ior dX1_splitBy_87 ?_
      obtain ⟨v12, ev12⟩ : ∃ z : Int, z = zor x7 (zshl 1 v8) := ⟨_, rfl⟩
      have h := h v12 ev12
      refine Z_nmi ev12 ?_
      refine Z_istore (lv2 := [some (Rv G 19), some (Iv x1), some (Iv x2), some (Iv x3), some (Iv x4), some (Iv x5), some (Iv x6), some (Iv v12), some (Iv x8), some (Iv v4), some (Iv v7), some (Iv v8)]) dX1_splitBy_88 rfl (by decide) rfl ?_
      refine Z_iload dX1_splitBy_90 rfl ?_
      refine Z_iload dX1_splitBy_92 rfl ?_
      refine Z_iload dX1_splitBy_94 rfl ?_
      refine Z_iconst dX1_splitBy_96 ?_
      refine Z_iand dX1_splitBy_97 ?_
      refine Z_ixor dX1_splitBy_98 ?_
      refine Z_iload dX1_splitBy_99 rfl ?_
      refine Z_iconst dX1_splitBy_101 ?_
      refine Z_ishr dX1_splitBy_102 ?_
      refine Z_ishl dX1_splitBy_103 ?_
      refine Z_ior dX1_splitBy_104 ?_
      obtain ⟨v13, ev13⟩ : ∃ z : Int, z = zor x6 (zshl (zxor v7 (zand v4 1)) (zshr v4 1)) := ⟨_, rfl⟩
      have h := h v13 ev13
      refine Z_nmi ev13 ?_
      refine Z_istore (lv2 := [some (Rv G 19), some (Iv x1), some (Iv x2), some (Iv x3), some (Iv x4), some (Iv x5), some (Iv v13), some (Iv v12), some (Iv x8), some (Iv v4), some (Iv v7), some (Iv v8)]) dX1_splitBy_105 rfl (by decide) rfl ?_
      refine Z_aload_n dX1_splitBy_107 rfl ?_
      refine Z_gr (t := 21) zcX1 fl_X1_21 ⟨by decide, by omega⟩ rfl rfl rfl (by decide) (by decide) dX1_splitBy_108 ?_
      refine Z_iload_n dX1_splitBy_111 rfl ?_
      refine Z_iconst dX1_splitBy_112 ?_
      refine Z_isub dX1_splitBy_113 ?_
      obtain ⟨b14, h⟩ := h
      refine Z_aald3 (zin_c (by decide) (by omega) (by decide) (by decide) b14) dX1_splitBy_114 ?_
      refine Z_iload dX1_splitBy_115 rfl ?_
      refine Z_iload dX1_splitBy_117 rfl ?_
      refine Z_imul dX1_splitBy_119 ?_
      refine Z_iload dX1_splitBy_120 rfl ?_
      refine Z_iconst dX1_splitBy_122 ?_
      refine Z_ishr dX1_splitBy_123 ?_
      refine Z_iadd dX1_splitBy_124 ?_
      refine Z_iload dX1_splitBy_125 rfl ?_
      refine Z_iconst dX1_splitBy_127 ?_
      refine Z_ishr dX1_splitBy_128 ?_
      obtain ⟨b15, h⟩ := h
      refine Z_iast (zin_c (zr_21 b14).1 (by have := b14; omega) (zr_21 b14).2.1 (zr_21 b14).2.2 b15) dX1_splitBy_129 ?_
      obtain ⟨μ16, eμ16⟩ : ∃ z : zM, z = zu μ10 (21 + 1 + wr (x2 - 1)) (wr ((v7 * x5) + (zshr x8 1))) (zshr v4 1) := ⟨_, rfl⟩
      have h := h μ16 eμ16
      refine Z_mem eμ16 ?_
      refine Z_iinc (lv2 := [some (Rv G 19), some (Iv x1), some (Iv x2), some (Iv x3), some (Iv x4), some (Iv x5), some (Iv v13), some (Iv v12), some (Iv (x8 + 1)), some (Iv v4), some (Iv v7), some (Iv v8)]) dX1_splitBy_130 rfl rfl (by decide) rfl ?_
      refine Z_goto (tgt := 20) dX1_splitBy_133 (by decide) ?_
      exact Z_cut h ⟨rfl, rfl, rfl, rfl, rfl, rfl, rfl, rfl, rfl, trivial, trivial, trivial, trivial⟩
    · have h := h.2 c11
      refine Z_bipush dX1_splitBy_78 (by decide) ?_
      exact Z_ireturn dX1_splitBy_80 ⟨_, rfl, h⟩
abbrev mX1_settingsOf (G : zG) (n : Nat) (d : Nat) (x1 x2 : Int) (μ : zM) (K : Int → zM → Prop) : Prop := zMt G n (3 + d) yX1_settingsOf cX1_settingsOf 7 (some .long) [Rv G 19, Iv x1, Iv x2] μ (zKl K)
abbrev pX1_settingsOf (G : zG) (n : Nat) (d : Nat) (K : Int → zM → Prop) (pc : Nat) (lv : List (Option Value)) (st : List Value) (μ : zM) : Prop := Z G (zrm (3 + (d + 1)) 0 0) RX1 "settingsOf" cX1_settingsOf 7 (some .long) (zPh G n (zKl K)) 0 0 pc lv st (zE G n μ)
theorem eX1_settingsOf {G : zG} {n : Nat} (hn : 26 ≤ n) {d : Nat} {x1 x2 : Int} {μ : zM} {K : Int → zM → Prop}
    (h : (((wr 1 < wr x1 → (∀ v2 : Int, v2 = zshl 1 (x1 - 1) → pX1_settingsOf G n d K 19 [some (Rv G 19), some (Iv x1), some (Iv x2), some (Iv v2), some (Lv 0), none, some (Iv 0)] [] μ)) ∧ (¬ (wr 1 < wr x1) → (K 1 μ))))) :
    mX1_settingsOf G n (d + 1) x1 x2 μ K := by
  refine zMt_of (lv := [some (Rv G 19), some (Iv x1), some (Iv x2), none, none, none, none]) (by decide) rfl (Nat.le_of_ble_eq_true rfl) ?_
  show pX1_settingsOf G n d K 0 [some (Rv G 19), some (Iv x1), some (Iv x2), none, none, none, none] [] μ
  refine Z_iload_n dX1_settingsOf_0 rfl ?_
  refine Z_iconst dX1_settingsOf_1 ?_
  refine Z_icmp_gt (tgt := 7) dX1_settingsOf_2 (by decide) (fun c1 => ?_) (fun c1 => ?_)
  · have h := h.1 c1
    refine Z_iconst dX1_settingsOf_7 ?_
    refine Z_iload_n dX1_settingsOf_8 rfl ?_
    refine Z_iconst dX1_settingsOf_9 ?_
    refine Z_isub dX1_settingsOf_10 ?_
    refine Z_ishl dX1_settingsOf_11 ?_
    obtain ⟨v2, ev2⟩ : ∃ z : Int, z = zshl 1 (x1 - 1) := ⟨_, rfl⟩
    have h := h v2 ev2
    refine Z_nmi ev2 ?_
    refine Z_istore_n (lv2 := [some (Rv G 19), some (Iv x1), some (Iv x2), some (Iv v2), none, none, none]) dX1_settingsOf_12 rfl (by decide) rfl ?_
    refine Z_lconst (a := 0) dX1_settingsOf_13 (by decide) ?_
    refine Z_lstore (lv2 := [some (Rv G 19), some (Iv x1), some (Iv x2), some (Iv v2), some (Lv 0), none, none]) dX1_settingsOf_14 rfl (by decide) rfl ?_
    refine Z_iconst dX1_settingsOf_16 ?_
    refine Z_istore (lv2 := [some (Rv G 19), some (Iv x1), some (Iv x2), some (Iv v2), some (Lv 0), none, some (Iv 0)]) dX1_settingsOf_17 rfl (by decide) rfl ?_
    exact Z_cut h ⟨rfl, rfl, rfl, rfl, rfl, trivial, rfl, trivial⟩
  · have h := h.2 c1
    refine Z_lconst (a := 1) dX1_settingsOf_5 (by decide) ?_
    exact Z_lreturn dX1_settingsOf_6 ⟨_, rfl, h⟩
theorem bX1_settingsOf_19 {G : zG} {n : Nat} (hn : 26 ≤ n) {d : Nat} {x1 x2 x3 x4 x6 : Int} {μ : zM} {K : Int → zM → Prop}
    (h : (((wr (zshl 1 x3) ≤ wr x6 → (K x4 μ)) ∧ (¬ (wr (zshl 1 x3) ≤ wr x6) → (mX1_splitBy G n x6 x1 x2 μ (fun r2 μ3 => ((wr r2 = wr ((-9)) → (pX1_settingsOf G n d K 19 [some (Rv G 19), some (Iv x1), some (Iv x2), some (Iv x3), some (Lv x4), none, some (Iv (x6 + 1))] [] μ3)) ∧ (¬ (wr r2 = wr ((-9))) → (mX1_settingsOf G n d (x1 - 1) 0 μ3 (fun r5 μ6 => mX1_settingsOf G n d (x1 - 1) x3 μ6 (fun r7 μ8 => ∀ v9 : Int, v9 = x4 + (r5 * r7) → pX1_settingsOf G n d K 19 [some (Rv G 19), some (Iv x1), some (Iv x2), some (Iv x3), some (Lv v9), none, some (Iv (x6 + 1))] [] μ8))))))))))) :
    pX1_settingsOf G n d K 19 [some (Rv G 19), some (Iv x1), some (Iv x2), some (Iv x3), some (Lv x4), none, some (Iv x6)] [] μ := by
  refine Z_iload dX1_settingsOf_19 rfl ?_
  refine Z_iconst dX1_settingsOf_21 ?_
  refine Z_iload_n dX1_settingsOf_22 rfl ?_
  refine Z_ishl dX1_settingsOf_23 ?_
  refine Z_icmp_ge (tgt := 68) dX1_settingsOf_24 (by decide) (fun c1 => ?_) (fun c1 => ?_)
  · have h := h.1 c1
    refine Z_lload dX1_settingsOf_68 rfl ?_
    exact Z_lreturn dX1_settingsOf_70 ⟨_, rfl, h⟩
  · have h := h.2 c1
    refine Z_aload_n dX1_settingsOf_27 rfl ?_
    refine Z_iload dX1_settingsOf_28 rfl ?_
    refine Z_iload_n dX1_settingsOf_30 rfl ?_
    refine Z_iload_n dX1_settingsOf_31 rfl ?_
    refine Z_callVi h md_X1_splitBy sv_X1_splitBy lk_X1_56 zcX1 rfl ⟨by decide, by omega⟩ rfl rfl rfl rfl (Nat.le_of_ble_eq_true rfl) dX1_settingsOf_32 (by constructor <;> simp only [zrm, List.map, Value.category, List.sum_cons, List.sum_nil] <;> omega) ⟨Nat.zero_le _, Nat.zero_le _⟩ ?_
    intro r2 μ3 h
    refine Z_bipush dX1_settingsOf_35 (by decide) ?_
    refine Z_icmp_eq (tgt := 62) dX1_settingsOf_37 (by decide) (fun c4 => ?_) (fun c4 => ?_)
    · have h := h.1 c4
      refine Z_iinc (lv2 := [some (Rv G 19), some (Iv x1), some (Iv x2), some (Iv x3), some (Lv x4), none, some (Iv (x6 + 1))]) dX1_settingsOf_62 rfl rfl (by decide) rfl ?_
      refine Z_goto (tgt := 19) dX1_settingsOf_65 (by decide) ?_
      exact Z_cut h ⟨rfl, rfl, rfl, rfl, rfl, trivial, rfl, trivial⟩
    · have h := h.2 c4
      refine Z_lload dX1_settingsOf_40 rfl ?_
      refine Z_aload_n dX1_settingsOf_42 rfl ?_
      refine Z_iload_n dX1_settingsOf_43 rfl ?_
      refine Z_iconst dX1_settingsOf_44 ?_
      refine Z_isub dX1_settingsOf_45 ?_
      refine Z_iconst dX1_settingsOf_46 ?_
      refine Z_callVl h md_X1_settingsOf sv_X1_settingsOf lk_X1_42 zcX1 rfl ⟨by decide, by omega⟩ rfl rfl rfl rfl (Nat.le_of_ble_eq_true rfl) dX1_settingsOf_47 (by constructor <;> simp only [zrm, List.map, Value.category, List.sum_cons, List.sum_nil] <;> omega) ⟨Nat.zero_le _, Nat.zero_le _⟩ ?_
      intro r5 μ6 h
      refine Z_aload_n dX1_settingsOf_50 rfl ?_
      refine Z_iload_n dX1_settingsOf_51 rfl ?_
      refine Z_iconst dX1_settingsOf_52 ?_
      refine Z_isub dX1_settingsOf_53 ?_
      refine Z_iload_n dX1_settingsOf_54 rfl ?_
      refine Z_callVl h md_X1_settingsOf sv_X1_settingsOf lk_X1_42 zcX1 rfl ⟨by decide, by omega⟩ rfl rfl rfl rfl (Nat.le_of_ble_eq_true rfl) dX1_settingsOf_55 (by constructor <;> simp only [zrm, List.map, Value.category, List.sum_cons, List.sum_nil] <;> omega) ⟨Nat.zero_le _, Nat.zero_le _⟩ ?_
      intro r7 μ8 h
      refine Z_lmul dX1_settingsOf_58 ?_
      refine Z_ladd dX1_settingsOf_59 ?_
      obtain ⟨v9, ev9⟩ : ∃ z : Int, z = x4 + (r5 * r7) := ⟨_, rfl⟩
      have h := h v9 ev9
      refine Z_nml ev9 ?_
      refine Z_lstore (lv2 := [some (Rv G 19), some (Iv x1), some (Iv x2), some (Iv x3), some (Lv v9), none, some (Iv x6)]) dX1_settingsOf_60 rfl (by decide) rfl ?_
      refine Z_iinc (lv2 := [some (Rv G 19), some (Iv x1), some (Iv x2), some (Iv x3), some (Lv v9), none, some (Iv (x6 + 1))]) dX1_settingsOf_62 rfl rfl (by decide) rfl ?_
      refine Z_goto (tgt := 19) dX1_settingsOf_65 (by decide) ?_
      exact Z_cut h ⟨rfl, rfl, rfl, rfl, rfl, trivial, rfl, trivial⟩
abbrev mX1_leastOf (G : zG) (n : Nat) (d : Nat) (x1 x2 : Int) (μ : zM) (K : Int → zM → Prop) : Prop := zMt G n (3 + d) yX1_leastOf cX1_leastOf 13 (some .long) [Rv G 19, Iv x1, Iv x2] μ (zKl K)
abbrev pX1_leastOf (G : zG) (n : Nat) (d : Nat) (K : Int → zM → Prop) (pc : Nat) (lv : List (Option Value)) (st : List Value) (μ : zM) : Prop := Z G (zrm (3 + (d + 1)) 0 0) RX1 "leastOf" cX1_leastOf 13 (some .long) (zPh G n (zKl K)) 0 0 pc lv st (zE G n μ)
theorem eX1_leastOf {G : zG} {n : Nat} (hn : 26 ≤ n) {d : Nat} {x1 x2 : Int} {μ : zM} {K : Int → zM → Prop}
    (h : (((wr 1 < wr x1 → (∀ v2 : Int, v2 = zshl 1 x1 → ∀ v3 : Int, v3 = zdiv v2 2 → ∀ v4 : Int, v4 = (-9) → pX1_leastOf G n d K 32 [some (Rv G 19), some (Iv x1), some (Iv x2), some (Iv v2), some (Iv v3), some (Lv v4), none, some (Iv 0), none, none, none, none, none] [] μ)) ∧ (¬ (wr 1 < wr x1) → ((0 ≤ wr 1 ∧ wr 1 < 4) ∧ (0 ≤ wr x2 ∧ wr x2 < 8) ∧ K (wr (μ (21 + 1 + wr 1) (wr x2))) μ))))) :
    mX1_leastOf G n (d + 1) x1 x2 μ K := by
  refine zMt_of (lv := [some (Rv G 19), some (Iv x1), some (Iv x2), none, none, none, none, none, none, none, none, none, none]) (by decide) rfl (Nat.le_of_ble_eq_true rfl) ?_
  show pX1_leastOf G n d K 0 [some (Rv G 19), some (Iv x1), some (Iv x2), none, none, none, none, none, none, none, none, none, none] [] μ
  refine Z_iload_n dX1_leastOf_0 rfl ?_
  refine Z_iconst dX1_leastOf_1 ?_
  refine Z_icmp_gt (tgt := 15) dX1_leastOf_2 (by decide) (fun c1 => ?_) (fun c1 => ?_)
  · have h := h.1 c1
    refine Z_iconst dX1_leastOf_15 ?_
    refine Z_iload_n dX1_leastOf_16 rfl ?_
    refine Z_ishl dX1_leastOf_17 ?_
    obtain ⟨v2, ev2⟩ : ∃ z : Int, z = zshl 1 x1 := ⟨_, rfl⟩
    have h := h v2 ev2
    refine Z_nmi ev2 ?_
    refine Z_istore_n (lv2 := [some (Rv G 19), some (Iv x1), some (Iv x2), some (Iv v2), none, none, none, none, none, none, none, none, none]) dX1_leastOf_18 rfl (by decide) rfl ?_
    refine Z_iload_n dX1_leastOf_19 rfl ?_
    refine Z_iconst dX1_leastOf_20 ?_
    refine Z_idiv dX1_leastOf_21 (by decide) ?_
    obtain ⟨v3, ev3⟩ : ∃ z : Int, z = zdiv v2 2 := ⟨_, rfl⟩
    have h := h v3 ev3
    refine Z_nmi ev3 ?_
    refine Z_istore (lv2 := [some (Rv G 19), some (Iv x1), some (Iv x2), some (Iv v2), some (Iv v3), none, none, none, none, none, none, none, none]) dX1_leastOf_22 rfl (by decide) rfl ?_
    refine Z_ldc2 (a := -9) dX1_leastOf_24 cl_X1_59 (by decide) ?_
    obtain ⟨v4, ev4⟩ : ∃ z : Int, z = (-9) := ⟨_, rfl⟩
    have h := h v4 ev4
    refine Z_nml ev4 ?_
    refine Z_lstore (lv2 := [some (Rv G 19), some (Iv x1), some (Iv x2), some (Iv v2), some (Iv v3), some (Lv v4), none, none, none, none, none, none, none]) dX1_leastOf_27 rfl (by decide) rfl ?_
    refine Z_iconst dX1_leastOf_29 ?_
    refine Z_istore (lv2 := [some (Rv G 19), some (Iv x1), some (Iv x2), some (Iv v2), some (Iv v3), some (Lv v4), none, some (Iv 0), none, none, none, none, none]) dX1_leastOf_30 rfl (by decide) rfl ?_
    exact Z_cut h ⟨rfl, rfl, rfl, rfl, rfl, rfl, trivial, rfl, trivial, trivial, trivial, trivial, trivial, trivial⟩
  · have h := h.2 c1
    refine Z_aload_n dX1_leastOf_5 rfl ?_
    refine Z_gr (t := 21) zcX1 fl_X1_21 ⟨by decide, by omega⟩ rfl rfl rfl (by decide) (by decide) dX1_leastOf_6 ?_
    refine Z_iconst dX1_leastOf_9 ?_
    obtain ⟨b5, h⟩ := h
    refine Z_aald3 (zin_c (by decide) (by omega) (by decide) (by decide) b5) dX1_leastOf_10 ?_
    refine Z_iload_n dX1_leastOf_11 rfl ?_
    obtain ⟨b6, h⟩ := h
    refine Z_iald (zin_c (zr_21 b5).1 (by have := b5; omega) (zr_21 b5).2.1 (zr_21 b5).2.2 b6) dX1_leastOf_12 ?_
    refine Z_i2l dX1_leastOf_13 ?_
    exact Z_lreturn dX1_leastOf_14 ⟨_, rfl, h⟩
theorem bX1_leastOf_32 {G : zG} {n : Nat} (hn : 26 ≤ n) {d : Nat} {x1 x2 x3 x4 x5 x7 : Int} {μ : zM} {K : Int → zM → Prop}
    (h : (((wr (zshl 1 x4) ≤ wr x7 → (K x5 μ)) ∧ (¬ (wr (zshl 1 x4) ≤ wr x7) → (mX1_splitBy G n x7 x1 x2 μ (fun r2 μ3 => ((¬ wr r2 = wr ((-9)) → (mX1_leastOf G n d (x1 - 1) 0 μ3 (fun r5 μ6 => mX1_leastOf G n d (x1 - 1) x4 μ6 (fun r7 μ8 => (0 ≤ wr (x1 - 1) ∧ wr (x1 - 1) < 4) ∧ ∀ v10 : Int, v10 = zlor r5 (zlshl r7 (zpairs (wr (x1 - 1)).toNat)) → ∀ v11 : Int, v11 = zlor (wr (zor x7 (zshl r2 x4))) (zlshl v10 x3) → ((wr (zlcmp x5 ((-9))) = 0 → (pX1_leastOf G n d K 32 [some (Rv G 19), some (Iv x1), some (Iv x2), some (Iv x3), some (Iv x4), some (Lv v11), none, some (Iv (x7 + 1)), none, none, none, none, none] [] μ8)) ∧ (¬ (wr (zlcmp x5 ((-9))) = 0) → (((0 ≤ wr (zlcmp v11 x5) → (pX1_leastOf G n d K 32 [some (Rv G 19), some (Iv x1), some (Iv x2), some (Iv x3), some (Iv x4), some (Lv x5), none, some (Iv (x7 + 1)), none, none, none, none, none] [] μ8)) ∧ (¬ (0 ≤ wr (zlcmp v11 x5)) → (pX1_leastOf G n d K 32 [some (Rv G 19), some (Iv x1), some (Iv x2), some (Iv x3), some (Iv x4), some (Lv v11), none, some (Iv (x7 + 1)), none, none, none, none, none] [] μ8)))))))))) ∧ (wr r2 = wr ((-9)) → (pX1_leastOf G n d K 32 [some (Rv G 19), some (Iv x1), some (Iv x2), some (Iv x3), some (Iv x4), some (Lv x5), none, some (Iv (x7 + 1)), none, none, none, none, none] [] μ3))))))))) :
    pX1_leastOf G n d K 32 [some (Rv G 19), some (Iv x1), some (Iv x2), some (Iv x3), some (Iv x4), some (Lv x5), none, some (Iv x7), none, none, none, none, none] [] μ := by
  refine Z_iload dX1_leastOf_32 rfl ?_
  refine Z_iconst dX1_leastOf_34 ?_
  refine Z_iload dX1_leastOf_35 rfl ?_
  refine Z_ishl dX1_leastOf_37 ?_
  refine Z_icmp_ge (tgt := 132) dX1_leastOf_38 (by decide) (fun c1 => ?_) (fun c1 => ?_)
  · have h := h.1 c1
    refine Z_lload dX1_leastOf_132 rfl ?_
    exact Z_lreturn dX1_leastOf_134 ⟨_, rfl, h⟩
  · have h := h.2 c1
    refine Z_aload_n dX1_leastOf_41 rfl ?_
    refine Z_iload dX1_leastOf_42 rfl ?_
    refine Z_iload_n dX1_leastOf_44 rfl ?_
    refine Z_iload_n dX1_leastOf_45 rfl ?_
    refine Z_callVi h md_X1_splitBy sv_X1_splitBy lk_X1_56 zcX1 rfl ⟨by decide, by omega⟩ rfl rfl rfl rfl (Nat.le_of_ble_eq_true rfl) dX1_leastOf_46 (by constructor <;> simp only [zrm, List.map, Value.category, List.sum_cons, List.sum_nil] <;> omega) ⟨Nat.zero_le _, Nat.zero_le _⟩ ?_
    intro r2 μ3 h
    refine Z_istore (lv2 := [some (Rv G 19), some (Iv x1), some (Iv x2), some (Iv x3), some (Iv x4), some (Lv x5), none, some (Iv x7), some (Iv r2), none, none, none, none]) dX1_leastOf_49 rfl (by decide) rfl ?_
    refine Z_iload dX1_leastOf_51 rfl ?_
    refine Z_bipush dX1_leastOf_53 (by decide) ?_
    refine Z_icmp_ne (tgt := 61) dX1_leastOf_55 (by decide) (fun c4 => ?_) (fun c4 => ?_)
    · have h := h.1 c4
      refine Z_aload_n dX1_leastOf_61 rfl ?_
      refine Z_iload_n dX1_leastOf_62 rfl ?_
      refine Z_iconst dX1_leastOf_63 ?_
      refine Z_isub dX1_leastOf_64 ?_
      refine Z_iconst dX1_leastOf_65 ?_
      refine Z_callVl h md_X1_leastOf sv_X1_leastOf lk_X1_46 zcX1 rfl ⟨by decide, by omega⟩ rfl rfl rfl rfl (Nat.le_of_ble_eq_true rfl) dX1_leastOf_66 (by constructor <;> simp only [zrm, List.map, Value.category, List.sum_cons, List.sum_nil] <;> omega) ⟨Nat.zero_le _, Nat.zero_le _⟩ ?_
      intro r5 μ6 h
      refine Z_aload_n dX1_leastOf_69 rfl ?_
      refine Z_iload_n dX1_leastOf_70 rfl ?_
      refine Z_iconst dX1_leastOf_71 ?_
      refine Z_isub dX1_leastOf_72 ?_
      refine Z_iload dX1_leastOf_73 rfl ?_
      refine Z_callVl h md_X1_leastOf sv_X1_leastOf lk_X1_46 zcX1 rfl ⟨by decide, by omega⟩ rfl rfl rfl rfl (Nat.le_of_ble_eq_true rfl) dX1_leastOf_75 (by constructor <;> simp only [zrm, List.map, Value.category, List.sum_cons, List.sum_nil] <;> omega) ⟨Nat.zero_le _, Nat.zero_le _⟩ ?_
      intro r7 μ8 h
      refine Z_gsP fs_X1_53 dX1_leastOf_78 ?_
      refine Z_iload_n dX1_leastOf_81 rfl ?_
      refine Z_iconst dX1_leastOf_82 ?_
      refine Z_isub dX1_leastOf_83 ?_
      obtain ⟨b9, h⟩ := h
      refine Z_ialdP b9 dX1_leastOf_84 ?_
      refine Z_lshl dX1_leastOf_85 ?_
      refine Z_lor dX1_leastOf_86 ?_
      obtain ⟨v10, ev10⟩ : ∃ z : Int, z = zlor r5 (zlshl r7 (zpairs (wr (x1 - 1)).toNat)) := ⟨_, rfl⟩
      have h := h v10 ev10
      refine Z_nml ev10 ?_
      refine Z_lstore (lv2 := [some (Rv G 19), some (Iv x1), some (Iv x2), some (Iv x3), some (Iv x4), some (Lv x5), none, some (Iv x7), some (Iv r2), some (Lv v10), none, none, none]) dX1_leastOf_87 rfl (by decide) rfl ?_
      refine Z_iload dX1_leastOf_89 rfl ?_
      refine Z_iload dX1_leastOf_91 rfl ?_
      refine Z_iload dX1_leastOf_93 rfl ?_
      refine Z_ishl dX1_leastOf_95 ?_
      refine Z_ior dX1_leastOf_96 ?_
      refine Z_i2l dX1_leastOf_97 ?_
      refine Z_lload dX1_leastOf_98 rfl ?_
      refine Z_iload_n dX1_leastOf_100 rfl ?_
      refine Z_lshl dX1_leastOf_101 ?_
      refine Z_lor dX1_leastOf_102 ?_
      obtain ⟨v11, ev11⟩ : ∃ z : Int, z = zlor (wr (zor x7 (zshl r2 x4))) (zlshl v10 x3) := ⟨_, rfl⟩
      have h := h v11 ev11
      refine Z_nml ev11 ?_
      refine Z_lstore (lv2 := [some (Rv G 19), some (Iv x1), some (Iv x2), some (Iv x3), some (Iv x4), some (Lv x5), none, some (Iv x7), some (Iv r2), some (Lv v10), none, some (Lv v11), none]) dX1_leastOf_103 rfl (by decide) rfl ?_
      refine Z_lload dX1_leastOf_105 rfl ?_
      refine Z_ldc2 (a := -9) dX1_leastOf_107 cl_X1_59 (by decide) ?_
      refine Z_lcmp dX1_leastOf_110 ?_
      refine Z_if_eq (tgt := 122) dX1_leastOf_111 (by decide) (fun c12 => ?_) (fun c12 => ?_)
      · have h := h.1 c12
        refine Z_lload dX1_leastOf_122 rfl ?_
        refine Z_lstore (lv2 := [some (Rv G 19), some (Iv x1), some (Iv x2), some (Iv x3), some (Iv x4), some (Lv v11), none, some (Iv x7), some (Iv r2), some (Lv v10), none, some (Lv v11), none]) dX1_leastOf_124 rfl (by decide) rfl ?_
        refine Z_iinc (lv2 := [some (Rv G 19), some (Iv x1), some (Iv x2), some (Iv x3), some (Iv x4), some (Lv v11), none, some (Iv (x7 + 1)), some (Iv r2), some (Lv v10), none, some (Lv v11), none]) dX1_leastOf_126 rfl rfl (by decide) rfl ?_
        refine Z_goto (tgt := 32) dX1_leastOf_129 (by decide) ?_
        exact Z_cut h ⟨rfl, rfl, rfl, rfl, rfl, rfl, trivial, rfl, trivial, trivial, trivial, trivial, trivial, trivial⟩
      · have h := h.2 c12
        refine Z_lload dX1_leastOf_114 rfl ?_
        refine Z_lload dX1_leastOf_116 rfl ?_
        refine Z_lcmp dX1_leastOf_118 ?_
        refine Z_if_ge (tgt := 126) dX1_leastOf_119 (by decide) (fun c13 => ?_) (fun c13 => ?_)
        · have h := h.1 c13
          refine Z_iinc (lv2 := [some (Rv G 19), some (Iv x1), some (Iv x2), some (Iv x3), some (Iv x4), some (Lv x5), none, some (Iv (x7 + 1)), some (Iv r2), some (Lv v10), none, some (Lv v11), none]) dX1_leastOf_126 rfl rfl (by decide) rfl ?_
          refine Z_goto (tgt := 32) dX1_leastOf_129 (by decide) ?_
          exact Z_cut h ⟨rfl, rfl, rfl, rfl, rfl, rfl, trivial, rfl, trivial, trivial, trivial, trivial, trivial, trivial⟩
        · have h := h.2 c13
          refine Z_lload dX1_leastOf_122 rfl ?_
          refine Z_lstore (lv2 := [some (Rv G 19), some (Iv x1), some (Iv x2), some (Iv x3), some (Iv x4), some (Lv v11), none, some (Iv x7), some (Iv r2), some (Lv v10), none, some (Lv v11), none]) dX1_leastOf_124 rfl (by decide) rfl ?_
          refine Z_iinc (lv2 := [some (Rv G 19), some (Iv x1), some (Iv x2), some (Iv x3), some (Iv x4), some (Lv v11), none, some (Iv (x7 + 1)), some (Iv r2), some (Lv v10), none, some (Lv v11), none]) dX1_leastOf_126 rfl rfl (by decide) rfl ?_
          refine Z_goto (tgt := 32) dX1_leastOf_129 (by decide) ?_
          exact Z_cut h ⟨rfl, rfl, rfl, rfl, rfl, rfl, trivial, rfl, trivial, trivial, trivial, trivial, trivial, trivial⟩
    · have h := h.2 c4
      refine Z_goto (tgt := 126) dX1_leastOf_58 (by decide) ?_
      refine Z_iinc (lv2 := [some (Rv G 19), some (Iv x1), some (Iv x2), some (Iv x3), some (Iv x4), some (Lv x5), none, some (Iv (x7 + 1)), some (Iv r2), none, none, none, none]) dX1_leastOf_126 rfl rfl (by decide) rfl ?_
      refine Z_goto (tgt := 32) dX1_leastOf_129 (by decide) ?_
      exact Z_cut h ⟨rfl, rfl, rfl, rfl, rfl, rfl, trivial, rfl, trivial, trivial, trivial, trivial, trivial, trivial⟩
abbrev mX1_carryBy (G : zG) (n : Nat) (x1 x2 : Int) (μ : zM) (K : zM → Prop) : Prop := zMt G n 13 yX1_carryBy cX1_carryBy 4 none [Rv G 19, Iv x1, Iv x2] μ (zKv K)
abbrev pX1_carryBy (G : zG) (n : Nat) (K : zM → Prop) (pc : Nat) (lv : List (Option Value)) (st : List Value) (μ : zM) : Prop := Z G (zrm 13 0 0) RX1 "carryBy" cX1_carryBy 4 none (zPh G n (zKv K)) 0 0 pc lv st (zE G n μ)
theorem eX1_carryBy {G : zG} {n : Nat} (hn : 26 ≤ n) {x1 x2 : Int} {μ : zM} {K : zM → Prop}
    (h : (∀ μ1 : zM, μ1 = zu μ 19 0 x1 → pX1_carryBy G n K 7 [some (Rv G 19), some (Iv x1), some (Iv x2), some (Iv 0)] [] μ1)) :
    mX1_carryBy G n x1 x2 μ K := by
  refine zMt_of (lv := [some (Rv G 19), some (Iv x1), some (Iv x2), none]) (by decide) rfl (Nat.le_of_ble_eq_true rfl) ?_
  show pX1_carryBy G n K 0 [some (Rv G 19), some (Iv x1), some (Iv x2), none] [] μ
  refine Z_aload_n dX1_carryBy_0 rfl ?_
  refine Z_iload_n dX1_carryBy_1 rfl ?_
  refine Y_pi 0 zcX1 fk_X1_9 ⟨by decide, by omega⟩ rfl rfl rfl (by decide) rfl (tyX1_ok 0 (by decide)) dX1_carryBy_2 rfl ?_
  obtain ⟨μ1, eμ1⟩ : ∃ z : zM, z = zu μ 19 0 x1 := ⟨_, rfl⟩
  have h := h μ1 eμ1
  refine Z_mem eμ1 ?_
  refine Z_iconst dX1_carryBy_5 ?_
  refine Z_istore_n (lv2 := [some (Rv G 19), some (Iv x1), some (Iv x2), some (Iv 0)]) dX1_carryBy_6 rfl (by decide) rfl ?_
  exact Z_cut h ⟨rfl, rfl, rfl, rfl, trivial⟩
theorem bX1_carryBy_7 {G : zG} {n : Nat} (hn : 26 ≤ n) {x1 x2 x3 : Int} {μ : zM} {K : zM → Prop}
    (h : (mX1_width G n  μ (fun r1 μ2 => ((wr r1 ≤ wr x3 → (K μ2)) ∧ (¬ (wr r1 ≤ wr x3) → (mX1_carried G n 10 x1 x2 x3 μ2 (fun r4 μ5 => (0 ≤ wr x3 ∧ wr x3 < 8) ∧ ∀ μ7 : zM, μ7 = zu μ5 20 (wr x3) r4 → pX1_carryBy G n K 7 [some (Rv G 19), some (Iv x1), some (Iv x2), some (Iv (x3 + 1))] [] μ7))))))) :
    pX1_carryBy G n K 7 [some (Rv G 19), some (Iv x1), some (Iv x2), some (Iv x3)] [] μ := by
  refine Z_iload_n dX1_carryBy_7 rfl ?_
  refine Z_aload_n dX1_carryBy_8 rfl ?_
  refine Z_callVi h md_X1_width sv_X1_width lk_X1_34 zcX1 rfl ⟨by decide, by omega⟩ rfl rfl rfl rfl (Nat.le_of_ble_eq_true rfl) dX1_carryBy_9 ⟨by decide, Nat.le_of_ble_eq_true rfl⟩ ⟨Nat.zero_le _, Nat.zero_le _⟩ ?_
  intro r1 μ2 h
  refine Z_icmp_ge (tgt := 33) dX1_carryBy_12 (by decide) (fun c3 => ?_) (fun c3 => ?_)
  · have h := h.1 c3
    exact Z_return dX1_carryBy_33 ⟨rfl, h⟩
  · have h := h.2 c3
    refine Z_aload_n dX1_carryBy_15 rfl ?_
    refine Z_gr (t := 20) zcX1 fl_X1_15 ⟨by decide, by omega⟩ rfl rfl rfl (by decide) (by decide) dX1_carryBy_16 ?_
    refine Z_iload_n dX1_carryBy_19 rfl ?_
    refine Z_iload_n dX1_carryBy_20 rfl ?_
    refine Z_iload_n dX1_carryBy_21 rfl ?_
    refine Z_iload_n dX1_carryBy_22 rfl ?_
    refine Z_callSi h md_X1_carried sv_X1_carried lk_X1_38 rfl rfl (Nat.le_of_ble_eq_true rfl) dX1_carryBy_23 ⟨by decide, Nat.le_of_ble_eq_true rfl⟩ ⟨Nat.zero_le _, Nat.zero_le _⟩ ?_
    intro r4 μ5 h
    obtain ⟨b6, h⟩ := h
    refine Z_iast (zin_c (by decide) (by omega) (by decide) (by decide) b6) dX1_carryBy_26 ?_
    obtain ⟨μ7, eμ7⟩ : ∃ z : zM, z = zu μ5 20 (wr x3) r4 := ⟨_, rfl⟩
    have h := h μ7 eμ7
    refine Z_mem eμ7 ?_
    refine Z_iinc (lv2 := [some (Rv G 19), some (Iv x1), some (Iv x2), some (Iv (x3 + 1))]) dX1_carryBy_27 rfl rfl (by decide) rfl ?_
    refine Z_goto (tgt := 7) dX1_carryBy_30 (by decide) ?_
    exact Z_cut h ⟨rfl, rfl, rfl, rfl, trivial⟩
abbrev mX1_countSettings (G : zG) (n : Nat) (μ : zM) (K : Int → zM → Prop) : Prop := zMt G n 14 yX1_countSettings cX1_countSettings 1 (some .long) [Rv G 19] μ (zKl K)
abbrev pX1_countSettings (G : zG) (n : Nat) (K : Int → zM → Prop) (pc : Nat) (lv : List (Option Value)) (st : List Value) (μ : zM) : Prop := Z G (zrm 14 0 0) RX1 "countSettings" cX1_countSettings 1 (some .long) (zPh G n (zKl K)) 0 0 pc lv st (zE G n μ)
theorem eX1_countSettings {G : zG} {n : Nat} (hn : 26 ≤ n) {μ : zM} {K : Int → zM → Prop}
    (h : ((0 ≤ wr (μ 19 0) ∧ wr (μ 19 0) < 4) ∧ mX1_width G n  μ (fun r2 μ3 => (0 ≤ wr 0 ∧ wr 0 + wr r2 ≤ 8) ∧ (0 ≤ wr 0 ∧ wr 0 + wr r2 ≤ 8) ∧ 0 ≤ wr r2 ∧ ∀ μ7 : zM, μ7 = zcp μ3 20 (wr 0) (21 + 1 + wr (μ 19 0)) (wr 0) (wr r2) → mX1_settingsOf G n 10 (μ7 19 0) 0 μ7 (fun r8 μ9 => K r8 μ9)))) :
    mX1_countSettings G n  μ K := by
  refine zMt_of (lv := [some (Rv G 19)]) (by decide) rfl (Nat.le_of_ble_eq_true rfl) ?_
  show pX1_countSettings G n K 0 [some (Rv G 19)] [] μ
  refine Z_aload_n dX1_countSettings_0 rfl ?_
  refine Z_gr (t := 20) zcX1 fl_X1_15 ⟨by decide, by omega⟩ rfl rfl rfl (by decide) (by decide) dX1_countSettings_1 ?_
  refine Z_iconst dX1_countSettings_4 ?_
  refine Z_aload_n dX1_countSettings_5 rfl ?_
  refine Z_gr (t := 21) zcX1 fl_X1_21 ⟨by decide, by omega⟩ rfl rfl rfl (by decide) (by decide) dX1_countSettings_6 ?_
  refine Z_aload_n dX1_countSettings_9 rfl ?_
  refine Y_gi 0 zcX1 fl_X1_9 ⟨by decide, by omega⟩ rfl rfl rfl (by decide) dX1_countSettings_10 rfl ?_
  obtain ⟨b1, h⟩ := h
  refine Z_aald3 (zin_c (by decide) (by omega) (by decide) (by decide) b1) dX1_countSettings_13 ?_
  refine Z_iconst dX1_countSettings_14 ?_
  refine Z_aload_n dX1_countSettings_15 rfl ?_
  refine Z_callVi h md_X1_width sv_X1_width lk_X1_34 zcX1 rfl ⟨by decide, by omega⟩ rfl rfl rfl rfl (Nat.le_of_ble_eq_true rfl) dX1_countSettings_16 ⟨by decide, Nat.le_of_ble_eq_true rfl⟩ ⟨Nat.zero_le _, Nat.zero_le _⟩ ?_
  intro r2 μ3 h
  obtain ⟨b4, b5, b6, h⟩ := h
  refine Z_copy lk_X1_28 ac1 ac2 ac3 ⟨by decide, by omega, by decide⟩ ⟨(zr_21 b1).1, by have := b1; omega, (zr_21 b1).2.1⟩ (zcpb (by decide) b4) (by rw [(zr_21 b1).2.2]; exact b5) b6 ⟨by decide, Nat.le_of_ble_eq_true rfl⟩ dX1_countSettings_19 ?_
  obtain ⟨μ7, eμ7⟩ : ∃ z : zM, z = zcp μ3 20 (wr 0) (21 + 1 + wr (μ 19 0)) (wr 0) (wr r2) := ⟨_, rfl⟩
  have h := h μ7 eμ7
  refine Z_mem eμ7 ?_
  refine Z_aload_n dX1_countSettings_22 rfl ?_
  refine Z_aload_n dX1_countSettings_23 rfl ?_
  refine Y_gi 0 zcX1 fl_X1_9 ⟨by decide, by omega⟩ rfl rfl rfl (by decide) dX1_countSettings_24 rfl ?_
  refine Z_iconst dX1_countSettings_27 ?_
  refine Z_callVl h md_X1_settingsOf sv_X1_settingsOf lk_X1_42 zcX1 rfl ⟨by decide, by omega⟩ rfl rfl rfl rfl (Nat.le_of_ble_eq_true rfl) dX1_countSettings_28 ⟨by decide, Nat.le_of_ble_eq_true rfl⟩ ⟨Nat.zero_le _, Nat.zero_le _⟩ ?_
  intro r8 μ9 h
  exact Z_lreturn dX1_countSettings_31 ⟨_, rfl, h⟩
abbrev mX1_leastSettings (G : zG) (n : Nat) (μ : zM) (K : Int → zM → Prop) : Prop := zMt G n 14 yX1_leastSettings cX1_leastSettings 1 (some .long) [Rv G 19] μ (zKl K)
abbrev pX1_leastSettings (G : zG) (n : Nat) (K : Int → zM → Prop) (pc : Nat) (lv : List (Option Value)) (st : List Value) (μ : zM) : Prop := Z G (zrm 14 0 0) RX1 "leastSettings" cX1_leastSettings 1 (some .long) (zPh G n (zKl K)) 0 0 pc lv st (zE G n μ)
theorem eX1_leastSettings {G : zG} {n : Nat} (hn : 26 ≤ n) {μ : zM} {K : Int → zM → Prop}
    (h : ((0 ≤ wr (μ 19 0) ∧ wr (μ 19 0) < 4) ∧ mX1_width G n  μ (fun r2 μ3 => (0 ≤ wr 0 ∧ wr 0 + wr r2 ≤ 8) ∧ (0 ≤ wr 0 ∧ wr 0 + wr r2 ≤ 8) ∧ 0 ≤ wr r2 ∧ ∀ μ7 : zM, μ7 = zcp μ3 20 (wr 0) (21 + 1 + wr (μ 19 0)) (wr 0) (wr r2) → mX1_leastOf G n 10 (μ7 19 0) 0 μ7 (fun r8 μ9 => K r8 μ9)))) :
    mX1_leastSettings G n  μ K := by
  refine zMt_of (lv := [some (Rv G 19)]) (by decide) rfl (Nat.le_of_ble_eq_true rfl) ?_
  show pX1_leastSettings G n K 0 [some (Rv G 19)] [] μ
  refine Z_aload_n dX1_leastSettings_0 rfl ?_
  refine Z_gr (t := 20) zcX1 fl_X1_15 ⟨by decide, by omega⟩ rfl rfl rfl (by decide) (by decide) dX1_leastSettings_1 ?_
  refine Z_iconst dX1_leastSettings_4 ?_
  refine Z_aload_n dX1_leastSettings_5 rfl ?_
  refine Z_gr (t := 21) zcX1 fl_X1_21 ⟨by decide, by omega⟩ rfl rfl rfl (by decide) (by decide) dX1_leastSettings_6 ?_
  refine Z_aload_n dX1_leastSettings_9 rfl ?_
  refine Y_gi 0 zcX1 fl_X1_9 ⟨by decide, by omega⟩ rfl rfl rfl (by decide) dX1_leastSettings_10 rfl ?_
  obtain ⟨b1, h⟩ := h
  refine Z_aald3 (zin_c (by decide) (by omega) (by decide) (by decide) b1) dX1_leastSettings_13 ?_
  refine Z_iconst dX1_leastSettings_14 ?_
  refine Z_aload_n dX1_leastSettings_15 rfl ?_
  refine Z_callVi h md_X1_width sv_X1_width lk_X1_34 zcX1 rfl ⟨by decide, by omega⟩ rfl rfl rfl rfl (Nat.le_of_ble_eq_true rfl) dX1_leastSettings_16 ⟨by decide, Nat.le_of_ble_eq_true rfl⟩ ⟨Nat.zero_le _, Nat.zero_le _⟩ ?_
  intro r2 μ3 h
  obtain ⟨b4, b5, b6, h⟩ := h
  refine Z_copy lk_X1_28 ac1 ac2 ac3 ⟨by decide, by omega, by decide⟩ ⟨(zr_21 b1).1, by have := b1; omega, (zr_21 b1).2.1⟩ (zcpb (by decide) b4) (by rw [(zr_21 b1).2.2]; exact b5) b6 ⟨by decide, Nat.le_of_ble_eq_true rfl⟩ dX1_leastSettings_19 ?_
  obtain ⟨μ7, eμ7⟩ : ∃ z : zM, z = zcp μ3 20 (wr 0) (21 + 1 + wr (μ 19 0)) (wr 0) (wr r2) := ⟨_, rfl⟩
  have h := h μ7 eμ7
  refine Z_mem eμ7 ?_
  refine Z_aload_n dX1_leastSettings_22 rfl ?_
  refine Z_aload_n dX1_leastSettings_23 rfl ?_
  refine Y_gi 0 zcX1 fl_X1_9 ⟨by decide, by omega⟩ rfl rfl rfl (by decide) dX1_leastSettings_24 rfl ?_
  refine Z_iconst dX1_leastSettings_27 ?_
  refine Z_callVl h md_X1_leastOf sv_X1_leastOf lk_X1_46 zcX1 rfl ⟨by decide, by omega⟩ rfl rfl rfl rfl (Nat.le_of_ble_eq_true rfl) dX1_leastSettings_28 ⟨by decide, Nat.le_of_ble_eq_true rfl⟩ ⟨Nat.zero_le _, Nat.zero_le _⟩ ?_
  intro r8 μ9 h
  exact Z_lreturn dX1_leastSettings_31 ⟨_, rfl, h⟩
